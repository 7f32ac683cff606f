/-! blocks of TramLines$Blocks TramLines$Day TramLines$Fleet TramLines$History TramLines$Line (by program) -/
def eX0_addBlock (G : GT) (K : List Value → Mem → Prop) (X : String → Mem → Prop) (pc : Nat) (lv : List (Nat × Value)) (st : List Value) (M : Mem) : Prop := Ex G zX0_addBlock 0 0 K X 0 pc lv st M
set_option maxRecDepth 20000 in
set_option maxHeartbeats 4000000 in
theorem bX0_addBlock {G : GT} {K : List Value → Mem → Prop} {X : String → Mem → Prop} {M : Mem} {i : Int} (hi0 : 0 ≤ i) (hi1 : i < 12) {v1 v2 v3 : Int} (h : I32 (M 1 i 25 3) ∧ (((M 1 i 25 3) < 6 → 0 ≤ M 1 i 25 3 ∧ M 1 i 25 3 < 6 ∧ ∀ M10 : Mem, M10 = wr (wr (wr M 1 i 26 (M 1 i 25 3) v1) 1 i 27 (M 1 i 25 3) v2) 1 i 28 (M 1 i 25 3) v3 → K [iv (((wr M10 1 i 25 3 ((M10 1 i 25 3) + 1)) 1 i 25 3) - 1)] (wr M10 1 i 25 3 ((M10 1 i 25 3) + 1))) ∧ (¬ (M 1 i 25 3) < 6 → K [iv (-1)] M))) : Call G 0 0 zX0_addBlock [rr G 1 i 25, iv v1, iv v2, iv v3] M K X := by
  refine call_intro (lv := [(0, rr G 1 i 25), (1, iv v1), (2, iv v2), (3, iv v3)]) (by decide) rfl (Nat.le_of_ble_eq_true rfl) rfl ?_
  refine ev_aload_n (j := 0) dX0_addBlock_0 rfl rfl ?_
  refine ev_get frX0_27 dX0_addBlock_1 (dom1 hi0 hi1 (by decide) (by decide)) en1_25 rfl ?_
  refine ev_bipush dX0_addBlock_4 (by decide) ?_
  obtain ⟨s1, h2⟩ := h
  obtain ⟨h3, h4⟩ := h2
  refine ev_icmp_lt 11 dX0_addBlock_6 (by decide) s1 ⟨by decide, by decide⟩ (fun c5 => ?_) (fun c5 => ?_)
  · have h6 := h3 c5
    refine ev_aload_n (j := 0) dX0_addBlock_11 rfl rfl ?_
    refine ev_get frX0_9 dX0_addBlock_12 (dom1 hi0 hi1 (by decide) (by decide)) en1_25 rfl ?_
    refine ev_aload_n (j := 0) dX0_addBlock_15 rfl rfl ?_
    refine ev_get frX0_27 dX0_addBlock_16 (dom1 hi0 hi1 (by decide) (by decide)) en1_25 rfl ?_
    refine ev_iload_n (j := 1) dX0_addBlock_19 rfl rfl ?_
    obtain ⟨s7, s8, h9⟩ := h6
    refine ev_iast dX0_addBlock_20 (dom1 hi0 hi1 (by decide) (by decide)) ar1_26 (by decide) s7 s8 ?_
    refine ev_aload_n (j := 0) dX0_addBlock_21 rfl rfl ?_
    refine ev_get frX0_15 dX0_addBlock_22 (dom1 hi0 hi1 (by decide) (by decide)) en1_25 rfl ?_
    refine ev_aload_n (j := 0) dX0_addBlock_25 rfl rfl ?_
    refine ev_get frX0_27 dX0_addBlock_26 (dom1 hi0 hi1 (by decide) (by decide)) en1_25 rfl ?_
    refine ev_topI (b := M 1 i 25 3) rfl ?_
    refine ev_iload_n (j := 2) dX0_addBlock_29 rfl rfl ?_
    refine ev_iast dX0_addBlock_30 (dom1 hi0 hi1 (by decide) (by decide)) ar1_27 (by decide) s7 s8 ?_
    refine ev_aload_n (j := 0) dX0_addBlock_31 rfl rfl ?_
    refine ev_get frX0_18 dX0_addBlock_32 (dom1 hi0 hi1 (by decide) (by decide)) en1_25 rfl ?_
    refine ev_aload_n (j := 0) dX0_addBlock_35 rfl rfl ?_
    refine ev_get frX0_27 dX0_addBlock_36 (dom1 hi0 hi1 (by decide) (by decide)) en1_25 rfl ?_
    refine ev_topI (b := M 1 i 25 3) rfl ?_
    refine ev_iload_n (j := 3) dX0_addBlock_39 rfl rfl ?_
    refine ev_iast dX0_addBlock_40 (dom1 hi0 hi1 (by decide) (by decide)) ar1_28 (by decide) s7 s8 ?_
    obtain ⟨M10, e12⟩ : ∃ M10 : Mem, M10 = wr (wr (wr M 1 i 26 (M 1 i 25 3) v1) 1 i 27 (M 1 i 25 3) v2) 1 i 28 (M 1 i 25 3) v3 := ⟨_, rfl⟩
    have h11 := h9 _ e12
    refine ev_mem e12 ?_
    refine ev_aload_n (j := 0) dX0_addBlock_41 rfl rfl ?_
    refine ev_dup dX0_addBlock_42 rfl ?_
    refine ev_get frX0_27 dX0_addBlock_43 (dom1 hi0 hi1 (by decide) (by decide)) en1_25 rfl ?_
    refine ev_iconst dX0_addBlock_46 ?_
    refine ev_iadd dX0_addBlock_47 ?_
    refine ev_put fwX0_27 dX0_addBlock_48 (dom1 hi0 hi1 (by decide) (by decide)) en1_25 rfl rfl rfl (Nat.le_of_ble_eq_true rfl) ?_
    refine ev_aload_n (j := 0) dX0_addBlock_51 rfl rfl ?_
    refine ev_get frX0_27 dX0_addBlock_52 (dom1 hi0 hi1 (by decide) (by decide)) en1_25 rfl ?_
    refine ev_iconst dX0_addBlock_55 ?_
    refine ev_isub dX0_addBlock_56 ?_
    exact ev_iret dX0_addBlock_57 (by decide) rfl h11
  · have h13 := h4 c5
    refine ev_iconst dX0_addBlock_9 ?_
    exact ev_iret dX0_addBlock_10 (by decide) rfl h13
def eX0_copyFrom (G : GT) (K : List Value → Mem → Prop) (X : String → Mem → Prop) (pc : Nat) (lv : List (Nat × Value)) (st : List Value) (M : Mem) : Prop := Ex G zX0_copyFrom 1 0 K X 0 pc lv st M
set_option maxRecDepth 20000 in
set_option maxHeartbeats 4000000 in
theorem bX0_copyFrom {G : GT} {K : List Value → Mem → Prop} {X : String → Mem → Prop} {M : Mem} {i : Int} (hi0 : 0 ≤ i) (hi1 : i < 12) {j : Int} (hj0 : 0 ≤ j) (hj1 : j < 12) (h : ∀ M1 : Mem, M1 = wrow M 1 i 26 (cpy (M 1 j 26) (M 1 i 26) 0 0 6) → ∀ M4 : Mem, M4 = wrow M1 1 i 27 (cpy (M1 1 j 27) (M1 1 i 27) 0 0 6) → ∀ M7 : Mem, M7 = wrow M4 1 i 28 (cpy (M4 1 j 28) (M4 1 i 28) 0 0 6) → K [] (wr M7 1 i 25 3 (M7 1 j 25 3))) : Call G 1 0 zX0_copyFrom [rr G 1 i 25, rr G 1 j 25] M K X := by
  refine call_intro (lv := [(0, rr G 1 i 25), (1, rr G 1 j 25)]) (by decide) rfl (Nat.le_of_ble_eq_true rfl) rfl ?_
  refine ev_aload_n (j := 1) dX0_copyFrom_0 rfl rfl ?_
  refine ev_get frX0_9 dX0_copyFrom_1 (dom1 hj0 hj1 (by decide) (by decide)) en1_25 rfl ?_
  refine ev_iconst dX0_copyFrom_4 ?_
  refine ev_aload_n (j := 0) dX0_copyFrom_5 rfl rfl ?_
  refine ev_get frX0_9 dX0_copyFrom_6 (dom1 hi0 hi1 (by decide) (by decide)) en1_25 rfl ?_
  refine ev_iconst dX0_copyFrom_9 ?_
  refine ev_bipush dX0_copyFrom_10 (by decide) ?_
  refine ev_copy mlX0_21 wc_nat wc_st wc_in dX0_copyFrom_12 (by decide) (Nat.le_of_ble_eq_true rfl) (dom1 hj0 hj1 (by decide) (by decide)) (dom1 hi0 hi1 (by decide) (by decide)) ar1_26 ar1_26 (by decide) (by decide) (by decide) (by decide) (by decide) (by decide) (by decide) ?_
  obtain ⟨M1, e3⟩ : ∃ M1 : Mem, M1 = wrow M 1 i 26 (cpy (M 1 j 26) (M 1 i 26) 0 0 6) := ⟨_, rfl⟩
  have h2 := h _ e3
  refine ev_mem e3 ?_
  refine ev_aload_n (j := 1) dX0_copyFrom_15 rfl rfl ?_
  refine ev_get frX0_15 dX0_copyFrom_16 (dom1 hj0 hj1 (by decide) (by decide)) en1_25 rfl ?_
  refine ev_iconst dX0_copyFrom_19 ?_
  refine ev_aload_n (j := 0) dX0_copyFrom_20 rfl rfl ?_
  refine ev_get frX0_15 dX0_copyFrom_21 (dom1 hi0 hi1 (by decide) (by decide)) en1_25 rfl ?_
  refine ev_iconst dX0_copyFrom_24 ?_
  refine ev_bipush dX0_copyFrom_25 (by decide) ?_
  refine ev_copy mlX0_21 wc_nat wc_st wc_in dX0_copyFrom_27 (by decide) (Nat.le_of_ble_eq_true rfl) (dom1 hj0 hj1 (by decide) (by decide)) (dom1 hi0 hi1 (by decide) (by decide)) ar1_27 ar1_27 (by decide) (by decide) (by decide) (by decide) (by decide) (by decide) (by decide) ?_
  obtain ⟨M4, e6⟩ : ∃ M4 : Mem, M4 = wrow M1 1 i 27 (cpy (M1 1 j 27) (M1 1 i 27) 0 0 6) := ⟨_, rfl⟩
  have h5 := h2 _ e6
  refine ev_mem e6 ?_
  refine ev_aload_n (j := 1) dX0_copyFrom_30 rfl rfl ?_
  refine ev_get frX0_18 dX0_copyFrom_31 (dom1 hj0 hj1 (by decide) (by decide)) en1_25 rfl ?_
  refine ev_iconst dX0_copyFrom_34 ?_
  refine ev_aload_n (j := 0) dX0_copyFrom_35 rfl rfl ?_
  refine ev_get frX0_18 dX0_copyFrom_36 (dom1 hi0 hi1 (by decide) (by decide)) en1_25 rfl ?_
  refine ev_iconst dX0_copyFrom_39 ?_
  refine ev_bipush dX0_copyFrom_40 (by decide) ?_
  refine ev_copy mlX0_21 wc_nat wc_st wc_in dX0_copyFrom_42 (by decide) (Nat.le_of_ble_eq_true rfl) (dom1 hj0 hj1 (by decide) (by decide)) (dom1 hi0 hi1 (by decide) (by decide)) ar1_28 ar1_28 (by decide) (by decide) (by decide) (by decide) (by decide) (by decide) (by decide) ?_
  obtain ⟨M7, e9⟩ : ∃ M7 : Mem, M7 = wrow M4 1 i 28 (cpy (M4 1 j 28) (M4 1 i 28) 0 0 6) := ⟨_, rfl⟩
  have h8 := h5 _ e9
  refine ev_mem e9 ?_
  refine ev_aload_n (j := 0) dX0_copyFrom_45 rfl rfl ?_
  refine ev_aload_n (j := 1) dX0_copyFrom_46 rfl rfl ?_
  refine ev_get frX0_27 dX0_copyFrom_47 (dom1 hj0 hj1 (by decide) (by decide)) en1_25 rfl ?_
  refine ev_put fwX0_27 dX0_copyFrom_50 (dom1 hi0 hi1 (by decide) (by decide)) en1_25 rfl rfl rfl (Nat.le_of_ble_eq_true rfl) ?_
  exact ev_vret dX0_copyFrom_53 (by decide) rfl h8
def eX0_lowestAt (G : GT) (K : List Value → Mem → Prop) (X : String → Mem → Prop) (pc : Nat) (lv : List (Nat × Value)) (st : List Value) (M : Mem) : Prop := Ex G zX0_lowestAt 1 0 K X 0 pc lv st M
set_option maxRecDepth 20000 in
set_option maxHeartbeats 4000000 in
theorem bX0_lowestAt {G : GT} {K : List Value → Mem → Prop} {X : String → Mem → Prop} {M : Mem} {i : Int} (hi0 : 0 ≤ i) (hi1 : i < 12) {v1 v2 : Int} (h : eX0_lowestAt G K X 2 [(0, rr G 1 i 25), (1, iv v1), (2, iv v2), (3, iv 0)] [] M) : Call G 1 0 zX0_lowestAt [rr G 1 i 25, iv v1, iv v2] M K X := by
  refine call_intro (lv := [(0, rr G 1 i 25), (1, iv v1), (2, iv v2)]) (by decide) rfl (Nat.le_of_ble_eq_true rfl) rfl ?_
  refine ev_iconst dX0_lowestAt_0 ?_
  refine ev_istore_n dX0_lowestAt_1 rfl (by decide) rfl ?_
  exact ev_sub [1, 2, 3, 0] rfl h
set_option maxRecDepth 20000 in
set_option maxHeartbeats 4000000 in
theorem bX0_lowestAt_2 {G : GT} {K : List Value → Mem → Prop} {X : String → Mem → Prop} {M : Mem} {i : Int} (hi0 : 0 ≤ i) (hi1 : i < 12) {v1 v2 v3 : Int} (h : I32 v3 ∧ I32 (M 1 i 25 3) ∧ ((¬ v3 < (M 1 i 25 3) → K [iv (-1)] M) ∧ (v3 < (M 1 i 25 3) → 0 ≤ v3 ∧ v3 < 6 ∧ I32 (M 1 i 26 v3) ∧ I32 v1 ∧ ((¬ (M 1 i 26 v3) = v1 → eX0_lowestAt G K X 2 [(0, rr G 1 i 25), (1, iv v1), (2, iv v2), (3, iv (v3 + 1))] [] M) ∧ ((M 1 i 26 v3) = v1 → Call G 0 0 zX11_isFromTo [iv v2, iv (M 1 i 27 v3), iv (M 1 i 28 v3)] M (kI (fun x22 M20 => I32 x22 ∧ ((x22 = 0 → eX0_lowestAt G K X 2 [(0, rr G 1 i 25), (1, iv v1), (2, iv v2), (3, iv (v3 + 1))] [] M20) ∧ (¬ x22 = 0 → K [iv v3] M20)))) noX))))) : eX0_lowestAt G K X 2 [(0, rr G 1 i 25), (1, iv v1), (2, iv v2), (3, iv v3)] [] M := by
  show Ex G zX0_lowestAt 1 0 K X 0 2 [(0, rr G 1 i 25), (1, iv v1), (2, iv v2), (3, iv v3)] [] M
  refine ev_iload_n (j := 3) dX0_lowestAt_2 rfl rfl ?_
  refine ev_aload_n (j := 0) dX0_lowestAt_3 rfl rfl ?_
  refine ev_get frX0_27 dX0_lowestAt_4 (dom1 hi0 hi1 (by decide) (by decide)) en1_25 rfl ?_
  obtain ⟨s1, s2, h3⟩ := h
  obtain ⟨h4, h5⟩ := h3
  refine ev_icmp_ge 47 dX0_lowestAt_7 (by decide) s1 s2 (fun c6 => ?_) (fun c6 => ?_)
  · have h7 := h4 c6
    refine ev_iconst dX0_lowestAt_47 ?_
    exact ev_iret dX0_lowestAt_48 (by decide) rfl h7
  · have h8 := h5 c6
    refine ev_aload_n (j := 0) dX0_lowestAt_10 rfl rfl ?_
    refine ev_get frX0_9 dX0_lowestAt_11 (dom1 hi0 hi1 (by decide) (by decide)) en1_25 rfl ?_
    refine ev_iload_n (j := 3) dX0_lowestAt_14 rfl rfl ?_
    obtain ⟨s9, s10, h11⟩ := h8
    refine ev_iald dX0_lowestAt_15 (dom1 hi0 hi1 (by decide) (by decide)) ar1_26 (by decide) s9 s10 ?_
    refine ev_iload_n (j := 1) dX0_lowestAt_16 rfl rfl ?_
    obtain ⟨s12, s13, h14⟩ := h11
    obtain ⟨h15, h16⟩ := h14
    refine ev_icmp_ne 41 dX0_lowestAt_17 (by decide) s12 s13 (fun c17 => ?_) (fun c17 => ?_)
    · have h18 := h15 c17
      refine ev_iinc (j := 3) dX0_lowestAt_41 rfl (by decide) rfl ?_
      refine ev_goto 2 dX0_lowestAt_44 (by decide) ?_
      exact ev_sub [1, 2, 3, 0] rfl h18
    · have h19 := h16 c17
      refine ev_iload_n (j := 2) dX0_lowestAt_20 rfl rfl ?_
      refine ev_aload_n (j := 0) dX0_lowestAt_21 rfl rfl ?_
      refine ev_get frX0_15 dX0_lowestAt_22 (dom1 hi0 hi1 (by decide) (by decide)) en1_25 rfl ?_
      refine ev_iload_n (j := 3) dX0_lowestAt_25 rfl rfl ?_
      refine ev_iald dX0_lowestAt_26 (dom1 hi0 hi1 (by decide) (by decide)) ar1_27 (by decide) s9 s10 ?_
      refine ev_aload_n (j := 0) dX0_lowestAt_27 rfl rfl ?_
      refine ev_get frX0_18 dX0_lowestAt_28 (dom1 hi0 hi1 (by decide) (by decide)) en1_25 rfl ?_
      refine ev_iload_n (j := 3) dX0_lowestAt_31 rfl rfl ?_
      refine ev_iald dX0_lowestAt_32 (dom1 hi0 hi1 (by decide) (by decide)) ar1_28 (by decide) s9 s10 ?_
      refine ev_callSNI "TramLines" (As := [iv v2, iv (M 1 i 27 v3), iv (M 1 i 28 v3)]) (st := []) mfX11_isFromTo mlnX0_31 dX0_lowestAt_33 rfl rfl (by decide) (by decide) (by decide) (Nat.le_of_ble_eq_true rfl) h19 (fun x22 M20 h21 => ?_)
      obtain ⟨s23, h24⟩ := h21
      obtain ⟨h25, h26⟩ := h24
      refine ev_if_eq 41 dX0_lowestAt_36 (by decide) s23 (fun c27 => ?_) (fun c27 => ?_)
      · have h28 := h25 c27
        refine ev_iinc (j := 3) dX0_lowestAt_41 rfl (by decide) rfl ?_
        refine ev_goto 2 dX0_lowestAt_44 (by decide) ?_
        exact ev_sub [1, 2, 3, 0] rfl h28
      · have h29 := h26 c27
        refine ev_iload_n (j := 3) dX0_lowestAt_39 rfl rfl ?_
        exact ev_iret dX0_lowestAt_40 (by decide) rfl h29
def eX0_removeBlock (G : GT) (K : List Value → Mem → Prop) (X : String → Mem → Prop) (pc : Nat) (lv : List (Nat × Value)) (st : List Value) (M : Mem) : Prop := Ex G zX0_removeBlock 0 0 K X 0 pc lv st M
set_option maxRecDepth 20000 in
set_option maxHeartbeats 4000000 in
theorem bX0_removeBlock {G : GT} {K : List Value → Mem → Prop} {X : String → Mem → Prop} {M : Mem} {i : Int} (hi0 : 0 ≤ i) (hi1 : i < 12) {v1 : Int} (h : eX0_removeBlock G K X 4 [(0, rr G 1 i 25), (2, iv (v1 + 1))] [] M) : Call G 0 0 zX0_removeBlock [rr G 1 i 25, iv v1] M K X := by
  refine call_intro (lv := [(0, rr G 1 i 25), (1, iv v1)]) (by decide) rfl (Nat.le_of_ble_eq_true rfl) rfl ?_
  refine ev_iload_n (j := 1) dX0_removeBlock_0 rfl rfl ?_
  refine ev_iconst dX0_removeBlock_1 ?_
  refine ev_iadd dX0_removeBlock_2 ?_
  refine ev_istore_n dX0_removeBlock_3 rfl (by decide) rfl ?_
  exact ev_sub [1, 0] rfl h
set_option maxRecDepth 20000 in
set_option maxHeartbeats 4000000 in
theorem bX0_removeBlock_4 {G : GT} {K : List Value → Mem → Prop} {X : String → Mem → Prop} {M : Mem} {i : Int} (hi0 : 0 ≤ i) (hi1 : i < 12) {v2 : Int} (h : I32 v2 ∧ I32 (M 1 i 25 3) ∧ ((¬ v2 < (M 1 i 25 3) → K [] (wr M 1 i 25 3 ((M 1 i 25 3) - 1))) ∧ (v2 < (M 1 i 25 3) → 0 ≤ v2 ∧ v2 < 6 ∧ 0 ≤ v2 - 1 ∧ v2 - 1 < 6 ∧ ∀ M15 : Mem, M15 = wr (wr M 1 i 26 (v2 - 1) (M 1 i 26 v2)) 1 i 27 (v2 - 1) (M 1 i 27 v2) → eX0_removeBlock G K X 4 [(0, rr G 1 i 25), (2, iv (v2 + 1))] [] (wr M15 1 i 28 (v2 - 1) (M15 1 i 28 v2))))) : eX0_removeBlock G K X 4 [(0, rr G 1 i 25), (2, iv v2)] [] M := by
  show Ex G zX0_removeBlock 0 0 K X 0 4 [(0, rr G 1 i 25), (2, iv v2)] [] M
  refine ev_iload_n (j := 1) dX0_removeBlock_4 rfl rfl ?_
  refine ev_aload_n (j := 0) dX0_removeBlock_5 rfl rfl ?_
  refine ev_get frX0_27 dX0_removeBlock_6 (dom1 hi0 hi1 (by decide) (by decide)) en1_25 rfl ?_
  obtain ⟨s1, s2, h3⟩ := h
  obtain ⟨h4, h5⟩ := h3
  refine ev_icmp_ge 60 dX0_removeBlock_9 (by decide) s1 s2 (fun c6 => ?_) (fun c6 => ?_)
  · have h7 := h4 c6
    refine ev_aload_n (j := 0) dX0_removeBlock_60 rfl rfl ?_
    refine ev_dup dX0_removeBlock_61 rfl ?_
    refine ev_get frX0_27 dX0_removeBlock_62 (dom1 hi0 hi1 (by decide) (by decide)) en1_25 rfl ?_
    refine ev_iconst dX0_removeBlock_65 ?_
    refine ev_isub dX0_removeBlock_66 ?_
    refine ev_put fwX0_27 dX0_removeBlock_67 (dom1 hi0 hi1 (by decide) (by decide)) en1_25 rfl rfl rfl (Nat.le_of_ble_eq_true rfl) ?_
    exact ev_vret dX0_removeBlock_70 (by decide) rfl h7
  · have h8 := h5 c6
    refine ev_aload_n (j := 0) dX0_removeBlock_12 rfl rfl ?_
    refine ev_get frX0_9 dX0_removeBlock_13 (dom1 hi0 hi1 (by decide) (by decide)) en1_25 rfl ?_
    refine ev_iload_n (j := 1) dX0_removeBlock_16 rfl rfl ?_
    refine ev_iconst dX0_removeBlock_17 ?_
    refine ev_isub dX0_removeBlock_18 ?_
    refine ev_aload_n (j := 0) dX0_removeBlock_19 rfl rfl ?_
    refine ev_get frX0_9 dX0_removeBlock_20 (dom1 hi0 hi1 (by decide) (by decide)) en1_25 rfl ?_
    refine ev_iload_n (j := 1) dX0_removeBlock_23 rfl rfl ?_
    obtain ⟨s9, s10, h11⟩ := h8
    refine ev_iald dX0_removeBlock_24 (dom1 hi0 hi1 (by decide) (by decide)) ar1_26 (by decide) s9 s10 ?_
    obtain ⟨s12, s13, h14⟩ := h11
    refine ev_iast dX0_removeBlock_25 (dom1 hi0 hi1 (by decide) (by decide)) ar1_26 (by decide) s12 s13 ?_
    refine ev_aload_n (j := 0) dX0_removeBlock_26 rfl rfl ?_
    refine ev_get frX0_15 dX0_removeBlock_27 (dom1 hi0 hi1 (by decide) (by decide)) en1_25 rfl ?_
    refine ev_iload_n (j := 1) dX0_removeBlock_30 rfl rfl ?_
    refine ev_iconst dX0_removeBlock_31 ?_
    refine ev_isub dX0_removeBlock_32 ?_
    refine ev_aload_n (j := 0) dX0_removeBlock_33 rfl rfl ?_
    refine ev_get frX0_15 dX0_removeBlock_34 (dom1 hi0 hi1 (by decide) (by decide)) en1_25 rfl ?_
    refine ev_iload_n (j := 1) dX0_removeBlock_37 rfl rfl ?_
    refine ev_iald dX0_removeBlock_38 (dom1 hi0 hi1 (by decide) (by decide)) ar1_27 (by decide) s9 s10 ?_
    refine ev_topI (b := M 1 i 27 v2) rfl ?_
    refine ev_iast dX0_removeBlock_39 (dom1 hi0 hi1 (by decide) (by decide)) ar1_27 (by decide) s12 s13 ?_
    obtain ⟨M15, e17⟩ : ∃ M15 : Mem, M15 = wr (wr M 1 i 26 (v2 - 1) (M 1 i 26 v2)) 1 i 27 (v2 - 1) (M 1 i 27 v2) := ⟨_, rfl⟩
    have h16 := h14 _ e17
    refine ev_mem e17 ?_
    refine ev_aload_n (j := 0) dX0_removeBlock_40 rfl rfl ?_
    refine ev_get frX0_18 dX0_removeBlock_41 (dom1 hi0 hi1 (by decide) (by decide)) en1_25 rfl ?_
    refine ev_iload_n (j := 1) dX0_removeBlock_44 rfl rfl ?_
    refine ev_iconst dX0_removeBlock_45 ?_
    refine ev_isub dX0_removeBlock_46 ?_
    refine ev_aload_n (j := 0) dX0_removeBlock_47 rfl rfl ?_
    refine ev_get frX0_18 dX0_removeBlock_48 (dom1 hi0 hi1 (by decide) (by decide)) en1_25 rfl ?_
    refine ev_iload_n (j := 1) dX0_removeBlock_51 rfl rfl ?_
    refine ev_iald dX0_removeBlock_52 (dom1 hi0 hi1 (by decide) (by decide)) ar1_28 (by decide) s9 s10 ?_
    refine ev_iast dX0_removeBlock_53 (dom1 hi0 hi1 (by decide) (by decide)) ar1_28 (by decide) s12 s13 ?_
    refine ev_iinc (j := 1) dX0_removeBlock_54 rfl (by decide) rfl ?_
    refine ev_goto 4 dX0_removeBlock_57 (by decide) ?_
    exact ev_sub [1, 0] rfl h16
def eX1_actualArrival (G : GT) (K : List Value → Mem → Prop) (X : String → Mem → Prop) (pc : Nat) (lv : List (Nat × Value)) (st : List Value) (M : Mem) : Prop := Ex G zX1_actualArrival 0 0 K X 0 pc lv st M
set_option maxRecDepth 20000 in
set_option maxHeartbeats 4000000 in
theorem bX1_actualArrival {G : GT} {K : List Value → Mem → Prop} {X : String → Mem → Prop} {M : Mem} {v1 : Int} (h : 0 ≤ v1 ∧ v1 < 30 ∧ 0 ≤ M 1 11 8 v1 ∧ M 1 11 8 v1 < 12 ∧ K [iv (M 3 0 (2 + v1) (M 1 11 8 v1))] M) : Call G 0 0 zX1_actualArrival [rr G 3 0 0, iv v1] M K X := by
  refine call_intro (lv := [(0, rr G 3 0 0), (1, iv v1)]) (by decide) rfl (Nat.le_of_ble_eq_true rfl) rfl ?_
  refine ev_aload_n (j := 0) dX1_actualArrival_0 rfl rfl ?_
  refine ev_get frX1_11 dX1_actualArrival_1 dm3_0 en3_0 rfl ?_
  refine ev_iload_n (j := 1) dX1_actualArrival_4 rfl rfl ?_
  obtain ⟨s1, s2, h3⟩ := h
  refine ev_aald (t := 4) (q := ad G 3 0 (2 + v1)) (Or.inr rfl) dX1_actualArrival_5 dm3_1 rfl (by decide) s1 s2 (by first | rfl | (show some (ad G _ _ (_ + ((v1 : Int).toNat : Int))) = _; rw [Int.toNat_of_nonneg (by omega)]; first | done | rfl)) ?_
  refine ev_aload_n (j := 0) dX1_actualArrival_6 rfl rfl ?_
  refine ev_get frX1_38 dX1_actualArrival_7 dm3_0 en3_0 rfl ?_
  refine ev_get frX1_93 dX1_actualArrival_10 (dom1 (by decide) (by decide) (by decide) (by decide)) en1_0 rfl ?_
  refine ev_get frX1_148 dX1_actualArrival_13 (dom1 (by decide) (by decide) (by decide) (by decide)) en1_6 rfl ?_
  refine ev_iload_n (j := 1) dX1_actualArrival_16 rfl rfl ?_
  refine ev_iald dX1_actualArrival_17 (dom1 (by decide) (by decide) (by decide) (by decide)) ar1_8 (by decide) s1 s2 ?_
  obtain ⟨s4, s5, h6⟩ := h3
  refine ev_iald dX1_actualArrival_18 (dom3 (by omega) (by omega)) (row3_2 (by omega) (by omega)) (by decide) s4 s5 ?_
  exact ev_iret dX1_actualArrival_19 (by decide) rfl h6
def eX1_arrivedCount (G : GT) (K : List Value → Mem → Prop) (X : String → Mem → Prop) (pc : Nat) (lv : List (Nat × Value)) (st : List Value) (M : Mem) : Prop := Ex G zX1_arrivedCount 2 0 K X 0 pc lv st M
set_option maxRecDepth 20000 in
set_option maxHeartbeats 4000000 in
theorem bX1_arrivedCount {G : GT} {K : List Value → Mem → Prop} {X : String → Mem → Prop} {M : Mem} (h : eX1_arrivedCount G K X 4 [(0, rr G 3 0 0), (1, iv 0), (2, iv 0)] [] M) : Call G 2 0 zX1_arrivedCount [rr G 3 0 0] M K X := by
  refine call_intro (lv := [(0, rr G 3 0 0)]) (by decide) rfl (Nat.le_of_ble_eq_true rfl) rfl ?_
  refine ev_iconst dX1_arrivedCount_0 ?_
  refine ev_istore_n dX1_arrivedCount_1 rfl (by decide) rfl ?_
  refine ev_iconst dX1_arrivedCount_2 ?_
  refine ev_istore_n dX1_arrivedCount_3 rfl (by decide) rfl ?_
  exact ev_sub [2, 1, 0] rfl h
set_option maxRecDepth 20000 in
set_option maxHeartbeats 4000000 in
theorem bX1_arrivedCount_4 {G : GT} {K : List Value → Mem → Prop} {X : String → Mem → Prop} {M : Mem} {v1 v2 : Int} (h : I32 v2 ∧ I32 (M 1 11 6 4) ∧ ((¬ v2 < (M 1 11 6 4) → K [iv v1] M) ∧ (v2 < (M 1 11 6 4) → Call G 1 0 zX1_hasArrived [rr G 3 0 0, iv v2] M (kI (fun x11 M9 => I32 x11 ∧ ((x11 = 0 → eX1_arrivedCount G K X 4 [(0, rr G 3 0 0), (1, iv v1), (2, iv (v2 + 1))] [] M9) ∧ (¬ x11 = 0 → eX1_arrivedCount G K X 4 [(0, rr G 3 0 0), (1, iv (v1 + 1)), (2, iv (v2 + 1))] [] M9)))) noX))) : eX1_arrivedCount G K X 4 [(0, rr G 3 0 0), (1, iv v1), (2, iv v2)] [] M := by
  show Ex G zX1_arrivedCount 2 0 K X 0 4 [(0, rr G 3 0 0), (1, iv v1), (2, iv v2)] [] M
  refine ev_iload_n (j := 2) dX1_arrivedCount_4 rfl rfl ?_
  refine ev_aload_n (j := 0) dX1_arrivedCount_5 rfl rfl ?_
  refine ev_get frX1_38 dX1_arrivedCount_6 dm3_0 en3_0 rfl ?_
  refine ev_get frX1_93 dX1_arrivedCount_9 (dom1 (by decide) (by decide) (by decide) (by decide)) en1_0 rfl ?_
  refine ev_get frX1_155 dX1_arrivedCount_12 (dom1 (by decide) (by decide) (by decide) (by decide)) en1_6 rfl ?_
  obtain ⟨s1, s2, h3⟩ := h
  obtain ⟨h4, h5⟩ := h3
  refine ev_icmp_ge 35 dX1_arrivedCount_15 (by decide) s1 s2 (fun c6 => ?_) (fun c6 => ?_)
  · have h7 := h4 c6
    refine ev_iload_n (j := 1) dX1_arrivedCount_35 rfl rfl ?_
    exact ev_iret dX1_arrivedCount_36 (by decide) rfl h7
  · have h8 := h5 c6
    refine ev_aload_n (j := 0) dX1_arrivedCount_18 rfl rfl ?_
    refine ev_iload_n (j := 2) dX1_arrivedCount_19 rfl rfl ?_
    refine ev_callVI (As := [iv v2]) (st := []) mfX1_hasArrived mlX1_156 dX1_arrivedCount_20 rfl dm3_0 en3_0 rfl rfl rfl (by decide) (by decide) (by decide) (Nat.le_of_ble_eq_true rfl) (fun _ _ z => z.elim) h8 (fun x11 M9 h10 => ?_)
    obtain ⟨s12, h13⟩ := h10
    obtain ⟨h14, h15⟩ := h13
    refine ev_if_eq 29 dX1_arrivedCount_23 (by decide) s12 (fun c16 => ?_) (fun c16 => ?_)
    · have h17 := h14 c16
      refine ev_iinc (j := 2) dX1_arrivedCount_29 rfl (by decide) rfl ?_
      refine ev_goto 4 dX1_arrivedCount_32 (by decide) ?_
      exact ev_sub [1, 2, 0] rfl h17
    · have h18 := h15 c16
      refine ev_iinc (j := 1) dX1_arrivedCount_26 rfl (by decide) rfl ?_
      refine ev_iinc (j := 2) dX1_arrivedCount_29 rfl (by decide) rfl ?_
      refine ev_goto 4 dX1_arrivedCount_32 (by decide) ?_
      exact ev_sub [2, 1, 0] rfl h18
def eX1_begin (G : GT) (K : List Value → Mem → Prop) (X : String → Mem → Prop) (pc : Nat) (lv : List (Nat × Value)) (st : List Value) (M : Mem) : Prop := Ex G zX1_begin 2 0 K X 0 pc lv st M
set_option maxRecDepth 20000 in
set_option maxHeartbeats 4000000 in
theorem bX1_begin {G : GT} {K : List Value → Mem → Prop} {X : String → Mem → Prop} {M : Mem} (h : eX1_begin G K X 2 [(0, rr G 3 0 0), (1, iv 0)] [] M) : Call G 2 0 zX1_begin [rr G 3 0 0] M K X := by
  refine call_intro (lv := [(0, rr G 3 0 0)]) (by decide) rfl (Nat.le_of_ble_eq_true rfl) rfl ?_
  refine ev_iconst dX1_begin_0 ?_
  refine ev_istore_n dX1_begin_1 rfl (by decide) rfl ?_
  exact ev_sub [1, 0] rfl h
set_option maxRecDepth 20000 in
set_option maxHeartbeats 4000000 in
theorem bX1_begin_2 {G : GT} {K : List Value → Mem → Prop} {X : String → Mem → Prop} {M : Mem} {v1 : Int} (h : I32 v1 ∧ ((¬ v1 < 30 → eX1_begin G K X 36 [(0, rr G 3 0 0), (1, iv 0)] [] M) ∧ (v1 < 30 → 0 ≤ v1 ∧ Call G 1 0 zfill [rr G 3 0 (2 + v1), iv (-1)] M (kV (fun M10 => Call G 1 0 zfill [rr G 3 0 (33 + v1), iv (-1)] M10 (kV (fun M13 => eX1_begin G K X 2 [(0, rr G 3 0 0), (1, iv (v1 + 1))] [] M13)) noX)) noX))) : eX1_begin G K X 2 [(0, rr G 3 0 0), (1, iv v1)] [] M := by
  show Ex G zX1_begin 2 0 K X 0 2 [(0, rr G 3 0 0), (1, iv v1)] [] M
  refine ev_iload_n (j := 1) dX1_begin_2 rfl rfl ?_
  refine ev_bipush dX1_begin_3 (by decide) ?_
  obtain ⟨s1, h2⟩ := h
  obtain ⟨h3, h4⟩ := h2
  refine ev_icmp_ge 34 dX1_begin_5 (by decide) s1 ⟨by decide, by decide⟩ (fun c5 => ?_) (fun c5 => ?_)
  · have h6 := h3 c5
    refine ev_iconst dX1_begin_34 ?_
    refine ev_istore_n dX1_begin_35 rfl (by decide) rfl ?_
    exact ev_sub [1, 0] rfl h6
  · have h7 := h4 c5
    refine ev_aload_n (j := 0) dX1_begin_8 rfl rfl ?_
    refine ev_get frX1_11 dX1_begin_9 dm3_0 en3_0 rfl ?_
    refine ev_iload_n (j := 1) dX1_begin_12 rfl rfl ?_
    obtain ⟨s8, h9⟩ := h7
    refine ev_aald (t := 4) (q := ad G 3 0 (2 + v1)) (Or.inr rfl) dX1_begin_13 dm3_1 rfl (by decide) s8 c5 (by first | rfl | (show some (ad G _ _ (_ + ((v1 : Int).toNat : Int))) = _; rw [Int.toNat_of_nonneg (by omega)]; first | done | rfl)) ?_
    refine ev_iconst dX1_begin_14 ?_
    refine ev_callSV (As := [rr G 3 0 (2 + v1), iv (-1)]) (st := []) mffill mlX1_58 dX1_begin_15 rfl rfl (by decide) (by decide) (by decide) (Nat.le_of_ble_eq_true rfl) (fun _ _ z => z.elim) h9 (fun M10 h11 => ?_)
    refine ev_aload_n (j := 0) dX1_begin_18 rfl rfl ?_
    refine ev_get frX1_16 dX1_begin_19 dm3_0 en3_0 rfl ?_
    refine ev_iload_n (j := 1) dX1_begin_22 rfl rfl ?_
    refine ev_aald (t := 4) (q := ad G 3 0 (33 + v1)) (Or.inr rfl) dX1_begin_23 dm3_32 rfl (by decide) s8 c5 (by first | rfl | (show some (ad G _ _ (_ + ((v1 : Int).toNat : Int))) = _; rw [Int.toNat_of_nonneg (by omega)]; first | done | rfl)) ?_
    refine ev_iconst dX1_begin_24 ?_
    refine ev_callSV (As := [rr G 3 0 (33 + v1), iv (-1)]) (st := []) mffill mlX1_58 dX1_begin_25 rfl rfl (by decide) (by decide) (by decide) (Nat.le_of_ble_eq_true rfl) (fun _ _ z => z.elim) h11 (fun M13 h14 => ?_)
    refine ev_iinc (j := 1) dX1_begin_28 rfl (by decide) rfl ?_
    refine ev_goto 2 dX1_begin_31 (by decide) ?_
    exact ev_sub [1, 0] rfl h14
set_option maxRecDepth 20000 in
set_option maxHeartbeats 4000000 in
theorem bX1_begin_36 {G : GT} {K : List Value → Mem → Prop} {X : String → Mem → Prop} {M : Mem} {v1 : Int} (h : I32 v1 ∧ ((¬ v1 < 2 → eX1_begin G K X 76 [(0, rr G 3 0 0), (1, iv 0)] [] (wr (wr (wr M 3 0 0 2 0) 3 0 0 3 0) 3 0 0 4 0)) ∧ (v1 < 2 → 0 ≤ v1 ∧ Call G 1 0 zfill [rr G 3 0 (64 + v1), iv (-1000)] M (kV (fun M10 => eX1_begin G K X 36 [(0, rr G 3 0 0), (1, iv (v1 + 1))] [] M10)) noX))) : eX1_begin G K X 36 [(0, rr G 3 0 0), (1, iv v1)] [] M := by
  show Ex G zX1_begin 2 0 K X 0 36 [(0, rr G 3 0 0), (1, iv v1)] [] M
  refine ev_iload_n (j := 1) dX1_begin_36 rfl rfl ?_
  refine ev_iconst dX1_begin_37 ?_
  obtain ⟨s1, h2⟩ := h
  obtain ⟨h3, h4⟩ := h2
  refine ev_icmp_ge 59 dX1_begin_38 (by decide) s1 ⟨by decide, by decide⟩ (fun c5 => ?_) (fun c5 => ?_)
  · have h6 := h3 c5
    refine ev_aload_n (j := 0) dX1_begin_59 rfl rfl ?_
    refine ev_iconst dX1_begin_60 ?_
    refine ev_put fwX1_64 dX1_begin_61 dm3_0 en3_0 rfl rfl rfl (Nat.le_of_ble_eq_true rfl) ?_
    refine ev_aload_n (j := 0) dX1_begin_64 rfl rfl ?_
    refine ev_iconst dX1_begin_65 ?_
    refine ev_put fwX1_68 dX1_begin_66 dm3_0 en3_0 rfl rfl rfl (Nat.le_of_ble_eq_true rfl) ?_
    refine ev_aload_n (j := 0) dX1_begin_69 rfl rfl ?_
    refine ev_iconst dX1_begin_70 ?_
    refine ev_put fwX1_71 dX1_begin_71 dm3_0 en3_0 rfl rfl rfl (Nat.le_of_ble_eq_true rfl) ?_
    refine ev_iconst dX1_begin_74 ?_
    refine ev_istore_n dX1_begin_75 rfl (by decide) rfl ?_
    exact ev_sub [1, 0] rfl h6
  · have h7 := h4 c5
    refine ev_aload_n (j := 0) dX1_begin_41 rfl rfl ?_
    refine ev_get frX1_19 dX1_begin_42 dm3_0 en3_0 rfl ?_
    refine ev_iload_n (j := 1) dX1_begin_45 rfl rfl ?_
    obtain ⟨s8, h9⟩ := h7
    refine ev_aald (t := 4) (q := ad G 3 0 (64 + v1)) (Or.inr rfl) dX1_begin_46 dm3_63 rfl (by decide) s8 c5 (by first | rfl | (show some (ad G _ _ (_ + ((v1 : Int).toNat : Int))) = _; rw [Int.toNat_of_nonneg (by omega)]; first | done | rfl)) ?_
    refine ev_sipush dX1_begin_47 (by decide) ?_
    refine ev_callSV (As := [rr G 3 0 (64 + v1), iv (-1000)]) (st := []) mffill mlX1_58 dX1_begin_50 rfl rfl (by decide) (by decide) (by decide) (Nat.le_of_ble_eq_true rfl) (fun _ _ z => z.elim) h9 (fun M10 h11 => ?_)
    refine ev_iinc (j := 1) dX1_begin_53 rfl (by decide) rfl ?_
    refine ev_goto 36 dX1_begin_56 (by decide) ?_
    exact ev_sub [1, 0] rfl h11
set_option maxRecDepth 20000 in
set_option maxHeartbeats 4000000 in
theorem bX1_begin_76 {G : GT} {K : List Value → Mem → Prop} {X : String → Mem → Prop} {M : Mem} {v1 : Int} (h : I32 v1 ∧ I32 (M 1 11 11 3) ∧ ((¬ v1 < (M 1 11 11 3) → K [] M) ∧ (v1 < (M 1 11 11 3) → Call G 1 0 zX1_beginTrip [rr G 3 0 0, iv v1, iv 0, iv 0] M (kV (fun M9 => eX1_begin G K X 76 [(0, rr G 3 0 0), (1, iv (v1 + 1))] [] M9)) noX))) : eX1_begin G K X 76 [(0, rr G 3 0 0), (1, iv v1)] [] M := by
  show Ex G zX1_begin 2 0 K X 0 76 [(0, rr G 3 0 0), (1, iv v1)] [] M
  refine ev_iload_n (j := 1) dX1_begin_76 rfl rfl ?_
  refine ev_aload_n (j := 0) dX1_begin_77 rfl rfl ?_
  refine ev_get frX1_38 dX1_begin_78 dm3_0 en3_0 rfl ?_
  refine ev_get frX1_74 dX1_begin_81 (dom1 (by decide) (by decide) (by decide) (by decide)) en1_0 rfl ?_
  refine ev_get frX1_78 dX1_begin_84 (dom1 (by decide) (by decide) (by decide) (by decide)) en1_11 rfl ?_
  obtain ⟨s1, s2, h3⟩ := h
  obtain ⟨h4, h5⟩ := h3
  refine ev_icmp_ge 103 dX1_begin_87 (by decide) s1 s2 (fun c6 => ?_) (fun c6 => ?_)
  · have h7 := h4 c6
    exact ev_vret dX1_begin_103 (by decide) rfl h7
  · have h8 := h5 c6
    refine ev_aload_n (j := 0) dX1_begin_90 rfl rfl ?_
    refine ev_iload_n (j := 1) dX1_begin_91 rfl rfl ?_
    refine ev_iconst dX1_begin_92 ?_
    refine ev_iconst dX1_begin_93 ?_
    refine ev_callVV (As := [iv v1, iv 0, iv 0]) (st := []) mfX1_beginTrip mlX1_83 dX1_begin_94 rfl dm3_0 en3_0 rfl rfl rfl (by decide) (by decide) (by decide) (Nat.le_of_ble_eq_true rfl) (fun _ _ z => z.elim) h8 (fun M9 h10 => ?_)
    refine ev_iinc (j := 1) dX1_begin_97 rfl (by decide) rfl ?_
    refine ev_goto 76 dX1_begin_100 (by decide) ?_
    exact ev_sub [1, 0] rfl h10
def eX1_beginTrip (G : GT) (K : List Value → Mem → Prop) (X : String → Mem → Prop) (pc : Nat) (lv : List (Nat × Value)) (st : List Value) (M : Mem) : Prop := Ex G zX1_beginTrip 1 0 K X 0 pc lv st M
set_option maxRecDepth 20000 in
set_option maxHeartbeats 4000000 in
theorem bX1_beginTrip {G : GT} {K : List Value → Mem → Prop} {X : String → Mem → Prop} {M : Mem} {v1 v2 v3 : Int} (h : 0 ≤ v1 ∧ v1 < 10 ∧ I32 v2 ∧ I32 (M 1 11 13 v1) ∧ ((v2 < (M 1 11 13 v1) → 0 ≤ v2 ∧ v2 < 30 ∧ 0 ≤ M 1 11 (15 + v1) v2 ∧ M 1 11 (15 + v1) v2 < 30 ∧ ∀ M17 : Mem, M17 = wr (wr (wr M 3 0 67 v1 v2) 3 0 66 v1 (M 1 11 (15 + v1) v2)) 3 0 68 v1 (M 1 11 7 (M 1 11 (15 + v1) v2)) → I32 (M17 1 11 9 (M 1 11 (15 + v1) v2)) ∧ I32 v3 ∧ ∀ M23 : Mem, M23 = wr M17 3 0 69 v1 (max (M17 1 11 9 (M 1 11 (15 + v1) v2)) v3) → K [] M23) ∧ (¬ v2 < (M 1 11 13 v1) → K [] (wr (wr M 3 0 67 v1 v2) 3 0 66 v1 (-1))))) : Call G 1 0 zX1_beginTrip [rr G 3 0 0, iv v1, iv v2, iv v3] M K X := by
  refine call_intro (lv := [(0, rr G 3 0 0), (1, iv v1), (2, iv v2), (3, iv v3)]) (by decide) rfl (Nat.le_of_ble_eq_true rfl) rfl ?_
  refine ev_aload_n (j := 0) dX1_beginTrip_0 rfl rfl ?_
  refine ev_get frX1_26 dX1_beginTrip_1 dm3_0 en3_0 rfl ?_
  refine ev_iload_n (j := 1) dX1_beginTrip_4 rfl rfl ?_
  refine ev_iload_n (j := 2) dX1_beginTrip_5 rfl rfl ?_
  obtain ⟨s1, s2, h3⟩ := h
  refine ev_iast dX1_beginTrip_6 dm3_67 ar3_67 (by decide) s1 s2 ?_
  refine ev_iload_n (j := 2) dX1_beginTrip_7 rfl rfl ?_
  refine ev_aload_n (j := 0) dX1_beginTrip_8 rfl rfl ?_
  refine ev_get frX1_38 dX1_beginTrip_9 dm3_0 en3_0 rfl ?_
  refine ev_get frX1_74 dX1_beginTrip_12 (dom1 (by decide) (by decide) (by decide) (by decide)) en1_0 rfl ?_
  refine ev_get frX1_87 dX1_beginTrip_15 (dom1 (by decide) (by decide) (by decide) (by decide)) en1_11 rfl ?_
  refine ev_iload_n (j := 1) dX1_beginTrip_18 rfl rfl ?_
  refine ev_iald dX1_beginTrip_19 (dom1 (by decide) (by decide) (by decide) (by decide)) ar1_13 (by decide) s1 s2 ?_
  refine ev_topI (b := M 1 11 13 v1) rfl ?_
  obtain ⟨s4, s5, h6⟩ := h3
  obtain ⟨h7, h8⟩ := h6
  refine ev_icmp_lt 31 dX1_beginTrip_20 (by decide) s4 s5 (fun c9 => ?_) (fun c9 => ?_)
  · have h10 := h7 c9
    refine ev_aload_n (j := 0) dX1_beginTrip_31 rfl rfl ?_
    refine ev_get frX1_38 dX1_beginTrip_32 dm3_0 en3_0 rfl ?_
    refine ev_get frX1_74 dX1_beginTrip_35 (dom1 (by decide) (by decide) (by decide) (by decide)) en1_0 rfl ?_
    refine ev_get frX1_90 dX1_beginTrip_38 (dom1 (by decide) (by decide) (by decide) (by decide)) en1_11 rfl ?_
    refine ev_iload_n (j := 1) dX1_beginTrip_41 rfl rfl ?_
    refine ev_aald (t := 4) (q := ad G 1 11 (15 + v1)) (Or.inr rfl) dX1_beginTrip_42 (dom1 (by decide) (by decide) (by decide) (by decide)) rfl (by decide) s1 s2 (by first | rfl | (show some (ad G _ _ (_ + ((v1 : Int).toNat : Int))) = _; rw [Int.toNat_of_nonneg (by omega)]; first | done | rfl)) ?_
    refine ev_iload_n (j := 2) dX1_beginTrip_43 rfl rfl ?_
    obtain ⟨s11, s12, h13⟩ := h10
    refine ev_iald dX1_beginTrip_44 (dom1 (by decide) (by decide) (by omega) (by omega)) (row1_15 (by omega) (by omega)) (by decide) s11 s12 ?_
    refine ev_topI (b := M 1 11 (15 + v1) v2) rfl ?_
    refine ev_istore dX1_beginTrip_45 (by decide) rfl ?_
    refine ev_aload_n (j := 1) dX1_beginTrip_47 rfl rfl ?_
    refine ev_get frX1_22 dX1_beginTrip_48 dm3_0 en3_0 rfl ?_
    refine ev_iload_n (j := 2) dX1_beginTrip_51 rfl rfl ?_
    refine ev_iload (j := 0) dX1_beginTrip_52 rfl ?_
    refine ev_iast dX1_beginTrip_54 dm3_66 ar3_66 (by decide) s1 s2 ?_
    refine ev_aload_n (j := 1) dX1_beginTrip_55 rfl rfl ?_
    refine ev_get frX1_29 dX1_beginTrip_56 dm3_0 en3_0 rfl ?_
    refine ev_iload_n (j := 2) dX1_beginTrip_59 rfl rfl ?_
    refine ev_aload_n (j := 1) dX1_beginTrip_60 rfl rfl ?_
    refine ev_get frX1_38 dX1_beginTrip_61 dm3_0 en3_0 rfl ?_
    refine ev_get frX1_93 dX1_beginTrip_64 (dom1 (by decide) (by decide) (by decide) (by decide)) en1_0 rfl ?_
    refine ev_get frX1_97 dX1_beginTrip_67 (dom1 (by decide) (by decide) (by decide) (by decide)) en1_6 rfl ?_
    refine ev_iload (j := 0) dX1_beginTrip_70 rfl ?_
    obtain ⟨s14, s15, h16⟩ := h13
    refine ev_iald dX1_beginTrip_72 (dom1 (by decide) (by decide) (by decide) (by decide)) ar1_7 (by decide) s14 s15 ?_
    refine ev_topI (b := M 1 11 7 (M 1 11 (15 + v1) v2)) rfl ?_
    refine ev_iast dX1_beginTrip_73 dm3_68 ar3_68 (by decide) s1 s2 ?_
    obtain ⟨M17, e19⟩ : ∃ M17 : Mem, M17 = wr (wr (wr M 3 0 67 v1 v2) 3 0 66 v1 (M 1 11 (15 + v1) v2)) 3 0 68 v1 (M 1 11 7 (M 1 11 (15 + v1) v2)) := ⟨_, rfl⟩
    have h18 := h16 _ e19
    refine ev_mem e19 ?_
    refine ev_aload_n (j := 1) dX1_beginTrip_74 rfl rfl ?_
    refine ev_get frX1_32 dX1_beginTrip_75 dm3_0 en3_0 rfl ?_
    refine ev_iload_n (j := 2) dX1_beginTrip_78 rfl rfl ?_
    refine ev_aload_n (j := 1) dX1_beginTrip_79 rfl rfl ?_
    refine ev_get frX1_38 dX1_beginTrip_80 dm3_0 en3_0 rfl ?_
    refine ev_get frX1_93 dX1_beginTrip_83 (dom1 (by decide) (by decide) (by decide) (by decide)) en1_0 rfl ?_
    refine ev_get frX1_102 dX1_beginTrip_86 (dom1 (by decide) (by decide) (by decide) (by decide)) en1_6 rfl ?_
    refine ev_iload (j := 0) dX1_beginTrip_89 rfl ?_
    refine ev_iald dX1_beginTrip_91 (dom1 (by decide) (by decide) (by decide) (by decide)) ar1_9 (by decide) s14 s15 ?_
    refine ev_iload_n (j := 4) dX1_beginTrip_92 rfl rfl ?_
    obtain ⟨s20, s21, h22⟩ := h18
    refine ev_max mlX1_105 wm_max_st wm_math wm_max_cd dX1_beginTrip_93 (by decide) (by decide) (Nat.le_of_ble_eq_true rfl) s20 s21 ?_
    refine ev_iast dX1_beginTrip_96 dm3_69 ar3_69 (by decide) s1 s2 ?_
    obtain ⟨M23, e25⟩ : ∃ M23 : Mem, M23 = wr M17 3 0 69 v1 (max (M17 1 11 9 (M 1 11 (15 + v1) v2)) v3) := ⟨_, rfl⟩
    have h24 := h22 _ e25
    refine ev_mem e25 ?_
    exact ev_vret dX1_beginTrip_97 (by decide) rfl h24
  · have h26 := h8 c9
    refine ev_aload_n (j := 0) dX1_beginTrip_23 rfl rfl ?_
    refine ev_get frX1_22 dX1_beginTrip_24 dm3_0 en3_0 rfl ?_
    refine ev_iload_n (j := 1) dX1_beginTrip_27 rfl rfl ?_
    refine ev_iconst dX1_beginTrip_28 ?_
    refine ev_iast dX1_beginTrip_29 dm3_66 ar3_66 (by decide) s1 s2 ?_
    exact ev_vret dX1_beginTrip_30 (by decide) rfl h26
def eX1_delayOf (G : GT) (K : List Value → Mem → Prop) (X : String → Mem → Prop) (pc : Nat) (lv : List (Nat × Value)) (st : List Value) (M : Mem) : Prop := Ex G zX1_delayOf 2 0 K X 0 pc lv st M
set_option maxRecDepth 20000 in
set_option maxHeartbeats 4000000 in
theorem bX1_delayOf {G : GT} {K : List Value → Mem → Prop} {X : String → Mem → Prop} {M : Mem} {v1 : Int} (h : Call G 0 0 zX1_actualArrival [rr G 3 0 0, iv v1] M (kI (fun x3 M1 => Call G 1 0 zX4_arrivalOf [rr G 1 11 0, iv v1] M1 (kI (fun x6 M4 => K [iv (x3 - x6)] M4)) noX)) noX) : Call G 2 0 zX1_delayOf [rr G 3 0 0, iv v1] M K X := by
  refine call_intro (lv := [(0, rr G 3 0 0), (1, iv v1)]) (by decide) rfl (Nat.le_of_ble_eq_true rfl) rfl ?_
  refine ev_aload_n (j := 0) dX1_delayOf_0 rfl rfl ?_
  refine ev_iload_n (j := 1) dX1_delayOf_1 rfl rfl ?_
  refine ev_callVI (As := [iv v1]) (st := []) mfX1_actualArrival mlX1_149 dX1_delayOf_2 rfl dm3_0 en3_0 rfl rfl rfl (by decide) (by decide) (by decide) (Nat.le_of_ble_eq_true rfl) (fun _ _ z => z.elim) h (fun x3 M1 h2 => ?_)
  refine ev_aload_n (j := 0) dX1_delayOf_5 rfl rfl ?_
  refine ev_get frX1_38 dX1_delayOf_6 dm3_0 en3_0 rfl ?_
  refine ev_iload_n (j := 1) dX1_delayOf_9 rfl rfl ?_
  refine ev_callVI (As := [iv v1]) (st := [iv x3]) mfX4_arrivalOf mlX1_152 dX1_delayOf_10 rfl (dom1 (by decide) (by decide) (by decide) (by decide)) en1_0 rfl rfl rfl (by decide) (by decide) (by decide) (Nat.le_of_ble_eq_true rfl) (fun _ _ z => z.elim) h2 (fun x6 M4 h5 => ?_)
  refine ev_isub dX1_delayOf_13 ?_
  exact ev_iret dX1_delayOf_14 (by decide) rfl h5
def eX1_delaySum (G : GT) (K : List Value → Mem → Prop) (X : String → Mem → Prop) (pc : Nat) (lv : List (Nat × Value)) (st : List Value) (M : Mem) : Prop := Ex G zX1_delaySum 3 0 K X 0 pc lv st M
set_option maxRecDepth 20000 in
set_option maxHeartbeats 4000000 in
theorem bX1_delaySum {G : GT} {K : List Value → Mem → Prop} {X : String → Mem → Prop} {M : Mem} (h : eX1_delaySum G K X 4 [(0, rr G 3 0 0), (1, iv 0), (2, iv 0)] [] M) : Call G 3 0 zX1_delaySum [rr G 3 0 0] M K X := by
  refine call_intro (lv := [(0, rr G 3 0 0)]) (by decide) rfl (Nat.le_of_ble_eq_true rfl) rfl ?_
  refine ev_iconst dX1_delaySum_0 ?_
  refine ev_istore_n dX1_delaySum_1 rfl (by decide) rfl ?_
  refine ev_iconst dX1_delaySum_2 ?_
  refine ev_istore_n dX1_delaySum_3 rfl (by decide) rfl ?_
  exact ev_sub [2, 1, 0] rfl h
set_option maxRecDepth 20000 in
set_option maxHeartbeats 4000000 in
theorem bX1_delaySum_4 {G : GT} {K : List Value → Mem → Prop} {X : String → Mem → Prop} {M : Mem} {v1 v2 : Int} (h : I32 v2 ∧ I32 (M 1 11 6 4) ∧ ((¬ v2 < (M 1 11 6 4) → K [iv v1] M) ∧ (v2 < (M 1 11 6 4) → Call G 1 0 zX1_hasArrived [rr G 3 0 0, iv v2] M (kI (fun x11 M9 => I32 x11 ∧ ((x11 = 0 → eX1_delaySum G K X 4 [(0, rr G 3 0 0), (1, iv v1), (2, iv (v2 + 1))] [] M9) ∧ (¬ x11 = 0 → Call G 2 0 zX1_delayOf [rr G 3 0 0, iv v2] M9 (kI (fun x21 M19 => eX1_delaySum G K X 4 [(0, rr G 3 0 0), (1, iv (v1 + x21)), (2, iv (v2 + 1))] [] M19)) noX)))) noX))) : eX1_delaySum G K X 4 [(0, rr G 3 0 0), (1, iv v1), (2, iv v2)] [] M := by
  show Ex G zX1_delaySum 3 0 K X 0 4 [(0, rr G 3 0 0), (1, iv v1), (2, iv v2)] [] M
  refine ev_iload_n (j := 2) dX1_delaySum_4 rfl rfl ?_
  refine ev_aload_n (j := 0) dX1_delaySum_5 rfl rfl ?_
  refine ev_get frX1_38 dX1_delaySum_6 dm3_0 en3_0 rfl ?_
  refine ev_get frX1_93 dX1_delaySum_9 (dom1 (by decide) (by decide) (by decide) (by decide)) en1_0 rfl ?_
  refine ev_get frX1_155 dX1_delaySum_12 (dom1 (by decide) (by decide) (by decide) (by decide)) en1_6 rfl ?_
  obtain ⟨s1, s2, h3⟩ := h
  obtain ⟨h4, h5⟩ := h3
  refine ev_icmp_ge 40 dX1_delaySum_15 (by decide) s1 s2 (fun c6 => ?_) (fun c6 => ?_)
  · have h7 := h4 c6
    refine ev_iload_n (j := 1) dX1_delaySum_40 rfl rfl ?_
    exact ev_iret dX1_delaySum_41 (by decide) rfl h7
  · have h8 := h5 c6
    refine ev_aload_n (j := 0) dX1_delaySum_18 rfl rfl ?_
    refine ev_iload_n (j := 2) dX1_delaySum_19 rfl rfl ?_
    refine ev_callVI (As := [iv v2]) (st := []) mfX1_hasArrived mlX1_156 dX1_delaySum_20 rfl dm3_0 en3_0 rfl rfl rfl (by decide) (by decide) (by decide) (Nat.le_of_ble_eq_true rfl) (fun _ _ z => z.elim) h8 (fun x11 M9 h10 => ?_)
    obtain ⟨s12, h13⟩ := h10
    obtain ⟨h14, h15⟩ := h13
    refine ev_if_eq 34 dX1_delaySum_23 (by decide) s12 (fun c16 => ?_) (fun c16 => ?_)
    · have h17 := h14 c16
      refine ev_iinc (j := 2) dX1_delaySum_34 rfl (by decide) rfl ?_
      refine ev_goto 4 dX1_delaySum_37 (by decide) ?_
      exact ev_sub [1, 2, 0] rfl h17
    · have h18 := h15 c16
      refine ev_iload_n (j := 1) dX1_delaySum_26 rfl rfl ?_
      refine ev_aload_n (j := 0) dX1_delaySum_27 rfl rfl ?_
      refine ev_iload_n (j := 2) dX1_delaySum_28 rfl rfl ?_
      refine ev_callVI (As := [iv v2]) (st := [iv v1]) mfX1_delayOf mlX1_160 dX1_delaySum_29 rfl dm3_0 en3_0 rfl rfl rfl (by decide) (by decide) (by decide) (Nat.le_of_ble_eq_true rfl) (fun _ _ z => z.elim) h18 (fun x21 M19 h20 => ?_)
      refine ev_iadd dX1_delaySum_32 ?_
      refine ev_istore_n dX1_delaySum_33 rfl (by decide) rfl ?_
      refine ev_iinc (j := 2) dX1_delaySum_34 rfl (by decide) rfl ?_
      refine ev_goto 4 dX1_delaySum_37 (by decide) ?_
      exact ev_sub [2, 1, 0] rfl h20
def eX1_depart (G : GT) (K : List Value → Mem → Prop) (X : String → Mem → Prop) (pc : Nat) (lv : List (Nat × Value)) (st : List Value) (M : Mem) : Prop := Ex G zX1_depart 2 0 K X 0 pc lv st M
set_option maxRecDepth 20000 in
set_option maxHeartbeats 4000000 in
theorem bX1_depart {G : GT} {K : List Value → Mem → Prop} {X : String → Mem → Prop} {M : Mem} {v1 v2 v3 : Int} (h : 0 ≤ v1 ∧ v1 < 10 ∧ 0 ≤ M 3 0 66 v1 ∧ M 3 0 66 v1 < 30 ∧ 0 ≤ M 3 0 68 v1 ∧ M 3 0 68 v1 < 12 ∧ 0 ≤ v2 ∧ v2 < 2 ∧ 0 ≤ (wr M 3 0 (33 + (M 3 0 66 v1)) (M 3 0 68 v1) (M 3 0 69 v1)) 3 0 68 v1 ∧ (wr M 3 0 (33 + (M 3 0 66 v1)) (M 3 0 68 v1) (M 3 0 69 v1)) 3 0 68 v1 < 12 ∧ ∀ M16 : Mem, M16 = wr (wr M 3 0 (33 + (M 3 0 66 v1)) (M 3 0 68 v1) (M 3 0 69 v1)) 3 0 (64 + v2) ((wr M 3 0 (33 + (M 3 0 66 v1)) (M 3 0 68 v1) (M 3 0 69 v1)) 3 0 68 v1) (M 3 0 69 v1) → I32 v2 ∧ ((¬ v2 = 0 → ∀ M25 : Mem, M25 = wr (wr M16 3 0 68 v1 ((M16 3 0 68 v1) + (-1))) 3 0 69 v1 ((M 3 0 69 v1) + v3) → 0 ≤ M25 3 0 68 v1 ∧ M25 3 0 68 v1 < 12 ∧ ∀ M31 : Mem, M31 = wr M25 3 0 (2 + (M 3 0 66 v1)) (M25 3 0 68 v1) ((M 3 0 69 v1) + v3) → I32 (M31 3 0 68 v1) ∧ I32 (M31 1 11 8 (M 3 0 66 v1)) ∧ ((¬ (M31 3 0 68 v1) = (M31 1 11 8 (M 3 0 66 v1)) → K [] M31) ∧ ((M31 3 0 68 v1) = (M31 1 11 8 (M 3 0 66 v1)) → Call G 1 0 zX1_beginTrip [rr G 3 0 0, iv v1, iv ((M31 3 0 67 v1) + 1), iv (((M 3 0 69 v1) + v3) + (M31 1 11 5 0))] M31 (kV (fun M42 => K [] M42)) noX))) ∧ (v2 = 0 → ∀ M46 : Mem, M46 = wr (wr M16 3 0 68 v1 ((M16 3 0 68 v1) + 1)) 3 0 69 v1 ((M 3 0 69 v1) + v3) → 0 ≤ M46 3 0 68 v1 ∧ M46 3 0 68 v1 < 12 ∧ ∀ M52 : Mem, M52 = wr M46 3 0 (2 + (M 3 0 66 v1)) (M46 3 0 68 v1) ((M 3 0 69 v1) + v3) → I32 (M52 3 0 68 v1) ∧ I32 (M52 1 11 8 (M 3 0 66 v1)) ∧ ((¬ (M52 3 0 68 v1) = (M52 1 11 8 (M 3 0 66 v1)) → K [] M52) ∧ ((M52 3 0 68 v1) = (M52 1 11 8 (M 3 0 66 v1)) → Call G 1 0 zX1_beginTrip [rr G 3 0 0, iv v1, iv ((M52 3 0 67 v1) + 1), iv (((M 3 0 69 v1) + v3) + (M52 1 11 5 0))] M52 (kV (fun M63 => K [] M63)) noX))))) : Call G 2 0 zX1_depart [rr G 3 0 0, iv v1, iv v2, iv v3] M K X := by
  refine call_intro (lv := [(0, rr G 3 0 0), (1, iv v1), (2, iv v2), (3, iv v3)]) (by decide) rfl (Nat.le_of_ble_eq_true rfl) rfl ?_
  refine ev_aload_n (j := 0) dX1_depart_0 rfl rfl ?_
  refine ev_get frX1_22 dX1_depart_1 dm3_0 en3_0 rfl ?_
  refine ev_iload_n (j := 1) dX1_depart_4 rfl rfl ?_
  obtain ⟨s1, s2, h3⟩ := h
  refine ev_iald dX1_depart_5 dm3_66 ar3_66 (by decide) s1 s2 ?_
  refine ev_istore dX1_depart_6 (by decide) rfl ?_
  refine ev_aload_n (j := 1) dX1_depart_8 rfl rfl ?_
  refine ev_get frX1_32 dX1_depart_9 dm3_0 en3_0 rfl ?_
  refine ev_iload_n (j := 2) dX1_depart_12 rfl rfl ?_
  refine ev_iald dX1_depart_13 dm3_69 ar3_69 (by decide) s1 s2 ?_
  refine ev_istore dX1_depart_14 (by decide) rfl ?_
  refine ev_aload_n (j := 2) dX1_depart_16 rfl rfl ?_
  refine ev_get frX1_16 dX1_depart_17 dm3_0 en3_0 rfl ?_
  refine ev_iload (j := 1) dX1_depart_20 rfl ?_
  obtain ⟨s4, s5, h6⟩ := h3
  refine ev_aald (t := 4) (q := ad G 3 0 (33 + (M 3 0 66 v1))) (Or.inr rfl) dX1_depart_22 dm3_32 rfl (by decide) s4 s5 (by first | rfl | (show some (ad G _ _ (_ + ((M 3 0 66 v1 : Int).toNat : Int))) = _; rw [Int.toNat_of_nonneg (by omega)]; first | done | rfl)) ?_
  refine ev_aload_n (j := 2) dX1_depart_23 rfl rfl ?_
  refine ev_get frX1_29 dX1_depart_24 dm3_0 en3_0 rfl ?_
  refine ev_iload_n (j := 3) dX1_depart_27 rfl rfl ?_
  refine ev_iald dX1_depart_28 dm3_68 ar3_68 (by decide) s1 s2 ?_
  refine ev_iload (j := 0) dX1_depart_29 rfl ?_
  obtain ⟨s7, s8, h9⟩ := h6
  refine ev_iast dX1_depart_31 (dom3 (by omega) (by omega)) (row3_33 (by omega) (by omega)) (by decide) s7 s8 ?_
  refine ev_aload_n (j := 2) dX1_depart_32 rfl rfl ?_
  refine ev_get frX1_19 dX1_depart_33 dm3_0 en3_0 rfl ?_
  refine ev_iload_n (j := 4) dX1_depart_36 rfl rfl ?_
  obtain ⟨s10, s11, h12⟩ := h9
  refine ev_aald (t := 4) (q := ad G 3 0 (64 + v2)) (Or.inr rfl) dX1_depart_37 dm3_63 rfl (by decide) s10 s11 (by first | rfl | (show some (ad G _ _ (_ + ((v2 : Int).toNat : Int))) = _; rw [Int.toNat_of_nonneg (by omega)]; first | done | rfl)) ?_
  refine ev_aload_n (j := 2) dX1_depart_38 rfl rfl ?_
  refine ev_get frX1_29 dX1_depart_39 dm3_0 en3_0 rfl ?_
  refine ev_iload_n (j := 3) dX1_depart_42 rfl rfl ?_
  refine ev_iald dX1_depart_43 dm3_68 ar3_68 (by decide) s1 s2 ?_
  refine ev_iload (j := 0) dX1_depart_44 rfl ?_
  obtain ⟨s13, s14, h15⟩ := h12
  refine ev_iast dX1_depart_46 (dom3 (by omega) (by omega)) (row3_64 (by omega) (by omega)) (by decide) s13 s14 ?_
  obtain ⟨M16, e18⟩ : ∃ M16 : Mem, M16 = wr (wr M 3 0 (33 + (M 3 0 66 v1)) (M 3 0 68 v1) (M 3 0 69 v1)) 3 0 (64 + v2) ((wr M 3 0 (33 + (M 3 0 66 v1)) (M 3 0 68 v1) (M 3 0 69 v1)) 3 0 68 v1) (M 3 0 69 v1) := ⟨_, rfl⟩
  have h17 := h15 _ e18
  refine ev_mem e18 ?_
  refine ev_iload (j := 0) dX1_depart_47 rfl ?_
  refine ev_iload_n (j := 5) dX1_depart_49 rfl rfl ?_
  refine ev_iadd dX1_depart_50 ?_
  refine ev_istore dX1_depart_51 (by decide) rfl ?_
  refine ev_aload_n (j := 3) dX1_depart_53 rfl rfl ?_
  refine ev_get frX1_29 dX1_depart_54 dm3_0 en3_0 rfl ?_
  refine ev_iload_n (j := 4) dX1_depart_57 rfl rfl ?_
  refine ev_dup2 dX1_depart_58 rfl rfl ?_
  refine ev_iald dX1_depart_59 dm3_68 ar3_68 (by decide) s1 s2 ?_
  refine ev_iload_n (j := 5) dX1_depart_60 rfl rfl ?_
  obtain ⟨s19, h20⟩ := h17
  obtain ⟨h21, h22⟩ := h20
  refine ev_if_ne 68 dX1_depart_61 (by decide) s19 (fun c23 => ?_) (fun c23 => ?_)
  · have h24 := h21 c23
    refine ev_iconst dX1_depart_68 ?_
    refine ev_iadd dX1_depart_69 ?_
    refine ev_iast dX1_depart_70 dm3_68 ar3_68 (by decide) s1 s2 ?_
    refine ev_aload_n (j := 3) dX1_depart_71 rfl rfl ?_
    refine ev_get frX1_32 dX1_depart_72 dm3_0 en3_0 rfl ?_
    refine ev_iload_n (j := 4) dX1_depart_75 rfl rfl ?_
    refine ev_iload (j := 0) dX1_depart_76 rfl ?_
    refine ev_iast dX1_depart_78 dm3_69 ar3_69 (by decide) s1 s2 ?_
    obtain ⟨M25, e27⟩ : ∃ M25 : Mem, M25 = wr (wr M16 3 0 68 v1 ((M16 3 0 68 v1) + (-1))) 3 0 69 v1 ((M 3 0 69 v1) + v3) := ⟨_, rfl⟩
    have h26 := h24 _ e27
    refine ev_mem e27 ?_
    refine ev_aload_n (j := 3) dX1_depart_79 rfl rfl ?_
    refine ev_get frX1_11 dX1_depart_80 dm3_0 en3_0 rfl ?_
    refine ev_iload (j := 2) dX1_depart_83 rfl ?_
    refine ev_aald (t := 4) (q := ad G 3 0 (2 + (M 3 0 66 v1))) (Or.inr rfl) dX1_depart_85 dm3_1 rfl (by decide) s4 s5 (by first | rfl | (show some (ad G _ _ (_ + ((M 3 0 66 v1 : Int).toNat : Int))) = _; rw [Int.toNat_of_nonneg (by omega)]; first | done | rfl)) ?_
    refine ev_aload_n (j := 3) dX1_depart_86 rfl rfl ?_
    refine ev_get frX1_29 dX1_depart_87 dm3_0 en3_0 rfl ?_
    refine ev_iload_n (j := 4) dX1_depart_90 rfl rfl ?_
    refine ev_iald dX1_depart_91 dm3_68 ar3_68 (by decide) s1 s2 ?_
    refine ev_iload (j := 0) dX1_depart_92 rfl ?_
    obtain ⟨s28, s29, h30⟩ := h26
    refine ev_iast dX1_depart_94 (dom3 (by omega) (by omega)) (row3_2 (by omega) (by omega)) (by decide) s28 s29 ?_
    obtain ⟨M31, e33⟩ : ∃ M31 : Mem, M31 = wr M25 3 0 (2 + (M 3 0 66 v1)) (M25 3 0 68 v1) ((M 3 0 69 v1) + v3) := ⟨_, rfl⟩
    have h32 := h30 _ e33
    refine ev_mem e33 ?_
    refine ev_aload_n (j := 3) dX1_depart_95 rfl rfl ?_
    refine ev_get frX1_29 dX1_depart_96 dm3_0 en3_0 rfl ?_
    refine ev_iload_n (j := 4) dX1_depart_99 rfl rfl ?_
    refine ev_iald dX1_depart_100 dm3_68 ar3_68 (by decide) s1 s2 ?_
    refine ev_aload_n (j := 3) dX1_depart_101 rfl rfl ?_
    refine ev_get frX1_38 dX1_depart_102 dm3_0 en3_0 rfl ?_
    refine ev_get frX1_93 dX1_depart_105 (dom1 (by decide) (by decide) (by decide) (by decide)) en1_0 rfl ?_
    refine ev_get frX1_148 dX1_depart_108 (dom1 (by decide) (by decide) (by decide) (by decide)) en1_6 rfl ?_
    refine ev_iload (j := 2) dX1_depart_111 rfl ?_
    refine ev_iald dX1_depart_113 (dom1 (by decide) (by decide) (by decide) (by decide)) ar1_8 (by decide) s4 s5 ?_
    obtain ⟨s34, s35, h36⟩ := h32
    obtain ⟨h37, h38⟩ := h36
    refine ev_icmp_ne 145 dX1_depart_114 (by decide) s34 s35 (fun c39 => ?_) (fun c39 => ?_)
    · have h40 := h37 c39
      exact ev_vret dX1_depart_145 (by decide) rfl h40
    · have h41 := h38 c39
      refine ev_aload_n (j := 3) dX1_depart_117 rfl rfl ?_
      refine ev_iload_n (j := 4) dX1_depart_118 rfl rfl ?_
      refine ev_aload_n (j := 3) dX1_depart_119 rfl rfl ?_
      refine ev_get frX1_26 dX1_depart_120 dm3_0 en3_0 rfl ?_
      refine ev_iload_n (j := 4) dX1_depart_123 rfl rfl ?_
      refine ev_iald dX1_depart_124 dm3_67 ar3_67 (by decide) s1 s2 ?_
      refine ev_iconst dX1_depart_125 ?_
      refine ev_iadd dX1_depart_126 ?_
      refine ev_iload (j := 0) dX1_depart_127 rfl ?_
      refine ev_aload_n (j := 3) dX1_depart_129 rfl rfl ?_
      refine ev_get frX1_38 dX1_depart_130 dm3_0 en3_0 rfl ?_
      refine ev_get frX1_119 dX1_depart_133 (dom1 (by decide) (by decide) (by decide) (by decide)) en1_0 rfl ?_
      refine ev_get frX1_123 dX1_depart_136 (dom1 (by decide) (by decide) (by decide) (by decide)) en1_1 rfl ?_
      refine ev_iconst dX1_depart_139 ?_
      refine ev_iald dX1_depart_140 (dom1 (by decide) (by decide) (by decide) (by decide)) ar1_5 (by decide) (by decide) (by decide) ?_
      refine ev_iadd dX1_depart_141 ?_
      refine ev_callVV (As := [iv v1, iv ((M31 3 0 67 v1) + 1), iv (((M 3 0 69 v1) + v3) + (M31 1 11 5 0))]) (st := []) mfX1_beginTrip mlX1_83 dX1_depart_142 rfl dm3_0 en3_0 rfl rfl rfl (by decide) (by decide) (by decide) (Nat.le_of_ble_eq_true rfl) (fun _ _ z => z.elim) h41 (fun M42 h43 => ?_)
      exact ev_vret dX1_depart_145 (by decide) rfl h43
  · have h45 := h22 c23
    refine ev_iconst dX1_depart_64 ?_
    refine ev_goto 69 dX1_depart_65 (by decide) ?_
    refine ev_iadd dX1_depart_69 ?_
    refine ev_iast dX1_depart_70 dm3_68 ar3_68 (by decide) s1 s2 ?_
    refine ev_aload_n (j := 3) dX1_depart_71 rfl rfl ?_
    refine ev_get frX1_32 dX1_depart_72 dm3_0 en3_0 rfl ?_
    refine ev_iload_n (j := 4) dX1_depart_75 rfl rfl ?_
    refine ev_iload (j := 0) dX1_depart_76 rfl ?_
    refine ev_iast dX1_depart_78 dm3_69 ar3_69 (by decide) s1 s2 ?_
    obtain ⟨M46, e48⟩ : ∃ M46 : Mem, M46 = wr (wr M16 3 0 68 v1 ((M16 3 0 68 v1) + 1)) 3 0 69 v1 ((M 3 0 69 v1) + v3) := ⟨_, rfl⟩
    have h47 := h45 _ e48
    refine ev_mem e48 ?_
    refine ev_aload_n (j := 3) dX1_depart_79 rfl rfl ?_
    refine ev_get frX1_11 dX1_depart_80 dm3_0 en3_0 rfl ?_
    refine ev_iload (j := 2) dX1_depart_83 rfl ?_
    refine ev_aald (t := 4) (q := ad G 3 0 (2 + (M 3 0 66 v1))) (Or.inr rfl) dX1_depart_85 dm3_1 rfl (by decide) s4 s5 (by first | rfl | (show some (ad G _ _ (_ + ((M 3 0 66 v1 : Int).toNat : Int))) = _; rw [Int.toNat_of_nonneg (by omega)]; first | done | rfl)) ?_
    refine ev_aload_n (j := 3) dX1_depart_86 rfl rfl ?_
    refine ev_get frX1_29 dX1_depart_87 dm3_0 en3_0 rfl ?_
    refine ev_iload_n (j := 4) dX1_depart_90 rfl rfl ?_
    refine ev_iald dX1_depart_91 dm3_68 ar3_68 (by decide) s1 s2 ?_
    refine ev_iload (j := 0) dX1_depart_92 rfl ?_
    obtain ⟨s49, s50, h51⟩ := h47
    refine ev_iast dX1_depart_94 (dom3 (by omega) (by omega)) (row3_2 (by omega) (by omega)) (by decide) s49 s50 ?_
    obtain ⟨M52, e54⟩ : ∃ M52 : Mem, M52 = wr M46 3 0 (2 + (M 3 0 66 v1)) (M46 3 0 68 v1) ((M 3 0 69 v1) + v3) := ⟨_, rfl⟩
    have h53 := h51 _ e54
    refine ev_mem e54 ?_
    refine ev_aload_n (j := 3) dX1_depart_95 rfl rfl ?_
    refine ev_get frX1_29 dX1_depart_96 dm3_0 en3_0 rfl ?_
    refine ev_iload_n (j := 4) dX1_depart_99 rfl rfl ?_
    refine ev_iald dX1_depart_100 dm3_68 ar3_68 (by decide) s1 s2 ?_
    refine ev_aload_n (j := 3) dX1_depart_101 rfl rfl ?_
    refine ev_get frX1_38 dX1_depart_102 dm3_0 en3_0 rfl ?_
    refine ev_get frX1_93 dX1_depart_105 (dom1 (by decide) (by decide) (by decide) (by decide)) en1_0 rfl ?_
    refine ev_get frX1_148 dX1_depart_108 (dom1 (by decide) (by decide) (by decide) (by decide)) en1_6 rfl ?_
    refine ev_iload (j := 2) dX1_depart_111 rfl ?_
    refine ev_iald dX1_depart_113 (dom1 (by decide) (by decide) (by decide) (by decide)) ar1_8 (by decide) s4 s5 ?_
    obtain ⟨s55, s56, h57⟩ := h53
    obtain ⟨h58, h59⟩ := h57
    refine ev_icmp_ne 145 dX1_depart_114 (by decide) s55 s56 (fun c60 => ?_) (fun c60 => ?_)
    · have h61 := h58 c60
      exact ev_vret dX1_depart_145 (by decide) rfl h61
    · have h62 := h59 c60
      refine ev_aload_n (j := 3) dX1_depart_117 rfl rfl ?_
      refine ev_iload_n (j := 4) dX1_depart_118 rfl rfl ?_
      refine ev_aload_n (j := 3) dX1_depart_119 rfl rfl ?_
      refine ev_get frX1_26 dX1_depart_120 dm3_0 en3_0 rfl ?_
      refine ev_iload_n (j := 4) dX1_depart_123 rfl rfl ?_
      refine ev_iald dX1_depart_124 dm3_67 ar3_67 (by decide) s1 s2 ?_
      refine ev_iconst dX1_depart_125 ?_
      refine ev_iadd dX1_depart_126 ?_
      refine ev_iload (j := 0) dX1_depart_127 rfl ?_
      refine ev_aload_n (j := 3) dX1_depart_129 rfl rfl ?_
      refine ev_get frX1_38 dX1_depart_130 dm3_0 en3_0 rfl ?_
      refine ev_get frX1_119 dX1_depart_133 (dom1 (by decide) (by decide) (by decide) (by decide)) en1_0 rfl ?_
      refine ev_get frX1_123 dX1_depart_136 (dom1 (by decide) (by decide) (by decide) (by decide)) en1_1 rfl ?_
      refine ev_iconst dX1_depart_139 ?_
      refine ev_iald dX1_depart_140 (dom1 (by decide) (by decide) (by decide) (by decide)) ar1_5 (by decide) (by decide) (by decide) ?_
      refine ev_iadd dX1_depart_141 ?_
      refine ev_callVV (As := [iv v1, iv ((M52 3 0 67 v1) + 1), iv (((M 3 0 69 v1) + v3) + (M52 1 11 5 0))]) (st := []) mfX1_beginTrip mlX1_83 dX1_depart_142 rfl dm3_0 en3_0 rfl rfl rfl (by decide) (by decide) (by decide) (Nat.le_of_ble_eq_true rfl) (fun _ _ z => z.elim) h62 (fun M63 h64 => ?_)
      exact ev_vret dX1_depart_145 (by decide) rfl h64
def eX1_greatestDelay (G : GT) (K : List Value → Mem → Prop) (X : String → Mem → Prop) (pc : Nat) (lv : List (Nat × Value)) (st : List Value) (M : Mem) : Prop := Ex G zX1_greatestDelay 3 0 K X 0 pc lv st M
set_option maxRecDepth 20000 in
set_option maxHeartbeats 4000000 in
theorem bX1_greatestDelay {G : GT} {K : List Value → Mem → Prop} {X : String → Mem → Prop} {M : Mem} (h : eX1_greatestDelay G K X 6 [(0, rr G 3 0 0), (1, iv 0), (2, iv 1), (3, iv 0)] [] M) : Call G 3 0 zX1_greatestDelay [rr G 3 0 0] M K X := by
  refine call_intro (lv := [(0, rr G 3 0 0)]) (by decide) rfl (Nat.le_of_ble_eq_true rfl) rfl ?_
  refine ev_iconst dX1_greatestDelay_0 ?_
  refine ev_istore_n dX1_greatestDelay_1 rfl (by decide) rfl ?_
  refine ev_iconst dX1_greatestDelay_2 ?_
  refine ev_istore_n dX1_greatestDelay_3 rfl (by decide) rfl ?_
  refine ev_iconst dX1_greatestDelay_4 ?_
  refine ev_istore_n dX1_greatestDelay_5 rfl (by decide) rfl ?_
  exact ev_sub [3, 2, 1, 0] rfl h
set_option maxRecDepth 20000 in
set_option maxHeartbeats 4000000 in
theorem bX1_greatestDelay_6 {G : GT} {K : List Value → Mem → Prop} {X : String → Mem → Prop} {M : Mem} {v1 v2 v3 : Int} (h : I32 v3 ∧ I32 (M 1 11 6 4) ∧ ((¬ v3 < (M 1 11 6 4) → K [iv v1] M) ∧ (v3 < (M 1 11 6 4) → Call G 1 0 zX1_hasArrived [rr G 3 0 0, iv v3] M (kI (fun x11 M9 => I32 x11 ∧ ((x11 = 0 → eX1_greatestDelay G K X 6 [(0, rr G 3 0 0), (1, iv v1), (2, iv v2), (3, iv (v3 + 1))] [] M9) ∧ (¬ x11 = 0 → I32 v2 ∧ ((v2 = 0 → Call G 2 0 zX1_delayOf [rr G 3 0 0, iv v3] M9 (kI (fun x27 M25 => I32 v1 ∧ I32 x27 ∧ eX1_greatestDelay G K X 6 [(0, rr G 3 0 0), (1, iv (max v1 x27)), (2, iv 0), (3, iv (v3 + 1))] [] M25)) noX) ∧ (¬ v2 = 0 → Call G 2 0 zX1_delayOf [rr G 3 0 0, iv v3] M9 (kI (fun x34 M32 => eX1_greatestDelay G K X 6 [(0, rr G 3 0 0), (1, iv x34), (2, iv 0), (3, iv (v3 + 1))] [] M32)) noX)))))) noX))) : eX1_greatestDelay G K X 6 [(0, rr G 3 0 0), (1, iv v1), (2, iv v2), (3, iv v3)] [] M := by
  show Ex G zX1_greatestDelay 3 0 K X 0 6 [(0, rr G 3 0 0), (1, iv v1), (2, iv v2), (3, iv v3)] [] M
  refine ev_iload_n (j := 3) dX1_greatestDelay_6 rfl rfl ?_
  refine ev_aload_n (j := 0) dX1_greatestDelay_7 rfl rfl ?_
  refine ev_get frX1_38 dX1_greatestDelay_8 dm3_0 en3_0 rfl ?_
  refine ev_get frX1_93 dX1_greatestDelay_11 (dom1 (by decide) (by decide) (by decide) (by decide)) en1_0 rfl ?_
  refine ev_get frX1_155 dX1_greatestDelay_14 (dom1 (by decide) (by decide) (by decide) (by decide)) en1_6 rfl ?_
  obtain ⟨s1, s2, h3⟩ := h
  obtain ⟨h4, h5⟩ := h3
  refine ev_icmp_ge 58 dX1_greatestDelay_17 (by decide) s1 s2 (fun c6 => ?_) (fun c6 => ?_)
  · have h7 := h4 c6
    refine ev_iload_n (j := 1) dX1_greatestDelay_58 rfl rfl ?_
    exact ev_iret dX1_greatestDelay_59 (by decide) rfl h7
  · have h8 := h5 c6
    refine ev_aload_n (j := 0) dX1_greatestDelay_20 rfl rfl ?_
    refine ev_iload_n (j := 3) dX1_greatestDelay_21 rfl rfl ?_
    refine ev_callVI (As := [iv v3]) (st := []) mfX1_hasArrived mlX1_156 dX1_greatestDelay_22 rfl dm3_0 en3_0 rfl rfl rfl (by decide) (by decide) (by decide) (Nat.le_of_ble_eq_true rfl) (fun _ _ z => z.elim) h8 (fun x11 M9 h10 => ?_)
    obtain ⟨s12, h13⟩ := h10
    obtain ⟨h14, h15⟩ := h13
    refine ev_if_eq 52 dX1_greatestDelay_25 (by decide) s12 (fun c16 => ?_) (fun c16 => ?_)
    · have h17 := h14 c16
      refine ev_iinc (j := 3) dX1_greatestDelay_52 rfl (by decide) rfl ?_
      refine ev_goto 6 dX1_greatestDelay_55 (by decide) ?_
      exact ev_sub [1, 2, 3, 0] rfl h17
    · have h18 := h15 c16
      refine ev_iload_n (j := 2) dX1_greatestDelay_28 rfl rfl ?_
      obtain ⟨s19, h20⟩ := h18
      obtain ⟨h21, h22⟩ := h20
      refine ev_if_eq 40 dX1_greatestDelay_29 (by decide) s19 (fun c23 => ?_) (fun c23 => ?_)
      · have h24 := h21 c23
        refine ev_iload_n (j := 1) dX1_greatestDelay_40 rfl rfl ?_
        refine ev_aload_n (j := 0) dX1_greatestDelay_41 rfl rfl ?_
        refine ev_iload_n (j := 3) dX1_greatestDelay_42 rfl rfl ?_
        refine ev_callVI (As := [iv v3]) (st := [iv v1]) mfX1_delayOf mlX1_160 dX1_greatestDelay_43 rfl dm3_0 en3_0 rfl rfl rfl (by decide) (by decide) (by decide) (Nat.le_of_ble_eq_true rfl) (fun _ _ z => z.elim) h24 (fun x27 M25 h26 => ?_)
        obtain ⟨s28, s29, h30⟩ := h26
        refine ev_max mlX1_105 wm_max_st wm_math wm_max_cd dX1_greatestDelay_46 (by decide) (by decide) (Nat.le_of_ble_eq_true rfl) s28 s29 ?_
        refine ev_istore_n dX1_greatestDelay_49 rfl (by decide) rfl ?_
        refine ev_iconst dX1_greatestDelay_50 ?_
        refine ev_istore_n dX1_greatestDelay_51 rfl (by decide) rfl ?_
        refine ev_iinc (j := 3) dX1_greatestDelay_52 rfl (by decide) rfl ?_
        refine ev_goto 6 dX1_greatestDelay_55 (by decide) ?_
        exact ev_sub [3, 2, 1, 0] rfl h30
      · have h31 := h22 c23
        refine ev_aload_n (j := 0) dX1_greatestDelay_32 rfl rfl ?_
        refine ev_iload_n (j := 3) dX1_greatestDelay_33 rfl rfl ?_
        refine ev_callVI (As := [iv v3]) (st := []) mfX1_delayOf mlX1_160 dX1_greatestDelay_34 rfl dm3_0 en3_0 rfl rfl rfl (by decide) (by decide) (by decide) (Nat.le_of_ble_eq_true rfl) (fun _ _ z => z.elim) h31 (fun x34 M32 h33 => ?_)
        refine ev_goto 49 dX1_greatestDelay_37 (by decide) ?_
        refine ev_istore_n dX1_greatestDelay_49 rfl (by decide) rfl ?_
        refine ev_iconst dX1_greatestDelay_50 ?_
        refine ev_istore_n dX1_greatestDelay_51 rfl (by decide) rfl ?_
        refine ev_iinc (j := 3) dX1_greatestDelay_52 rfl (by decide) rfl ?_
        refine ev_goto 6 dX1_greatestDelay_55 (by decide) ?_
        exact ev_sub [3, 2, 1, 0] rfl h33
def eX1_hasArrived (G : GT) (K : List Value → Mem → Prop) (X : String → Mem → Prop) (pc : Nat) (lv : List (Nat × Value)) (st : List Value) (M : Mem) : Prop := Ex G zX1_hasArrived 1 0 K X 0 pc lv st M
set_option maxRecDepth 20000 in
set_option maxHeartbeats 4000000 in
theorem bX1_hasArrived {G : GT} {K : List Value → Mem → Prop} {X : String → Mem → Prop} {M : Mem} {v1 : Int} (h : Call G 0 0 zX1_actualArrival [rr G 3 0 0, iv v1] M (kI (fun x3 M1 => I32 x3 ∧ ((x3 = (-1) → K [iv 0] M1) ∧ (¬ x3 = (-1) → K [iv 1] M1)))) noX) : Call G 1 0 zX1_hasArrived [rr G 3 0 0, iv v1] M K X := by
  refine call_intro (lv := [(0, rr G 3 0 0), (1, iv v1)]) (by decide) rfl (Nat.le_of_ble_eq_true rfl) rfl ?_
  refine ev_aload_n (j := 0) dX1_hasArrived_0 rfl rfl ?_
  refine ev_iload_n (j := 1) dX1_hasArrived_1 rfl rfl ?_
  refine ev_callVI (As := [iv v1]) (st := []) mfX1_actualArrival mlX1_149 dX1_hasArrived_2 rfl dm3_0 en3_0 rfl rfl rfl (by decide) (by decide) (by decide) (Nat.le_of_ble_eq_true rfl) (fun _ _ z => z.elim) h (fun x3 M1 h2 => ?_)
  refine ev_iconst dX1_hasArrived_5 ?_
  obtain ⟨s4, h5⟩ := h2
  obtain ⟨h6, h7⟩ := h5
  refine ev_icmp_eq 13 dX1_hasArrived_6 (by decide) s4 ⟨by decide, by decide⟩ (fun c8 => ?_) (fun c8 => ?_)
  · have h9 := h6 c8
    refine ev_iconst dX1_hasArrived_13 ?_
    exact ev_zret dX1_hasArrived_14 (by decide) rfl (by decide) h9
  · have h10 := h7 c8
    refine ev_iconst dX1_hasArrived_9 ?_
    refine ev_goto 14 dX1_hasArrived_10 (by decide) ?_
    exact ev_zret dX1_hasArrived_14 (by decide) rfl (by decide) h10
def eX1_isEarlier (G : GT) (K : List Value → Mem → Prop) (X : String → Mem → Prop) (pc : Nat) (lv : List (Nat × Value)) (st : List Value) (M : Mem) : Prop := Ex G zX1_isEarlier 0 0 K X 0 pc lv st M
set_option maxRecDepth 20000 in
set_option maxHeartbeats 4000000 in
theorem bX1_isEarlier {G : GT} {K : List Value → Mem → Prop} {X : String → Mem → Prop} {M : Mem} {v1 v2 : Int} (h : 0 ≤ v1 ∧ v1 < 10 ∧ 0 ≤ v2 ∧ v2 < 10 ∧ I32 (M 3 0 69 v1) ∧ I32 (M 3 0 69 v2) ∧ (((M 3 0 69 v1) < (M 3 0 69 v2) → K [iv 1] M) ∧ (¬ (M 3 0 69 v1) < (M 3 0 69 v2) → ((¬ (M 3 0 69 v1) = (M 3 0 69 v2) → K [iv 0] M) ∧ ((M 3 0 69 v1) = (M 3 0 69 v2) → I32 (M 3 0 66 v1) ∧ I32 (M 3 0 66 v2) ∧ ((¬ (M 3 0 66 v1) < (M 3 0 66 v2) → K [iv 0] M) ∧ ((M 3 0 66 v1) < (M 3 0 66 v2) → K [iv 1] M))))))) : Call G 0 0 zX1_isEarlier [rr G 3 0 0, iv v1, iv v2] M K X := by
  refine call_intro (lv := [(0, rr G 3 0 0), (1, iv v1), (2, iv v2)]) (by decide) rfl (Nat.le_of_ble_eq_true rfl) rfl ?_
  refine ev_aload_n (j := 0) dX1_isEarlier_0 rfl rfl ?_
  refine ev_get frX1_32 dX1_isEarlier_1 dm3_0 en3_0 rfl ?_
  refine ev_iload_n (j := 1) dX1_isEarlier_4 rfl rfl ?_
  obtain ⟨s1, s2, h3⟩ := h
  refine ev_iald dX1_isEarlier_5 dm3_69 ar3_69 (by decide) s1 s2 ?_
  refine ev_aload_n (j := 0) dX1_isEarlier_6 rfl rfl ?_
  refine ev_get frX1_32 dX1_isEarlier_7 dm3_0 en3_0 rfl ?_
  refine ev_iload_n (j := 2) dX1_isEarlier_10 rfl rfl ?_
  obtain ⟨s4, s5, h6⟩ := h3
  refine ev_iald dX1_isEarlier_11 dm3_69 ar3_69 (by decide) s4 s5 ?_
  obtain ⟨s7, s8, h9⟩ := h6
  obtain ⟨h10, h11⟩ := h9
  refine ev_icmp_lt 45 dX1_isEarlier_12 (by decide) s7 s8 (fun c12 => ?_) (fun c12 => ?_)
  · have h13 := h10 c12
    refine ev_iconst dX1_isEarlier_45 ?_
    refine ev_goto 50 dX1_isEarlier_46 (by decide) ?_
    exact ev_zret dX1_isEarlier_50 (by decide) rfl (by decide) h13
  · have h14 := h11 c12
    refine ev_aload_n (j := 0) dX1_isEarlier_15 rfl rfl ?_
    refine ev_get frX1_32 dX1_isEarlier_16 dm3_0 en3_0 rfl ?_
    refine ev_iload_n (j := 1) dX1_isEarlier_19 rfl rfl ?_
    refine ev_iald dX1_isEarlier_20 dm3_69 ar3_69 (by decide) s1 s2 ?_
    refine ev_aload_n (j := 0) dX1_isEarlier_21 rfl rfl ?_
    refine ev_get frX1_32 dX1_isEarlier_22 dm3_0 en3_0 rfl ?_
    refine ev_iload_n (j := 2) dX1_isEarlier_25 rfl rfl ?_
    refine ev_iald dX1_isEarlier_26 dm3_69 ar3_69 (by decide) s4 s5 ?_
    obtain ⟨h15, h16⟩ := h14
    refine ev_icmp_ne 49 dX1_isEarlier_27 (by decide) s7 s8 (fun c17 => ?_) (fun c17 => ?_)
    · have h18 := h15 c17
      refine ev_iconst dX1_isEarlier_49 ?_
      exact ev_zret dX1_isEarlier_50 (by decide) rfl (by decide) h18
    · have h19 := h16 c17
      refine ev_aload_n (j := 0) dX1_isEarlier_30 rfl rfl ?_
      refine ev_get frX1_22 dX1_isEarlier_31 dm3_0 en3_0 rfl ?_
      refine ev_iload_n (j := 1) dX1_isEarlier_34 rfl rfl ?_
      refine ev_iald dX1_isEarlier_35 dm3_66 ar3_66 (by decide) s1 s2 ?_
      refine ev_aload_n (j := 0) dX1_isEarlier_36 rfl rfl ?_
      refine ev_get frX1_22 dX1_isEarlier_37 dm3_0 en3_0 rfl ?_
      refine ev_iload_n (j := 2) dX1_isEarlier_40 rfl rfl ?_
      refine ev_iald dX1_isEarlier_41 dm3_66 ar3_66 (by decide) s4 s5 ?_
      obtain ⟨s20, s21, h22⟩ := h19
      obtain ⟨h23, h24⟩ := h22
      refine ev_icmp_ge 49 dX1_isEarlier_42 (by decide) s20 s21 (fun c25 => ?_) (fun c25 => ?_)
      · have h26 := h23 c25
        refine ev_iconst dX1_isEarlier_49 ?_
        exact ev_zret dX1_isEarlier_50 (by decide) rfl (by decide) h26
      · have h27 := h24 c25
        refine ev_iconst dX1_isEarlier_45 ?_
        refine ev_goto 50 dX1_isEarlier_46 (by decide) ?_
        exact ev_zret dX1_isEarlier_50 (by decide) rfl (by decide) h27
def eX1_listDepartures (G : GT) (K : List Value → Mem → Prop) (X : String → Mem → Prop) (pc : Nat) (lv : List (Nat × Value)) (st : List Value) (M : Mem) : Prop := Ex G zX1_listDepartures 1 0 K X 0 pc lv st M
set_option maxRecDepth 20000 in
set_option maxHeartbeats 4000000 in
theorem bX1_listDepartures {G : GT} {K : List Value → Mem → Prop} {X : String → Mem → Prop} {M : Mem} {q : Int} (hq0 : 0 ≤ q) (hq1 : q < 3) {v1 v2 : Int} (h : Call G 0 0 zX7_clear [rr G 5 q 0] M (kV (fun M1 => eX1_listDepartures G K X 7 [(0, rr G 3 0 0), (1, iv v1), (2, iv v2), (3, rr G 5 q 0), (4, iv 0)] [] M1)) noX) : Call G 1 0 zX1_listDepartures [rr G 3 0 0, iv v1, iv v2, rr G 5 q 0] M K X := by
  refine call_intro (lv := [(0, rr G 3 0 0), (1, iv v1), (2, iv v2), (3, rr G 5 q 0)]) (by decide) rfl (Nat.le_of_ble_eq_true rfl) rfl ?_
  refine ev_aload_n (j := 3) dX1_listDepartures_0 rfl rfl ?_
  refine ev_callVV (As := []) (st := []) mfX7_clear mlX1_163 dX1_listDepartures_1 rfl (dom5 hq0 hq1 (by decide) (by decide)) en5_0 rfl rfl rfl (by decide) (by decide) (by decide) (Nat.le_of_ble_eq_true rfl) (fun _ _ z => z.elim) h (fun M1 h2 => ?_)
  refine ev_iconst dX1_listDepartures_4 ?_
  refine ev_istore dX1_listDepartures_5 (by decide) rfl ?_
  exact ev_sub [1, 2, 3, 4, 0] rfl h2
set_option maxRecDepth 20000 in
set_option maxHeartbeats 4000000 in
theorem bX1_listDepartures_7 {G : GT} {K : List Value → Mem → Prop} {X : String → Mem → Prop} {M : Mem} {q : Int} (hq0 : 0 ≤ q) (hq1 : q < 3) {v1 v2 v4 : Int} (h : I32 v4 ∧ I32 (M 1 11 6 4) ∧ ((¬ v4 < (M 1 11 6 4) → K [] M) ∧ (v4 < (M 1 11 6 4) → Call G 0 0 zX8_directionOf [rr G 1 11 6, iv v4] M (kI (fun x11 M9 => I32 x11 ∧ I32 v1 ∧ ((¬ x11 = v1 → eX1_listDepartures G K X 7 [(0, rr G 3 0 0), (1, iv v1), (2, iv v2), (3, rr G 5 q 0), (4, iv (v4 + 1))] [] M9) ∧ (x11 = v1 → 0 ≤ v4 ∧ v4 < 30 ∧ 0 ≤ v2 ∧ v2 < 12 ∧ I32 (M9 3 0 (33 + v4) v2) ∧ (((M9 3 0 (33 + v4) v2) = (-1) → eX1_listDepartures G K X 7 [(0, rr G 3 0 0), (1, iv v1), (2, iv v2), (3, rr G 5 q 0), (4, iv (v4 + 1))] [] M9) ∧ (¬ (M9 3 0 (33 + v4) v2) = (-1) → Call G 0 0 zX7_put [rr G 5 q 0, iv (M9 3 0 (33 + v4) v2), iv v4] M9 (kV (fun M33 => eX1_listDepartures G K X 7 [(0, rr G 3 0 0), (1, iv v1), (2, iv v2), (3, rr G 5 q 0), (4, iv (v4 + 1))] [] M33)) noX)))))) noX))) : eX1_listDepartures G K X 7 [(0, rr G 3 0 0), (1, iv v1), (2, iv v2), (3, rr G 5 q 0), (4, iv v4)] [] M := by
  show Ex G zX1_listDepartures 1 0 K X 0 7 [(0, rr G 3 0 0), (1, iv v1), (2, iv v2), (3, rr G 5 q 0), (4, iv v4)] [] M
  refine ev_iload (j := 4) dX1_listDepartures_7 rfl ?_
  refine ev_aload_n (j := 0) dX1_listDepartures_9 rfl rfl ?_
  refine ev_get frX1_38 dX1_listDepartures_10 dm3_0 en3_0 rfl ?_
  refine ev_get frX1_93 dX1_listDepartures_13 (dom1 (by decide) (by decide) (by decide) (by decide)) en1_0 rfl ?_
  refine ev_get frX1_155 dX1_listDepartures_16 (dom1 (by decide) (by decide) (by decide) (by decide)) en1_6 rfl ?_
  obtain ⟨s1, s2, h3⟩ := h
  obtain ⟨h4, h5⟩ := h3
  refine ev_icmp_ge 72 dX1_listDepartures_19 (by decide) s1 s2 (fun c6 => ?_) (fun c6 => ?_)
  · have h7 := h4 c6
    exact ev_vret dX1_listDepartures_72 (by decide) rfl h7
  · have h8 := h5 c6
    refine ev_aload_n (j := 0) dX1_listDepartures_22 rfl rfl ?_
    refine ev_get frX1_38 dX1_listDepartures_23 dm3_0 en3_0 rfl ?_
    refine ev_get frX1_93 dX1_listDepartures_26 (dom1 (by decide) (by decide) (by decide) (by decide)) en1_0 rfl ?_
    refine ev_iload (j := 4) dX1_listDepartures_29 rfl ?_
    refine ev_callVI (As := [iv v4]) (st := []) mfX8_directionOf mlX1_115 dX1_listDepartures_31 rfl (dom1 (by decide) (by decide) (by decide) (by decide)) en1_6 rfl rfl rfl (by decide) (by decide) (by decide) (Nat.le_of_ble_eq_true rfl) (fun _ _ z => z.elim) h8 (fun x11 M9 h10 => ?_)
    refine ev_iload_n (j := 1) dX1_listDepartures_34 rfl rfl ?_
    obtain ⟨s12, s13, h14⟩ := h10
    obtain ⟨h15, h16⟩ := h14
    refine ev_icmp_ne 66 dX1_listDepartures_35 (by decide) s12 s13 (fun c17 => ?_) (fun c17 => ?_)
    · have h18 := h15 c17
      refine ev_iinc (j := 4) dX1_listDepartures_66 rfl (by decide) rfl ?_
      refine ev_goto 7 dX1_listDepartures_69 (by decide) ?_
      exact ev_sub [1, 2, 3, 4, 0] rfl h18
    · have h19 := h16 c17
      refine ev_aload_n (j := 0) dX1_listDepartures_38 rfl rfl ?_
      refine ev_get frX1_16 dX1_listDepartures_39 dm3_0 en3_0 rfl ?_
      refine ev_iload (j := 4) dX1_listDepartures_42 rfl ?_
      obtain ⟨s20, s21, h22⟩ := h19
      refine ev_aald (t := 4) (q := ad G 3 0 (33 + v4)) (Or.inr rfl) dX1_listDepartures_44 dm3_32 rfl (by decide) s20 s21 (by first | rfl | (show some (ad G _ _ (_ + ((v4 : Int).toNat : Int))) = _; rw [Int.toNat_of_nonneg (by omega)]; first | done | rfl)) ?_
      refine ev_iload_n (j := 2) dX1_listDepartures_45 rfl rfl ?_
      obtain ⟨s23, s24, h25⟩ := h22
      refine ev_iald dX1_listDepartures_46 (dom3 (by omega) (by omega)) (row3_33 (by omega) (by omega)) (by decide) s23 s24 ?_
      refine ev_iconst dX1_listDepartures_47 ?_
      obtain ⟨s26, h27⟩ := h25
      obtain ⟨h28, h29⟩ := h27
      refine ev_icmp_eq 66 dX1_listDepartures_48 (by decide) s26 ⟨by decide, by decide⟩ (fun c30 => ?_) (fun c30 => ?_)
      · have h31 := h28 c30
        refine ev_iinc (j := 4) dX1_listDepartures_66 rfl (by decide) rfl ?_
        refine ev_goto 7 dX1_listDepartures_69 (by decide) ?_
        exact ev_sub [1, 2, 3, 4, 0] rfl h31
      · have h32 := h29 c30
        refine ev_aload_n (j := 3) dX1_listDepartures_51 rfl rfl ?_
        refine ev_aload_n (j := 0) dX1_listDepartures_52 rfl rfl ?_
        refine ev_get frX1_16 dX1_listDepartures_53 dm3_0 en3_0 rfl ?_
        refine ev_iload (j := 4) dX1_listDepartures_56 rfl ?_
        refine ev_aald (t := 4) (q := ad G 3 0 (33 + v4)) (Or.inr rfl) dX1_listDepartures_58 dm3_32 rfl (by decide) s20 s21 (by first | rfl | (show some (ad G _ _ (_ + ((v4 : Int).toNat : Int))) = _; rw [Int.toNat_of_nonneg (by omega)]; first | done | rfl)) ?_
        refine ev_iload_n (j := 2) dX1_listDepartures_59 rfl rfl ?_
        refine ev_iald dX1_listDepartures_60 (dom3 (by omega) (by omega)) (row3_33 (by omega) (by omega)) (by decide) s23 s24 ?_
        refine ev_iload (j := 4) dX1_listDepartures_61 rfl ?_
        refine ev_callVV (As := [iv (M9 3 0 (33 + v4) v2), iv v4]) (st := []) mfX7_put mlX1_168 dX1_listDepartures_63 rfl (dom5 hq0 hq1 (by decide) (by decide)) en5_0 rfl rfl rfl (by decide) (by decide) (by decide) (Nat.le_of_ble_eq_true rfl) (fun _ _ z => z.elim) h32 (fun M33 h34 => ?_)
        refine ev_iinc (j := 4) dX1_listDepartures_66 rfl (by decide) rfl ?_
        refine ev_goto 7 dX1_listDepartures_69 (by decide) ?_
        exact ev_sub [1, 2, 3, 4, 0] rfl h34
def eX1_lookAt (G : GT) (K : List Value → Mem → Prop) (X : String → Mem → Prop) (pc : Nat) (lv : List (Nat × Value)) (st : List Value) (M : Mem) : Prop := Ex G zX1_lookAt 3 0 K X 0 pc lv st M
set_option maxRecDepth 20000 in
set_option maxHeartbeats 4000000 in
theorem bX1_lookAt {G : GT} {K : List Value → Mem → Prop} {X : String → Mem → Prop} {M : Mem} {v1 : Int} (h : 0 ≤ v1 ∧ v1 < 10 ∧ I32 (M 3 0 69 v1) ∧ (((M 3 0 69 v1) < 3000 → Call G 0 0 zX8_directionOf [rr G 1 11 6, iv (M 3 0 66 v1)] M (kI (fun x12 M10 => 0 ≤ x12 ∧ x12 < 2 ∧ 0 ≤ M10 3 0 68 v1 ∧ M10 3 0 68 v1 < 12 ∧ I32 ((M10 3 0 (64 + x12) (M10 3 0 68 v1)) + (M10 1 11 5 2)) ∧ ((¬ (M 3 0 69 v1) < ((M10 3 0 (64 + x12) (M10 3 0 68 v1)) + (M10 1 11 5 2)) → I32 x12 ∧ ((¬ x12 = 0 → Call G 1 0 zX0_lowestAt [rr G 1 11 25, iv ((M10 3 0 68 v1) - 1), iv (M 3 0 69 v1)] M10 (kI (fun x33 M31 => I32 x33 ∧ ((¬ x33 = (-1) → 0 ≤ (M10 3 0 68 v1) - 1 ∧ (M10 3 0 68 v1) - 1 < 11 ∧ I32 (M31 1 11 3 ((M10 3 0 68 v1) - 1)) ∧ ((¬ 0 < (M31 1 11 3 ((M10 3 0 68 v1) - 1)) → 0 ≤ x33 ∧ x33 < 6 ∧ ∀ M52 : Mem, M52 = wr M31 3 0 0 4 ((M31 3 0 0 4) + (((M31 1 11 28 x33) + 1) - (M 3 0 69 v1))) → K [] (wr M52 3 0 69 v1 ((M31 1 11 28 x33) + 1))) ∧ (0 < (M31 1 11 3 ((M10 3 0 68 v1) - 1)) → Call G 2 0 zX1_depart [rr G 3 0 0, iv v1, iv x12, iv (M31 1 11 3 ((M10 3 0 68 v1) - 1))] (wr M31 3 0 0 2 ((M31 3 0 0 2) + 1)) (kV (fun M56 => K [] M56)) noX))) ∧ (x33 = (-1) → 0 ≤ (M10 3 0 68 v1) - 1 ∧ (M10 3 0 68 v1) - 1 < 11 ∧ Call G 2 0 zX1_depart [rr G 3 0 0, iv v1, iv x12, iv (M31 1 11 2 ((M10 3 0 68 v1) - 1))] M31 (kV (fun M63 => K [] M63)) noX)))) noX) ∧ (x12 = 0 → Call G 1 0 zX0_lowestAt [rr G 1 11 25, iv (M10 3 0 68 v1), iv (M 3 0 69 v1)] M10 (kI (fun x69 M67 => I32 x69 ∧ ((¬ x69 = (-1) → M10 3 0 68 v1 < 11 ∧ I32 (M67 1 11 3 (M10 3 0 68 v1)) ∧ ((¬ 0 < (M67 1 11 3 (M10 3 0 68 v1)) → 0 ≤ x69 ∧ x69 < 6 ∧ ∀ M87 : Mem, M87 = wr M67 3 0 0 4 ((M67 3 0 0 4) + (((M67 1 11 28 x69) + 1) - (M 3 0 69 v1))) → K [] (wr M87 3 0 69 v1 ((M67 1 11 28 x69) + 1))) ∧ (0 < (M67 1 11 3 (M10 3 0 68 v1)) → Call G 2 0 zX1_depart [rr G 3 0 0, iv v1, iv x12, iv (M67 1 11 3 (M10 3 0 68 v1))] (wr M67 3 0 0 2 ((M67 3 0 0 2) + 1)) (kV (fun M91 => K [] M91)) noX))) ∧ (x69 = (-1) → M10 3 0 68 v1 < 11 ∧ Call G 2 0 zX1_depart [rr G 3 0 0, iv v1, iv x12, iv (M67 1 11 2 (M10 3 0 68 v1))] M67 (kV (fun M97 => K [] M97)) noX)))) noX))) ∧ ((M 3 0 69 v1) < ((M10 3 0 (64 + x12) (M10 3 0 68 v1)) + (M10 1 11 5 2)) → ∀ M101 : Mem, M101 = wr M10 3 0 0 3 ((M10 3 0 0 3) + (((M10 3 0 (64 + x12) (M10 3 0 68 v1)) + (M10 1 11 5 2)) - (M 3 0 69 v1))) → ∀ M104 : Mem, M104 = wr M101 3 0 69 v1 ((M10 3 0 (64 + x12) (M10 3 0 68 v1)) + (M10 1 11 5 2)) → K [] M104)))) noX) ∧ (¬ (M 3 0 69 v1) < 3000 → K [] (wr M 3 0 66 v1 (-1))))) : Call G 3 0 zX1_lookAt [rr G 3 0 0, iv v1] M K X := by
  refine call_intro (lv := [(0, rr G 3 0 0), (1, iv v1)]) (by decide) rfl (Nat.le_of_ble_eq_true rfl) rfl ?_
  refine ev_aload_n (j := 0) dX1_lookAt_0 rfl rfl ?_
  refine ev_get frX1_32 dX1_lookAt_1 dm3_0 en3_0 rfl ?_
  refine ev_iload_n (j := 1) dX1_lookAt_4 rfl rfl ?_
  obtain ⟨s1, s2, h3⟩ := h
  refine ev_iald dX1_lookAt_5 dm3_69 ar3_69 (by decide) s1 s2 ?_
  refine ev_istore_n dX1_lookAt_6 rfl (by decide) rfl ?_
  refine ev_iload_n (j := 0) dX1_lookAt_7 rfl rfl ?_
  refine ev_sipush dX1_lookAt_8 (by decide) ?_
  obtain ⟨s4, h5⟩ := h3
  obtain ⟨h6, h7⟩ := h5
  refine ev_icmp_lt 22 dX1_lookAt_11 (by decide) s4 ⟨by decide, by decide⟩ (fun c8 => ?_) (fun c8 => ?_)
  · have h9 := h6 c8
    refine ev_aload_n (j := 1) dX1_lookAt_22 rfl rfl ?_
    refine ev_get frX1_38 dX1_lookAt_23 dm3_0 en3_0 rfl ?_
    refine ev_get frX1_93 dX1_lookAt_26 (dom1 (by decide) (by decide) (by decide) (by decide)) en1_0 rfl ?_
    refine ev_aload_n (j := 1) dX1_lookAt_29 rfl rfl ?_
    refine ev_get frX1_22 dX1_lookAt_30 dm3_0 en3_0 rfl ?_
    refine ev_iload_n (j := 2) dX1_lookAt_33 rfl rfl ?_
    refine ev_iald dX1_lookAt_34 dm3_66 ar3_66 (by decide) s1 s2 ?_
    refine ev_callVI (As := [iv (M 3 0 66 v1)]) (st := []) mfX8_directionOf mlX1_115 dX1_lookAt_35 rfl (dom1 (by decide) (by decide) (by decide) (by decide)) en1_6 rfl rfl rfl (by decide) (by decide) (by decide) (Nat.le_of_ble_eq_true rfl) (fun _ _ z => z.elim) h9 (fun x12 M10 h11 => ?_)
    refine ev_istore_n dX1_lookAt_38 rfl (by decide) rfl ?_
    refine ev_aload_n (j := 2) dX1_lookAt_39 rfl rfl ?_
    refine ev_get frX1_19 dX1_lookAt_40 dm3_0 en3_0 rfl ?_
    refine ev_iload_n (j := 0) dX1_lookAt_43 rfl rfl ?_
    obtain ⟨s13, s14, h15⟩ := h11
    refine ev_aald (t := 4) (q := ad G 3 0 (64 + x12)) (Or.inr rfl) dX1_lookAt_44 dm3_63 rfl (by decide) s13 s14 (by first | rfl | (show some (ad G _ _ (_ + ((x12 : Int).toNat : Int))) = _; rw [Int.toNat_of_nonneg (by omega)]; first | done | rfl)) ?_
    refine ev_aload_n (j := 2) dX1_lookAt_45 rfl rfl ?_
    refine ev_get frX1_29 dX1_lookAt_46 dm3_0 en3_0 rfl ?_
    refine ev_iload_n (j := 3) dX1_lookAt_49 rfl rfl ?_
    refine ev_iald dX1_lookAt_50 dm3_68 ar3_68 (by decide) s1 s2 ?_
    obtain ⟨s16, s17, h18⟩ := h15
    refine ev_iald dX1_lookAt_51 (dom3 (by omega) (by omega)) (row3_64 (by omega) (by omega)) (by decide) s16 s17 ?_
    refine ev_aload_n (j := 2) dX1_lookAt_52 rfl rfl ?_
    refine ev_get frX1_38 dX1_lookAt_53 dm3_0 en3_0 rfl ?_
    refine ev_get frX1_119 dX1_lookAt_56 (dom1 (by decide) (by decide) (by decide) (by decide)) en1_0 rfl ?_
    refine ev_get frX1_123 dX1_lookAt_59 (dom1 (by decide) (by decide) (by decide) (by decide)) en1_1 rfl ?_
    refine ev_iconst dX1_lookAt_62 ?_
    refine ev_iald dX1_lookAt_63 (dom1 (by decide) (by decide) (by decide) (by decide)) ar1_5 (by decide) (by decide) (by decide) ?_
    refine ev_iadd dX1_lookAt_64 ?_
    refine ev_istore dX1_lookAt_65 (by decide) rfl ?_
    refine ev_iload_n (j := 2) dX1_lookAt_67 rfl rfl ?_
    refine ev_iload (j := 0) dX1_lookAt_68 rfl ?_
    obtain ⟨s19, h20⟩ := h18
    obtain ⟨h21, h22⟩ := h20
    refine ev_icmp_ge 95 dX1_lookAt_70 (by decide) s4 s19 (fun c23 => ?_) (fun c23 => ?_)
    · have h24 := h21 c23
      refine ev_iload_n (j := 1) dX1_lookAt_95 rfl rfl ?_
      obtain ⟨s25, h26⟩ := h24
      obtain ⟨h27, h28⟩ := h26
      refine ev_if_ne 108 dX1_lookAt_96 (by decide) s25 (fun c29 => ?_) (fun c29 => ?_)
      · have h30 := h27 c29
        refine ev_aload_n (j := 3) dX1_lookAt_108 rfl rfl ?_
        refine ev_get frX1_29 dX1_lookAt_109 dm3_0 en3_0 rfl ?_
        refine ev_iload_n (j := 4) dX1_lookAt_112 rfl rfl ?_
        refine ev_iald dX1_lookAt_113 dm3_68 ar3_68 (by decide) s1 s2 ?_
        refine ev_iconst dX1_lookAt_114 ?_
        refine ev_isub dX1_lookAt_115 ?_
        refine ev_istore dX1_lookAt_116 (by decide) rfl ?_
        refine ev_aload_n (j := 4) dX1_lookAt_118 rfl rfl ?_
        refine ev_get frX1_38 dX1_lookAt_119 dm3_0 en3_0 rfl ?_
        refine ev_get frX1_128 dX1_lookAt_122 (dom1 (by decide) (by decide) (by decide) (by decide)) en1_0 rfl ?_
        refine ev_iload (j := 0) dX1_lookAt_125 rfl ?_
        refine ev_iload_n (j := 3) dX1_lookAt_127 rfl rfl ?_
        refine ev_callVI (As := [iv ((M10 3 0 68 v1) - 1), iv (M 3 0 69 v1)]) (st := []) mfX0_lowestAt mlX1_132 dX1_lookAt_128 rfl (dom1 (by decide) (by decide) (by decide) (by decide)) en1_25 rfl rfl rfl (by decide) (by decide) (by decide) (Nat.le_of_ble_eq_true rfl) (fun _ _ z => z.elim) h30 (fun x33 M31 h32 => ?_)
        refine ev_istore dX1_lookAt_131 (by decide) rfl ?_
        refine ev_iload (j := 0) dX1_lookAt_133 rfl ?_
        refine ev_iconst dX1_lookAt_135 ?_
        obtain ⟨s34, h35⟩ := h32
        obtain ⟨h36, h37⟩ := h35
        refine ev_icmp_ne 161 dX1_lookAt_136 (by decide) s34 ⟨by decide, by decide⟩ (fun c38 => ?_) (fun c38 => ?_)
        · have h39 := h36 c38
          refine ev_aload_n (j := 5) dX1_lookAt_161 rfl rfl ?_
          refine ev_get frX1_38 dX1_lookAt_162 dm3_0 en3_0 rfl ?_
          refine ev_get frX1_119 dX1_lookAt_165 (dom1 (by decide) (by decide) (by decide) (by decide)) en1_0 rfl ?_
          refine ev_get frX1_143 dX1_lookAt_168 (dom1 (by decide) (by decide) (by decide) (by decide)) en1_1 rfl ?_
          refine ev_iload (j := 1) dX1_lookAt_171 rfl ?_
          obtain ⟨s40, s41, h42⟩ := h39
          refine ev_iald dX1_lookAt_173 (dom1 (by decide) (by decide) (by decide) (by decide)) ar1_3 (by decide) s40 s41 ?_
          obtain ⟨s43, h44⟩ := h42
          obtain ⟨h45, h46⟩ := h44
          refine ev_if_le 209 dX1_lookAt_174 (by decide) s43 (fun c47 => ?_) (fun c47 => ?_)
          · have h48 := h45 c47
            refine ev_aload_n (j := 5) dX1_lookAt_209 rfl rfl ?_
            refine ev_get frX1_38 dX1_lookAt_210 dm3_0 en3_0 rfl ?_
            refine ev_get frX1_128 dX1_lookAt_213 (dom1 (by decide) (by decide) (by decide) (by decide)) en1_0 rfl ?_
            refine ev_get frX1_145 dX1_lookAt_216 (dom1 (by decide) (by decide) (by decide) (by decide)) en1_25 rfl ?_
            refine ev_iload (j := 0) dX1_lookAt_219 rfl ?_
            obtain ⟨s49, s50, h51⟩ := h48
            refine ev_iald dX1_lookAt_221 (dom1 (by decide) (by decide) (by decide) (by decide)) ar1_28 (by decide) s49 s50 ?_
            refine ev_iconst dX1_lookAt_222 ?_
            refine ev_iadd dX1_lookAt_223 ?_
            refine ev_istore dX1_lookAt_224 (by decide) rfl ?_
            refine ev_aload_n (j := 6) dX1_lookAt_226 rfl rfl ?_
            refine ev_dup dX1_lookAt_227 rfl ?_
            refine ev_get frX1_71 dX1_lookAt_228 dm3_0 en3_0 rfl ?_
            refine ev_iload (j := 0) dX1_lookAt_231 rfl ?_
            refine ev_iload_n (j := 5) dX1_lookAt_233 rfl rfl ?_
            refine ev_isub dX1_lookAt_234 ?_
            refine ev_iadd dX1_lookAt_235 ?_
            refine ev_put fwX1_71 dX1_lookAt_236 dm3_0 en3_0 rfl rfl rfl (Nat.le_of_ble_eq_true rfl) ?_
            obtain ⟨M52, e54⟩ : ∃ M52 : Mem, M52 = wr M31 3 0 0 4 ((M31 3 0 0 4) + (((M31 1 11 28 x33) + 1) - (M 3 0 69 v1))) := ⟨_, rfl⟩
            have h53 := h51 _ e54
            refine ev_mem e54 ?_
            refine ev_aload_n (j := 6) dX1_lookAt_239 rfl rfl ?_
            refine ev_get frX1_32 dX1_lookAt_240 dm3_0 en3_0 rfl ?_
            refine ev_iload_n (j := 7) dX1_lookAt_243 rfl rfl ?_
            refine ev_iload (j := 0) dX1_lookAt_244 rfl ?_
            refine ev_iast dX1_lookAt_246 dm3_69 ar3_69 (by decide) s1 s2 ?_
            exact ev_vret dX1_lookAt_247 (by decide) rfl h53
          · have h55 := h46 c47
            refine ev_aload_n (j := 5) dX1_lookAt_177 rfl rfl ?_
            refine ev_dup dX1_lookAt_178 rfl ?_
            refine ev_get frX1_64 dX1_lookAt_179 dm3_0 en3_0 rfl ?_
            refine ev_iconst dX1_lookAt_182 ?_
            refine ev_iadd dX1_lookAt_183 ?_
            refine ev_put fwX1_64 dX1_lookAt_184 dm3_0 en3_0 rfl rfl rfl (Nat.le_of_ble_eq_true rfl) ?_
            refine ev_aload_n (j := 5) dX1_lookAt_187 rfl rfl ?_
            refine ev_iload_n (j := 6) dX1_lookAt_188 rfl rfl ?_
            refine ev_iload_n (j := 3) dX1_lookAt_189 rfl rfl ?_
            refine ev_aload_n (j := 5) dX1_lookAt_190 rfl rfl ?_
            refine ev_get frX1_38 dX1_lookAt_191 dm3_0 en3_0 rfl ?_
            refine ev_get frX1_119 dX1_lookAt_194 (dom1 (by decide) (by decide) (by decide) (by decide)) en1_0 rfl ?_
            refine ev_get frX1_143 dX1_lookAt_197 (dom1 (by decide) (by decide) (by decide) (by decide)) en1_1 rfl ?_
            refine ev_iload (j := 1) dX1_lookAt_200 rfl ?_
            refine ev_iald dX1_lookAt_202 (dom1 (by decide) (by decide) (by decide) (by decide)) ar1_3 (by decide) s40 s41 ?_
            refine ev_topI (b := M31 1 11 3 ((M10 3 0 68 v1) - 1)) rfl ?_
            refine ev_callVV (As := [iv v1, iv x12, iv (M31 1 11 3 ((M10 3 0 68 v1) - 1))]) (st := []) mfX1_depart mlX1_140 dX1_lookAt_203 rfl dm3_0 en3_0 rfl rfl rfl (by decide) (by decide) (by decide) (Nat.le_of_ble_eq_true rfl) (fun _ _ z => z.elim) h55 (fun M56 h57 => ?_)
            refine ev_goto 247 dX1_lookAt_206 (by decide) ?_
            exact ev_vret dX1_lookAt_247 (by decide) rfl h57
        · have h59 := h37 c38
          refine ev_aload_n (j := 5) dX1_lookAt_139 rfl rfl ?_
          refine ev_iload_n (j := 6) dX1_lookAt_140 rfl rfl ?_
          refine ev_iload_n (j := 3) dX1_lookAt_141 rfl rfl ?_
          refine ev_aload_n (j := 5) dX1_lookAt_142 rfl rfl ?_
          refine ev_get frX1_38 dX1_lookAt_143 dm3_0 en3_0 rfl ?_
          refine ev_get frX1_119 dX1_lookAt_146 (dom1 (by decide) (by decide) (by decide) (by decide)) en1_0 rfl ?_
          refine ev_get frX1_137 dX1_lookAt_149 (dom1 (by decide) (by decide) (by decide) (by decide)) en1_1 rfl ?_
          refine ev_iload (j := 1) dX1_lookAt_152 rfl ?_
          obtain ⟨s60, s61, h62⟩ := h59
          refine ev_iald dX1_lookAt_154 (dom1 (by decide) (by decide) (by decide) (by decide)) ar1_2 (by decide) s60 s61 ?_
          refine ev_callVV (As := [iv v1, iv x12, iv (M31 1 11 2 ((M10 3 0 68 v1) - 1))]) (st := []) mfX1_depart mlX1_140 dX1_lookAt_155 rfl dm3_0 en3_0 rfl rfl rfl (by decide) (by decide) (by decide) (Nat.le_of_ble_eq_true rfl) (fun _ _ z => z.elim) h62 (fun M63 h64 => ?_)
          refine ev_goto 247 dX1_lookAt_158 (by decide) ?_
          exact ev_vret dX1_lookAt_247 (by decide) rfl h64
      · have h66 := h28 c29
        refine ev_aload_n (j := 3) dX1_lookAt_99 rfl rfl ?_
        refine ev_get frX1_29 dX1_lookAt_100 dm3_0 en3_0 rfl ?_
        refine ev_iload_n (j := 4) dX1_lookAt_103 rfl rfl ?_
        refine ev_iald dX1_lookAt_104 dm3_68 ar3_68 (by decide) s1 s2 ?_
        refine ev_goto 116 dX1_lookAt_105 (by decide) ?_
        refine ev_istore dX1_lookAt_116 (by decide) rfl ?_
        refine ev_aload_n (j := 4) dX1_lookAt_118 rfl rfl ?_
        refine ev_get frX1_38 dX1_lookAt_119 dm3_0 en3_0 rfl ?_
        refine ev_get frX1_128 dX1_lookAt_122 (dom1 (by decide) (by decide) (by decide) (by decide)) en1_0 rfl ?_
        refine ev_iload (j := 0) dX1_lookAt_125 rfl ?_
        refine ev_iload_n (j := 3) dX1_lookAt_127 rfl rfl ?_
        refine ev_callVI (As := [iv (M10 3 0 68 v1), iv (M 3 0 69 v1)]) (st := []) mfX0_lowestAt mlX1_132 dX1_lookAt_128 rfl (dom1 (by decide) (by decide) (by decide) (by decide)) en1_25 rfl rfl rfl (by decide) (by decide) (by decide) (Nat.le_of_ble_eq_true rfl) (fun _ _ z => z.elim) h66 (fun x69 M67 h68 => ?_)
        refine ev_istore dX1_lookAt_131 (by decide) rfl ?_
        refine ev_iload (j := 0) dX1_lookAt_133 rfl ?_
        refine ev_iconst dX1_lookAt_135 ?_
        obtain ⟨s70, h71⟩ := h68
        obtain ⟨h72, h73⟩ := h71
        refine ev_icmp_ne 161 dX1_lookAt_136 (by decide) s70 ⟨by decide, by decide⟩ (fun c74 => ?_) (fun c74 => ?_)
        · have h75 := h72 c74
          refine ev_aload_n (j := 5) dX1_lookAt_161 rfl rfl ?_
          refine ev_get frX1_38 dX1_lookAt_162 dm3_0 en3_0 rfl ?_
          refine ev_get frX1_119 dX1_lookAt_165 (dom1 (by decide) (by decide) (by decide) (by decide)) en1_0 rfl ?_
          refine ev_get frX1_143 dX1_lookAt_168 (dom1 (by decide) (by decide) (by decide) (by decide)) en1_1 rfl ?_
          refine ev_iload (j := 1) dX1_lookAt_171 rfl ?_
          obtain ⟨s76, h77⟩ := h75
          refine ev_iald dX1_lookAt_173 (dom1 (by decide) (by decide) (by decide) (by decide)) ar1_3 (by decide) s16 s76 ?_
          obtain ⟨s78, h79⟩ := h77
          obtain ⟨h80, h81⟩ := h79
          refine ev_if_le 209 dX1_lookAt_174 (by decide) s78 (fun c82 => ?_) (fun c82 => ?_)
          · have h83 := h80 c82
            refine ev_aload_n (j := 5) dX1_lookAt_209 rfl rfl ?_
            refine ev_get frX1_38 dX1_lookAt_210 dm3_0 en3_0 rfl ?_
            refine ev_get frX1_128 dX1_lookAt_213 (dom1 (by decide) (by decide) (by decide) (by decide)) en1_0 rfl ?_
            refine ev_get frX1_145 dX1_lookAt_216 (dom1 (by decide) (by decide) (by decide) (by decide)) en1_25 rfl ?_
            refine ev_iload (j := 0) dX1_lookAt_219 rfl ?_
            obtain ⟨s84, s85, h86⟩ := h83
            refine ev_iald dX1_lookAt_221 (dom1 (by decide) (by decide) (by decide) (by decide)) ar1_28 (by decide) s84 s85 ?_
            refine ev_iconst dX1_lookAt_222 ?_
            refine ev_iadd dX1_lookAt_223 ?_
            refine ev_istore dX1_lookAt_224 (by decide) rfl ?_
            refine ev_aload_n (j := 6) dX1_lookAt_226 rfl rfl ?_
            refine ev_dup dX1_lookAt_227 rfl ?_
            refine ev_get frX1_71 dX1_lookAt_228 dm3_0 en3_0 rfl ?_
            refine ev_iload (j := 0) dX1_lookAt_231 rfl ?_
            refine ev_iload_n (j := 5) dX1_lookAt_233 rfl rfl ?_
            refine ev_isub dX1_lookAt_234 ?_
            refine ev_iadd dX1_lookAt_235 ?_
            refine ev_put fwX1_71 dX1_lookAt_236 dm3_0 en3_0 rfl rfl rfl (Nat.le_of_ble_eq_true rfl) ?_
            obtain ⟨M87, e89⟩ : ∃ M87 : Mem, M87 = wr M67 3 0 0 4 ((M67 3 0 0 4) + (((M67 1 11 28 x69) + 1) - (M 3 0 69 v1))) := ⟨_, rfl⟩
            have h88 := h86 _ e89
            refine ev_mem e89 ?_
            refine ev_aload_n (j := 6) dX1_lookAt_239 rfl rfl ?_
            refine ev_get frX1_32 dX1_lookAt_240 dm3_0 en3_0 rfl ?_
            refine ev_iload_n (j := 7) dX1_lookAt_243 rfl rfl ?_
            refine ev_iload (j := 0) dX1_lookAt_244 rfl ?_
            refine ev_iast dX1_lookAt_246 dm3_69 ar3_69 (by decide) s1 s2 ?_
            exact ev_vret dX1_lookAt_247 (by decide) rfl h88
          · have h90 := h81 c82
            refine ev_aload_n (j := 5) dX1_lookAt_177 rfl rfl ?_
            refine ev_dup dX1_lookAt_178 rfl ?_
            refine ev_get frX1_64 dX1_lookAt_179 dm3_0 en3_0 rfl ?_
            refine ev_iconst dX1_lookAt_182 ?_
            refine ev_iadd dX1_lookAt_183 ?_
            refine ev_put fwX1_64 dX1_lookAt_184 dm3_0 en3_0 rfl rfl rfl (Nat.le_of_ble_eq_true rfl) ?_
            refine ev_aload_n (j := 5) dX1_lookAt_187 rfl rfl ?_
            refine ev_iload_n (j := 6) dX1_lookAt_188 rfl rfl ?_
            refine ev_iload_n (j := 3) dX1_lookAt_189 rfl rfl ?_
            refine ev_aload_n (j := 5) dX1_lookAt_190 rfl rfl ?_
            refine ev_get frX1_38 dX1_lookAt_191 dm3_0 en3_0 rfl ?_
            refine ev_get frX1_119 dX1_lookAt_194 (dom1 (by decide) (by decide) (by decide) (by decide)) en1_0 rfl ?_
            refine ev_get frX1_143 dX1_lookAt_197 (dom1 (by decide) (by decide) (by decide) (by decide)) en1_1 rfl ?_
            refine ev_iload (j := 1) dX1_lookAt_200 rfl ?_
            refine ev_iald dX1_lookAt_202 (dom1 (by decide) (by decide) (by decide) (by decide)) ar1_3 (by decide) s16 s76 ?_
            refine ev_topI (b := M67 1 11 3 (M10 3 0 68 v1)) rfl ?_
            refine ev_callVV (As := [iv v1, iv x12, iv (M67 1 11 3 (M10 3 0 68 v1))]) (st := []) mfX1_depart mlX1_140 dX1_lookAt_203 rfl dm3_0 en3_0 rfl rfl rfl (by decide) (by decide) (by decide) (Nat.le_of_ble_eq_true rfl) (fun _ _ z => z.elim) h90 (fun M91 h92 => ?_)
            refine ev_goto 247 dX1_lookAt_206 (by decide) ?_
            exact ev_vret dX1_lookAt_247 (by decide) rfl h92
        · have h94 := h73 c74
          refine ev_aload_n (j := 5) dX1_lookAt_139 rfl rfl ?_
          refine ev_iload_n (j := 6) dX1_lookAt_140 rfl rfl ?_
          refine ev_iload_n (j := 3) dX1_lookAt_141 rfl rfl ?_
          refine ev_aload_n (j := 5) dX1_lookAt_142 rfl rfl ?_
          refine ev_get frX1_38 dX1_lookAt_143 dm3_0 en3_0 rfl ?_
          refine ev_get frX1_119 dX1_lookAt_146 (dom1 (by decide) (by decide) (by decide) (by decide)) en1_0 rfl ?_
          refine ev_get frX1_137 dX1_lookAt_149 (dom1 (by decide) (by decide) (by decide) (by decide)) en1_1 rfl ?_
          refine ev_iload (j := 1) dX1_lookAt_152 rfl ?_
          obtain ⟨s95, h96⟩ := h94
          refine ev_iald dX1_lookAt_154 (dom1 (by decide) (by decide) (by decide) (by decide)) ar1_2 (by decide) s16 s95 ?_
          refine ev_callVV (As := [iv v1, iv x12, iv (M67 1 11 2 (M10 3 0 68 v1))]) (st := []) mfX1_depart mlX1_140 dX1_lookAt_155 rfl dm3_0 en3_0 rfl rfl rfl (by decide) (by decide) (by decide) (Nat.le_of_ble_eq_true rfl) (fun _ _ z => z.elim) h96 (fun M97 h98 => ?_)
          refine ev_goto 247 dX1_lookAt_158 (by decide) ?_
          exact ev_vret dX1_lookAt_247 (by decide) rfl h98
    · have h100 := h22 c23
      refine ev_aload_n (j := 3) dX1_lookAt_73 rfl rfl ?_
      refine ev_dup dX1_lookAt_74 rfl ?_
      refine ev_get frX1_68 dX1_lookAt_75 dm3_0 en3_0 rfl ?_
      refine ev_iload (j := 0) dX1_lookAt_78 rfl ?_
      refine ev_iload_n (j := 2) dX1_lookAt_80 rfl rfl ?_
      refine ev_isub dX1_lookAt_81 ?_
      refine ev_iadd dX1_lookAt_82 ?_
      refine ev_put fwX1_68 dX1_lookAt_83 dm3_0 en3_0 rfl rfl rfl (Nat.le_of_ble_eq_true rfl) ?_
      obtain ⟨M101, e103⟩ : ∃ M101 : Mem, M101 = wr M10 3 0 0 3 ((M10 3 0 0 3) + (((M10 3 0 (64 + x12) (M10 3 0 68 v1)) + (M10 1 11 5 2)) - (M 3 0 69 v1))) := ⟨_, rfl⟩
      have h102 := h100 _ e103
      refine ev_mem e103 ?_
      refine ev_aload_n (j := 3) dX1_lookAt_86 rfl rfl ?_
      refine ev_get frX1_32 dX1_lookAt_87 dm3_0 en3_0 rfl ?_
      refine ev_iload_n (j := 4) dX1_lookAt_90 rfl rfl ?_
      refine ev_iload (j := 0) dX1_lookAt_91 rfl ?_
      refine ev_iast dX1_lookAt_93 dm3_69 ar3_69 (by decide) s1 s2 ?_
      obtain ⟨M104, e106⟩ : ∃ M104 : Mem, M104 = wr M101 3 0 69 v1 ((M10 3 0 (64 + x12) (M10 3 0 68 v1)) + (M10 1 11 5 2)) := ⟨_, rfl⟩
      have h105 := h102 _ e106
      refine ev_mem e106 ?_
      exact ev_vret dX1_lookAt_94 (by decide) rfl h105
  · have h107 := h7 c8
    refine ev_aload_n (j := 1) dX1_lookAt_14 rfl rfl ?_
    refine ev_get frX1_22 dX1_lookAt_15 dm3_0 en3_0 rfl ?_
    refine ev_iload_n (j := 2) dX1_lookAt_18 rfl rfl ?_
    refine ev_iconst dX1_lookAt_19 ?_
    refine ev_iast dX1_lookAt_20 dm3_66 ar3_66 (by decide) s1 s2 ?_
    exact ev_vret dX1_lookAt_21 (by decide) rfl h107
def eX1_nextVehicle (G : GT) (K : List Value → Mem → Prop) (X : String → Mem → Prop) (pc : Nat) (lv : List (Nat × Value)) (st : List Value) (M : Mem) : Prop := Ex G zX1_nextVehicle 1 0 K X 0 pc lv st M
set_option maxRecDepth 20000 in
set_option maxHeartbeats 4000000 in
theorem bX1_nextVehicle {G : GT} {K : List Value → Mem → Prop} {X : String → Mem → Prop} {M : Mem} (h : eX1_nextVehicle G K X 4 [(0, rr G 3 0 0), (1, iv (-1)), (2, iv 0)] [] M) : Call G 1 0 zX1_nextVehicle [rr G 3 0 0] M K X := by
  refine call_intro (lv := [(0, rr G 3 0 0)]) (by decide) rfl (Nat.le_of_ble_eq_true rfl) rfl ?_
  refine ev_iconst dX1_nextVehicle_0 ?_
  refine ev_istore_n dX1_nextVehicle_1 rfl (by decide) rfl ?_
  refine ev_iconst dX1_nextVehicle_2 ?_
  refine ev_istore_n dX1_nextVehicle_3 rfl (by decide) rfl ?_
  exact ev_sub [2, 1, 0] rfl h
set_option maxRecDepth 20000 in
set_option maxHeartbeats 4000000 in
theorem bX1_nextVehicle_4 {G : GT} {K : List Value → Mem → Prop} {X : String → Mem → Prop} {M : Mem} {v1 v2 : Int} (h : I32 v2 ∧ I32 (M 1 11 11 3) ∧ ((¬ v2 < (M 1 11 11 3) → K [iv v1] M) ∧ (v2 < (M 1 11 11 3) → 0 ≤ v2 ∧ v2 < 10 ∧ I32 (M 3 0 66 v2) ∧ (((M 3 0 66 v2) = (-1) → eX1_nextVehicle G K X 4 [(0, rr G 3 0 0), (1, iv v1), (2, iv (v2 + 1))] [] M) ∧ (¬ (M 3 0 66 v2) = (-1) → I32 v1 ∧ ((v1 = (-1) → eX1_nextVehicle G K X 4 [(0, rr G 3 0 0), (1, iv v2), (2, iv (v2 + 1))] [] M) ∧ (¬ v1 = (-1) → Call G 0 0 zX1_isEarlier [rr G 3 0 0, iv v2, iv v1] M (kI (fun x28 M26 => I32 x28 ∧ ((x28 = 0 → eX1_nextVehicle G K X 4 [(0, rr G 3 0 0), (1, iv v1), (2, iv (v2 + 1))] [] M26) ∧ (¬ x28 = 0 → eX1_nextVehicle G K X 4 [(0, rr G 3 0 0), (1, iv v2), (2, iv (v2 + 1))] [] M26)))) noX))))))) : eX1_nextVehicle G K X 4 [(0, rr G 3 0 0), (1, iv v1), (2, iv v2)] [] M := by
  show Ex G zX1_nextVehicle 1 0 K X 0 4 [(0, rr G 3 0 0), (1, iv v1), (2, iv v2)] [] M
  refine ev_iload_n (j := 2) dX1_nextVehicle_4 rfl rfl ?_
  refine ev_aload_n (j := 0) dX1_nextVehicle_5 rfl rfl ?_
  refine ev_get frX1_38 dX1_nextVehicle_6 dm3_0 en3_0 rfl ?_
  refine ev_get frX1_74 dX1_nextVehicle_9 (dom1 (by decide) (by decide) (by decide) (by decide)) en1_0 rfl ?_
  refine ev_get frX1_78 dX1_nextVehicle_12 (dom1 (by decide) (by decide) (by decide) (by decide)) en1_11 rfl ?_
  obtain ⟨s1, s2, h3⟩ := h
  obtain ⟨h4, h5⟩ := h3
  refine ev_icmp_ge 50 dX1_nextVehicle_15 (by decide) s1 s2 (fun c6 => ?_) (fun c6 => ?_)
  · have h7 := h4 c6
    refine ev_iload_n (j := 1) dX1_nextVehicle_50 rfl rfl ?_
    exact ev_iret dX1_nextVehicle_51 (by decide) rfl h7
  · have h8 := h5 c6
    refine ev_aload_n (j := 0) dX1_nextVehicle_18 rfl rfl ?_
    refine ev_get frX1_22 dX1_nextVehicle_19 dm3_0 en3_0 rfl ?_
    refine ev_iload_n (j := 2) dX1_nextVehicle_22 rfl rfl ?_
    obtain ⟨s9, s10, h11⟩ := h8
    refine ev_iald dX1_nextVehicle_23 dm3_66 ar3_66 (by decide) s9 s10 ?_
    refine ev_iconst dX1_nextVehicle_24 ?_
    obtain ⟨s12, h13⟩ := h11
    obtain ⟨h14, h15⟩ := h13
    refine ev_icmp_eq 44 dX1_nextVehicle_25 (by decide) s12 ⟨by decide, by decide⟩ (fun c16 => ?_) (fun c16 => ?_)
    · have h17 := h14 c16
      refine ev_iinc (j := 2) dX1_nextVehicle_44 rfl (by decide) rfl ?_
      refine ev_goto 4 dX1_nextVehicle_47 (by decide) ?_
      exact ev_sub [1, 2, 0] rfl h17
    · have h18 := h15 c16
      refine ev_iload_n (j := 1) dX1_nextVehicle_28 rfl rfl ?_
      refine ev_iconst dX1_nextVehicle_29 ?_
      obtain ⟨s19, h20⟩ := h18
      obtain ⟨h21, h22⟩ := h20
      refine ev_icmp_eq 42 dX1_nextVehicle_30 (by decide) s19 ⟨by decide, by decide⟩ (fun c23 => ?_) (fun c23 => ?_)
      · have h24 := h21 c23
        refine ev_iload_n (j := 2) dX1_nextVehicle_42 rfl rfl ?_
        refine ev_istore_n dX1_nextVehicle_43 rfl (by decide) rfl ?_
        refine ev_iinc (j := 2) dX1_nextVehicle_44 rfl (by decide) rfl ?_
        refine ev_goto 4 dX1_nextVehicle_47 (by decide) ?_
        exact ev_sub [2, 1, 0] rfl h24
      · have h25 := h22 c23
        refine ev_aload_n (j := 0) dX1_nextVehicle_33 rfl rfl ?_
        refine ev_iload_n (j := 2) dX1_nextVehicle_34 rfl rfl ?_
        refine ev_iload_n (j := 1) dX1_nextVehicle_35 rfl rfl ?_
        refine ev_callVI (As := [iv v2, iv v1]) (st := []) mfX1_isEarlier mlX1_111 dX1_nextVehicle_36 rfl dm3_0 en3_0 rfl rfl rfl (by decide) (by decide) (by decide) (Nat.le_of_ble_eq_true rfl) (fun _ _ z => z.elim) h25 (fun x28 M26 h27 => ?_)
        obtain ⟨s29, h30⟩ := h27
        obtain ⟨h31, h32⟩ := h30
        refine ev_if_eq 44 dX1_nextVehicle_39 (by decide) s29 (fun c33 => ?_) (fun c33 => ?_)
        · have h34 := h31 c33
          refine ev_iinc (j := 2) dX1_nextVehicle_44 rfl (by decide) rfl ?_
          refine ev_goto 4 dX1_nextVehicle_47 (by decide) ?_
          exact ev_sub [1, 2, 0] rfl h34
        · have h35 := h32 c33
          refine ev_iload_n (j := 2) dX1_nextVehicle_42 rfl rfl ?_
          refine ev_istore_n dX1_nextVehicle_43 rfl (by decide) rfl ?_
          refine ev_iinc (j := 2) dX1_nextVehicle_44 rfl (by decide) rfl ?_
          refine ev_goto 4 dX1_nextVehicle_47 (by decide) ?_
          exact ev_sub [2, 1, 0] rfl h35
def eX1_pass (G : GT) (K : List Value → Mem → Prop) (X : String → Mem → Prop) (pc : Nat) (lv : List (Nat × Value)) (st : List Value) (M : Mem) : Prop := Ex G zX1_pass 4 0 K X 0 pc lv st M
set_option maxRecDepth 20000 in
set_option maxHeartbeats 4000000 in
theorem bX1_pass {G : GT} {K : List Value → Mem → Prop} {X : String → Mem → Prop} {M : Mem} {j : Int} (hj0 : 0 ≤ j) (hj1 : j < 12) (h : Call G 2 0 zX4_copyFrom [rr G 1 11 0, rr G 1 j 0] M (kV (fun M1 => Call G 2 0 zX1_begin [rr G 3 0 0] M1 (kV (fun M4 => eX1_pass G K X 14 [(0, rr G 3 0 0), (2, iv 0)] [] M4)) noX)) noX) : Call G 4 0 zX1_pass [rr G 3 0 0, rr G 1 j 0] M K X := by
  refine call_intro (lv := [(0, rr G 3 0 0), (1, rr G 1 j 0)]) (by decide) rfl (Nat.le_of_ble_eq_true rfl) rfl ?_
  refine ev_aload_n (j := 0) dX1_pass_0 rfl rfl ?_
  refine ev_get frX1_38 dX1_pass_1 dm3_0 en3_0 rfl ?_
  refine ev_aload_n (j := 1) dX1_pass_4 rfl rfl ?_
  refine ev_callVV (As := [rr G 1 j 0]) (st := []) mfX4_copyFrom mlX1_42 dX1_pass_5 rfl (dom1 (by decide) (by decide) (by decide) (by decide)) en1_0 rfl rfl rfl (by decide) (by decide) (by decide) (Nat.le_of_ble_eq_true rfl) (fun _ _ z => z.elim) h (fun M1 h2 => ?_)
  refine ev_aload_n (j := 0) dX1_pass_8 rfl rfl ?_
  refine ev_callVV (As := []) (st := []) mfX1_begin mlX1_46 dX1_pass_9 rfl dm3_0 en3_0 rfl rfl rfl (by decide) (by decide) (by decide) (Nat.le_of_ble_eq_true rfl) (fun _ _ z => z.elim) h2 (fun M4 h5 => ?_)
  refine ev_iconst dX1_pass_12 ?_
  refine ev_istore_n dX1_pass_13 rfl (by decide) rfl ?_
  exact ev_sub [1, 0] rfl h5
set_option maxRecDepth 20000 in
set_option maxHeartbeats 4000000 in
theorem bX1_pass_14 {G : GT} {K : List Value → Mem → Prop} {X : String → Mem → Prop} {M : Mem} {j : Int} (hj0 : 0 ≤ j) (hj1 : j < 12) {v2 : Int} (h : I32 v2 ∧ ((¬ v2 < 1000000 → K [] M) ∧ (v2 < 1000000 → Call G 1 0 zX1_nextVehicle [rr G 3 0 0] M (kI (fun x10 M8 => I32 x10 ∧ ((¬ x10 = (-1) → Call G 3 0 zX1_lookAt [rr G 3 0 0, iv x10] M8 (kV (fun M17 => eX1_pass G K X 14 [(0, rr G 3 0 0), (2, iv (v2 + 1))] [] M17)) noX) ∧ (x10 = (-1) → K [] M8)))) noX))) : eX1_pass G K X 14 [(0, rr G 3 0 0), (2, iv v2)] [] M := by
  show Ex G zX1_pass 4 0 K X 0 14 [(0, rr G 3 0 0), (2, iv v2)] [] M
  refine ev_iload_n (j := 1) dX1_pass_14 rfl rfl ?_
  refine ev_ldc (v9 := 1000000) kcX1_49 dX1_pass_15 rfl ?_
  obtain ⟨s1, h2⟩ := h
  obtain ⟨h3, h4⟩ := h2
  refine ev_icmp_ge 42 dX1_pass_17 (by decide) s1 ⟨by decide, by decide⟩ (fun c5 => ?_) (fun c5 => ?_)
  · have h6 := h3 c5
    exact ev_vret dX1_pass_42 (by decide) rfl h6
  · have h7 := h4 c5
    refine ev_aload_n (j := 0) dX1_pass_20 rfl rfl ?_
    refine ev_callVI (As := []) (st := []) mfX1_nextVehicle mlX1_50 dX1_pass_21 rfl dm3_0 en3_0 rfl rfl rfl (by decide) (by decide) (by decide) (Nat.le_of_ble_eq_true rfl) (fun _ _ z => z.elim) h7 (fun x10 M8 h9 => ?_)
    refine ev_istore_n dX1_pass_24 rfl (by decide) rfl ?_
    refine ev_iload_n (j := 0) dX1_pass_25 rfl rfl ?_
    refine ev_iconst dX1_pass_26 ?_
    obtain ⟨s11, h12⟩ := h9
    obtain ⟨h13, h14⟩ := h12
    refine ev_icmp_ne 31 dX1_pass_27 (by decide) s11 ⟨by decide, by decide⟩ (fun c15 => ?_) (fun c15 => ?_)
    · have h16 := h13 c15
      refine ev_aload_n (j := 1) dX1_pass_31 rfl rfl ?_
      refine ev_iload_n (j := 0) dX1_pass_32 rfl rfl ?_
      refine ev_callVV (As := [iv x10]) (st := []) mfX1_lookAt mlX1_54 dX1_pass_33 rfl dm3_0 en3_0 rfl rfl rfl (by decide) (by decide) (by decide) (Nat.le_of_ble_eq_true rfl) (fun _ _ z => z.elim) h16 (fun M17 h18 => ?_)
      refine ev_iinc (j := 2) dX1_pass_36 rfl (by decide) rfl ?_
      refine ev_goto 14 dX1_pass_39 (by decide) ?_
      exact ev_sub [2, 0] rfl h18
    · have h20 := h14 c15
      exact ev_vret dX1_pass_30 (by decide) rfl h20
def eX2_addTo (G : GT) (K : List Value → Mem → Prop) (X : String → Mem → Prop) (pc : Nat) (lv : List (Nat × Value)) (st : List Value) (M : Mem) : Prop := Ex G zX2_addTo 0 0 K X 0 pc lv st M
set_option maxRecDepth 20000 in
set_option maxHeartbeats 4000000 in
theorem bX2_addTo {G : GT} {K : List Value → Mem → Prop} {X : String → Mem → Prop} {M : Mem} {i : Int} (hi0 : 0 ≤ i) (hi1 : i < 12) {v1 : Int} (h : I32 (M 1 i 11 3) ∧ (((M 1 i 11 3) < 10 → 0 ≤ M 1 i 11 3 ∧ M 1 i 11 3 < 10 ∧ ∀ M10 : Mem, M10 = wr (wr (wr M 1 i 12 (M 1 i 11 3) v1) 1 i 13 (M 1 i 11 3) 0) 1 i 11 3 ((M 1 i 11 3) + 1) → K [iv ((M10 1 i 11 3) - 1)] M10) ∧ (¬ (M 1 i 11 3) < 10 → K [iv (-1)] M))) : Call G 0 0 zX2_addTo [rr G 1 i 11, iv v1] M K X := by
  refine call_intro (lv := [(0, rr G 1 i 11), (1, iv v1)]) (by decide) rfl (Nat.le_of_ble_eq_true rfl) rfl ?_
  refine ev_aload_n (j := 0) dX2_addTo_0 rfl rfl ?_
  refine ev_get frX2_29 dX2_addTo_1 (dom1 hi0 hi1 (by decide) (by decide)) en1_11 rfl ?_
  refine ev_bipush dX2_addTo_4 (by decide) ?_
  obtain ⟨s1, h2⟩ := h
  obtain ⟨h3, h4⟩ := h2
  refine ev_icmp_lt 11 dX2_addTo_6 (by decide) s1 ⟨by decide, by decide⟩ (fun c5 => ?_) (fun c5 => ?_)
  · have h6 := h3 c5
    refine ev_aload_n (j := 0) dX2_addTo_11 rfl rfl ?_
    refine ev_get frX2_9 dX2_addTo_12 (dom1 hi0 hi1 (by decide) (by decide)) en1_11 rfl ?_
    refine ev_aload_n (j := 0) dX2_addTo_15 rfl rfl ?_
    refine ev_get frX2_29 dX2_addTo_16 (dom1 hi0 hi1 (by decide) (by decide)) en1_11 rfl ?_
    refine ev_iload_n (j := 1) dX2_addTo_19 rfl rfl ?_
    obtain ⟨s7, s8, h9⟩ := h6
    refine ev_iast dX2_addTo_20 (dom1 hi0 hi1 (by decide) (by decide)) ar1_12 (by decide) s7 s8 ?_
    refine ev_aload_n (j := 0) dX2_addTo_21 rfl rfl ?_
    refine ev_get frX2_15 dX2_addTo_22 (dom1 hi0 hi1 (by decide) (by decide)) en1_11 rfl ?_
    refine ev_aload_n (j := 0) dX2_addTo_25 rfl rfl ?_
    refine ev_get frX2_29 dX2_addTo_26 (dom1 hi0 hi1 (by decide) (by decide)) en1_11 rfl ?_
    refine ev_topI (b := M 1 i 11 3) rfl ?_
    refine ev_iconst dX2_addTo_29 ?_
    refine ev_iast dX2_addTo_30 (dom1 hi0 hi1 (by decide) (by decide)) ar1_13 (by decide) s7 s8 ?_
    refine ev_aload_n (j := 0) dX2_addTo_31 rfl rfl ?_
    refine ev_dup dX2_addTo_32 rfl ?_
    refine ev_get frX2_29 dX2_addTo_33 (dom1 hi0 hi1 (by decide) (by decide)) en1_11 rfl ?_
    refine ev_topI (b := M 1 i 11 3) rfl ?_
    refine ev_iconst dX2_addTo_36 ?_
    refine ev_iadd dX2_addTo_37 ?_
    refine ev_put fwX2_29 dX2_addTo_38 (dom1 hi0 hi1 (by decide) (by decide)) en1_11 rfl rfl rfl (Nat.le_of_ble_eq_true rfl) ?_
    obtain ⟨M10, e12⟩ : ∃ M10 : Mem, M10 = wr (wr (wr M 1 i 12 (M 1 i 11 3) v1) 1 i 13 (M 1 i 11 3) 0) 1 i 11 3 ((M 1 i 11 3) + 1) := ⟨_, rfl⟩
    have h11 := h9 _ e12
    refine ev_mem e12 ?_
    refine ev_aload_n (j := 0) dX2_addTo_41 rfl rfl ?_
    refine ev_get frX2_29 dX2_addTo_42 (dom1 hi0 hi1 (by decide) (by decide)) en1_11 rfl ?_
    refine ev_iconst dX2_addTo_45 ?_
    refine ev_isub dX2_addTo_46 ?_
    exact ev_iret dX2_addTo_47 (by decide) rfl h11
  · have h13 := h4 c5
    refine ev_iconst dX2_addTo_9 ?_
    exact ev_iret dX2_addTo_10 (by decide) rfl h13
def eX2_copyFrom (G : GT) (K : List Value → Mem → Prop) (X : String → Mem → Prop) (pc : Nat) (lv : List (Nat × Value)) (st : List Value) (M : Mem) : Prop := Ex G zX2_copyFrom 1 0 K X 0 pc lv st M
set_option maxRecDepth 20000 in
set_option maxHeartbeats 4000000 in
theorem bX2_copyFrom {G : GT} {K : List Value → Mem → Prop} {X : String → Mem → Prop} {M : Mem} {i : Int} (hi0 : 0 ≤ i) (hi1 : i < 12) {j : Int} (hj0 : 0 ≤ j) (hj1 : j < 12) (h : ∀ M1 : Mem, M1 = wrow M 1 i 12 (cpy (M 1 j 12) (M 1 i 12) 0 0 10) → ∀ M4 : Mem, M4 = wrow M1 1 i 13 (cpy (M1 1 j 13) (M1 1 i 13) 0 0 10) → eX2_copyFrom G K X 32 [(0, rr G 1 i 11), (1, rr G 1 j 11), (2, iv 0)] [] M4) : Call G 1 0 zX2_copyFrom [rr G 1 i 11, rr G 1 j 11] M K X := by
  refine call_intro (lv := [(0, rr G 1 i 11), (1, rr G 1 j 11)]) (by decide) rfl (Nat.le_of_ble_eq_true rfl) rfl ?_
  refine ev_aload_n (j := 1) dX2_copyFrom_0 rfl rfl ?_
  refine ev_get frX2_9 dX2_copyFrom_1 (dom1 hj0 hj1 (by decide) (by decide)) en1_11 rfl ?_
  refine ev_iconst dX2_copyFrom_4 ?_
  refine ev_aload_n (j := 0) dX2_copyFrom_5 rfl rfl ?_
  refine ev_get frX2_9 dX2_copyFrom_6 (dom1 hi0 hi1 (by decide) (by decide)) en1_11 rfl ?_
  refine ev_iconst dX2_copyFrom_9 ?_
  refine ev_bipush dX2_copyFrom_10 (by decide) ?_
  refine ev_copy mlX2_23 wc_nat wc_st wc_in dX2_copyFrom_12 (by decide) (Nat.le_of_ble_eq_true rfl) (dom1 hj0 hj1 (by decide) (by decide)) (dom1 hi0 hi1 (by decide) (by decide)) ar1_12 ar1_12 (by decide) (by decide) (by decide) (by decide) (by decide) (by decide) (by decide) ?_
  obtain ⟨M1, e3⟩ : ∃ M1 : Mem, M1 = wrow M 1 i 12 (cpy (M 1 j 12) (M 1 i 12) 0 0 10) := ⟨_, rfl⟩
  have h2 := h _ e3
  refine ev_mem e3 ?_
  refine ev_aload_n (j := 1) dX2_copyFrom_15 rfl rfl ?_
  refine ev_get frX2_15 dX2_copyFrom_16 (dom1 hj0 hj1 (by decide) (by decide)) en1_11 rfl ?_
  refine ev_iconst dX2_copyFrom_19 ?_
  refine ev_aload_n (j := 0) dX2_copyFrom_20 rfl rfl ?_
  refine ev_get frX2_15 dX2_copyFrom_21 (dom1 hi0 hi1 (by decide) (by decide)) en1_11 rfl ?_
  refine ev_iconst dX2_copyFrom_24 ?_
  refine ev_bipush dX2_copyFrom_25 (by decide) ?_
  refine ev_copy mlX2_23 wc_nat wc_st wc_in dX2_copyFrom_27 (by decide) (Nat.le_of_ble_eq_true rfl) (dom1 hj0 hj1 (by decide) (by decide)) (dom1 hi0 hi1 (by decide) (by decide)) ar1_13 ar1_13 (by decide) (by decide) (by decide) (by decide) (by decide) (by decide) (by decide) ?_
  obtain ⟨M4, e6⟩ : ∃ M4 : Mem, M4 = wrow M1 1 i 13 (cpy (M1 1 j 13) (M1 1 i 13) 0 0 10) := ⟨_, rfl⟩
  have h5 := h2 _ e6
  refine ev_mem e6 ?_
  refine ev_iconst dX2_copyFrom_30 ?_
  refine ev_istore_n dX2_copyFrom_31 rfl (by decide) rfl ?_
  exact ev_sub [1, 2, 0] rfl h5
set_option maxRecDepth 20000 in
set_option maxHeartbeats 4000000 in
theorem bX2_copyFrom_32 {G : GT} {K : List Value → Mem → Prop} {X : String → Mem → Prop} {M : Mem} {i : Int} (hi0 : 0 ≤ i) (hi1 : i < 12) {j : Int} (hj0 : 0 ≤ j) (hj1 : j < 12) {v2 : Int} (h : I32 v2 ∧ ((¬ v2 < 10 → K [] (wr M 1 i 11 3 (M 1 j 11 3))) ∧ (v2 < 10 → 0 ≤ v2 ∧ ∀ M10 : Mem, M10 = wrow M 1 i (15 + v2) (cpy (M 1 j (15 + v2)) (M 1 i (15 + v2)) 0 0 30) → eX2_copyFrom G K X 32 [(0, rr G 1 i 11), (1, rr G 1 j 11), (2, iv (v2 + 1))] [] M10))) : eX2_copyFrom G K X 32 [(0, rr G 1 i 11), (1, rr G 1 j 11), (2, iv v2)] [] M := by
  show Ex G zX2_copyFrom 1 0 K X 0 32 [(0, rr G 1 i 11), (1, rr G 1 j 11), (2, iv v2)] [] M
  refine ev_iload_n (j := 2) dX2_copyFrom_32 rfl rfl ?_
  refine ev_bipush dX2_copyFrom_33 (by decide) ?_
  obtain ⟨s1, h2⟩ := h
  obtain ⟨h3, h4⟩ := h2
  refine ev_icmp_ge 63 dX2_copyFrom_35 (by decide) s1 ⟨by decide, by decide⟩ (fun c5 => ?_) (fun c5 => ?_)
  · have h6 := h3 c5
    refine ev_aload_n (j := 0) dX2_copyFrom_63 rfl rfl ?_
    refine ev_aload_n (j := 1) dX2_copyFrom_64 rfl rfl ?_
    refine ev_get frX2_29 dX2_copyFrom_65 (dom1 hj0 hj1 (by decide) (by decide)) en1_11 rfl ?_
    refine ev_put fwX2_29 dX2_copyFrom_68 (dom1 hi0 hi1 (by decide) (by decide)) en1_11 rfl rfl rfl (Nat.le_of_ble_eq_true rfl) ?_
    exact ev_vret dX2_copyFrom_71 (by decide) rfl h6
  · have h7 := h4 c5
    refine ev_aload_n (j := 1) dX2_copyFrom_38 rfl rfl ?_
    refine ev_get frX2_20 dX2_copyFrom_39 (dom1 hj0 hj1 (by decide) (by decide)) en1_11 rfl ?_
    refine ev_iload_n (j := 2) dX2_copyFrom_42 rfl rfl ?_
    obtain ⟨s8, h9⟩ := h7
    refine ev_aald (t := 4) (q := ad G 1 j (15 + v2)) (Or.inr rfl) dX2_copyFrom_43 (dom1 hj0 hj1 (by decide) (by decide)) rfl (by decide) s8 c5 (by first | rfl | (show some (ad G _ _ (_ + ((v2 : Int).toNat : Int))) = _; rw [Int.toNat_of_nonneg (by omega)]; first | done | rfl)) ?_
    refine ev_iconst dX2_copyFrom_44 ?_
    refine ev_aload_n (j := 0) dX2_copyFrom_45 rfl rfl ?_
    refine ev_get frX2_20 dX2_copyFrom_46 (dom1 hi0 hi1 (by decide) (by decide)) en1_11 rfl ?_
    refine ev_iload_n (j := 2) dX2_copyFrom_49 rfl rfl ?_
    refine ev_aald (t := 4) (q := ad G 1 i (15 + v2)) (Or.inr rfl) dX2_copyFrom_50 (dom1 hi0 hi1 (by decide) (by decide)) rfl (by decide) s8 c5 (by first | rfl | (show some (ad G _ _ (_ + ((v2 : Int).toNat : Int))) = _; rw [Int.toNat_of_nonneg (by omega)]; first | done | rfl)) ?_
    refine ev_iconst dX2_copyFrom_51 ?_
    refine ev_bipush dX2_copyFrom_52 (by decide) ?_
    refine ev_copy mlX2_23 wc_nat wc_st wc_in dX2_copyFrom_54 (by decide) (Nat.le_of_ble_eq_true rfl) (dom1 hj0 hj1 (by omega) (by omega)) (dom1 hi0 hi1 (by omega) (by omega)) (row1_15 (by omega) (by omega)) (row1_15 (by omega) (by omega)) (by decide) (by decide) (by decide) (by decide) (by decide) (by decide) (by decide) ?_
    obtain ⟨M10, e12⟩ : ∃ M10 : Mem, M10 = wrow M 1 i (15 + v2) (cpy (M 1 j (15 + v2)) (M 1 i (15 + v2)) 0 0 30) := ⟨_, rfl⟩
    have h11 := h9 _ e12
    refine ev_mem e12 ?_
    refine ev_iinc (j := 2) dX2_copyFrom_57 rfl (by decide) rfl ?_
    refine ev_goto 32 dX2_copyFrom_60 (by decide) ?_
    exact ev_sub [1, 2, 0] rfl h11
def eX2_emptyDuties (G : GT) (K : List Value → Mem → Prop) (X : String → Mem → Prop) (pc : Nat) (lv : List (Nat × Value)) (st : List Value) (M : Mem) : Prop := Ex G zX2_emptyDuties 2 0 K X 0 pc lv st M
set_option maxRecDepth 20000 in
set_option maxHeartbeats 4000000 in
theorem bX2_emptyDuties {G : GT} {K : List Value → Mem → Prop} {X : String → Mem → Prop} {M : Mem} {i : Int} (hi0 : 0 ≤ i) (hi1 : i < 12) (h : Call G 1 0 zfill [rr G 1 i 13, iv 0] M (kV (fun M1 => K [] M1)) noX) : Call G 2 0 zX2_emptyDuties [rr G 1 i 11] M K X := by
  refine call_intro (lv := [(0, rr G 1 i 11)]) (by decide) rfl (Nat.le_of_ble_eq_true rfl) rfl ?_
  refine ev_aload_n (j := 0) dX2_emptyDuties_0 rfl rfl ?_
  refine ev_get frX2_15 dX2_emptyDuties_1 (dom1 hi0 hi1 (by decide) (by decide)) en1_11 rfl ?_
  refine ev_iconst dX2_emptyDuties_4 ?_
  refine ev_callSV (As := [rr G 1 i 13, iv 0]) (st := []) mffill mlX2_41 dX2_emptyDuties_5 rfl rfl (by decide) (by decide) (by decide) (Nat.le_of_ble_eq_true rfl) (fun _ _ z => z.elim) h (fun M1 h2 => ?_)
  exact ev_vret dX2_emptyDuties_8 (by decide) rfl h2
def eX2_firstTripOf (G : GT) (K : List Value → Mem → Prop) (X : String → Mem → Prop) (pc : Nat) (lv : List (Nat × Value)) (st : List Value) (M : Mem) : Prop := Ex G zX2_firstTripOf 0 0 K X 0 pc lv st M
set_option maxRecDepth 20000 in
set_option maxHeartbeats 4000000 in
theorem bX2_firstTripOf {G : GT} {K : List Value → Mem → Prop} {X : String → Mem → Prop} {M : Mem} {i : Int} (hi0 : 0 ≤ i) (hi1 : i < 12) {v1 : Int} (h : 0 ≤ v1 ∧ v1 < 10 ∧ I32 (M 1 i 13 v1) ∧ ((¬ 0 < (M 1 i 13 v1) → K [iv (-1)] M) ∧ (0 < (M 1 i 13 v1) → K [iv (M 1 i (15 + v1) 0)] M))) : Call G 0 0 zX2_firstTripOf [rr G 1 i 11, iv v1] M K X := by
  refine call_intro (lv := [(0, rr G 1 i 11), (1, iv v1)]) (by decide) rfl (Nat.le_of_ble_eq_true rfl) rfl ?_
  refine ev_aload_n (j := 0) dX2_firstTripOf_0 rfl rfl ?_
  refine ev_get frX2_15 dX2_firstTripOf_1 (dom1 hi0 hi1 (by decide) (by decide)) en1_11 rfl ?_
  refine ev_iload_n (j := 1) dX2_firstTripOf_4 rfl rfl ?_
  obtain ⟨s1, s2, h3⟩ := h
  refine ev_iald dX2_firstTripOf_5 (dom1 hi0 hi1 (by decide) (by decide)) ar1_13 (by decide) s1 s2 ?_
  obtain ⟨s4, h5⟩ := h3
  obtain ⟨h6, h7⟩ := h5
  refine ev_if_le 20 dX2_firstTripOf_6 (by decide) s4 (fun c8 => ?_) (fun c8 => ?_)
  · have h9 := h6 c8
    refine ev_iconst dX2_firstTripOf_20 ?_
    exact ev_iret dX2_firstTripOf_21 (by decide) rfl h9
  · have h10 := h7 c8
    refine ev_aload_n (j := 0) dX2_firstTripOf_9 rfl rfl ?_
    refine ev_get frX2_20 dX2_firstTripOf_10 (dom1 hi0 hi1 (by decide) (by decide)) en1_11 rfl ?_
    refine ev_iload_n (j := 1) dX2_firstTripOf_13 rfl rfl ?_
    refine ev_aald (t := 4) (q := ad G 1 i (15 + v1)) (Or.inr rfl) dX2_firstTripOf_14 (dom1 hi0 hi1 (by decide) (by decide)) rfl (by decide) s1 s2 (by first | rfl | (show some (ad G _ _ (_ + ((v1 : Int).toNat : Int))) = _; rw [Int.toNat_of_nonneg (by omega)]; first | done | rfl)) ?_
    refine ev_iconst dX2_firstTripOf_15 ?_
    refine ev_iald dX2_firstTripOf_16 (dom1 hi0 hi1 (by omega) (by omega)) (row1_15 (by omega) (by omega)) (by decide) (by decide) (by decide) ?_
    refine ev_goto 21 dX2_firstTripOf_17 (by decide) ?_
    exact ev_iret dX2_firstTripOf_21 (by decide) rfl h10
def eX2_homeStopOf (G : GT) (K : List Value → Mem → Prop) (X : String → Mem → Prop) (pc : Nat) (lv : List (Nat × Value)) (st : List Value) (M : Mem) : Prop := Ex G zX2_homeStopOf 0 0 K X 0 pc lv st M
set_option maxRecDepth 20000 in
set_option maxHeartbeats 4000000 in
theorem bX2_homeStopOf {G : GT} {K : List Value → Mem → Prop} {X : String → Mem → Prop} {M : Mem} {i : Int} (hi0 : 0 ≤ i) (hi1 : i < 12) {v1 : Int} (h : 0 ≤ v1 ∧ v1 < 10 ∧ I32 (M 1 i 12 v1) ∧ ((¬ (M 1 i 12 v1) = 0 → K [iv 11] M) ∧ ((M 1 i 12 v1) = 0 → K [iv 0] M))) : Call G 0 0 zX2_homeStopOf [rr G 1 i 11, iv v1] M K X := by
  refine call_intro (lv := [(0, rr G 1 i 11), (1, iv v1)]) (by decide) rfl (Nat.le_of_ble_eq_true rfl) rfl ?_
  refine ev_aload_n (j := 0) dX2_homeStopOf_0 rfl rfl ?_
  refine ev_get frX2_9 dX2_homeStopOf_1 (dom1 hi0 hi1 (by decide) (by decide)) en1_11 rfl ?_
  refine ev_iload_n (j := 1) dX2_homeStopOf_4 rfl rfl ?_
  obtain ⟨s1, s2, h3⟩ := h
  refine ev_iald dX2_homeStopOf_5 (dom1 hi0 hi1 (by decide) (by decide)) ar1_12 (by decide) s1 s2 ?_
  obtain ⟨s4, h5⟩ := h3
  obtain ⟨h6, h7⟩ := h5
  refine ev_if_ne 13 dX2_homeStopOf_6 (by decide) s4 (fun c8 => ?_) (fun c8 => ?_)
  · have h9 := h6 c8
    refine ev_bipush dX2_homeStopOf_13 (by decide) ?_
    exact ev_iret dX2_homeStopOf_15 (by decide) rfl h9
  · have h10 := h7 c8
    refine ev_iconst dX2_homeStopOf_9 ?_
    refine ev_goto 15 dX2_homeStopOf_10 (by decide) ?_
    exact ev_iret dX2_homeStopOf_15 (by decide) rfl h10
def eX2_insert (G : GT) (K : List Value → Mem → Prop) (X : String → Mem → Prop) (pc : Nat) (lv : List (Nat × Value)) (st : List Value) (M : Mem) : Prop := Ex G zX2_insert 0 0 K X 0 pc lv st M
set_option maxRecDepth 20000 in
set_option maxHeartbeats 4000000 in
theorem bX2_insert {G : GT} {K : List Value → Mem → Prop} {X : String → Mem → Prop} {M : Mem} {i : Int} (hi0 : 0 ≤ i) (hi1 : i < 12) {v1 v2 v3 : Int} (h : 0 ≤ v1 ∧ v1 < 10 ∧ I32 (M 1 i 13 v1) ∧ (((M 1 i 13 v1) < 30 → eX2_insert G K X 20 [(0, rr G 1 i 11), (1, iv v1), (2, iv v2), (3, iv v3), (4, iv (M 1 i 13 v1))] [] M) ∧ (¬ (M 1 i 13 v1) < 30 → K [] M))) : Call G 0 0 zX2_insert [rr G 1 i 11, iv v1, iv v2, iv v3] M K X := by
  refine call_intro (lv := [(0, rr G 1 i 11), (1, iv v1), (2, iv v2), (3, iv v3)]) (by decide) rfl (Nat.le_of_ble_eq_true rfl) rfl ?_
  refine ev_aload_n (j := 0) dX2_insert_0 rfl rfl ?_
  refine ev_get frX2_15 dX2_insert_1 (dom1 hi0 hi1 (by decide) (by decide)) en1_11 rfl ?_
  refine ev_iload_n (j := 1) dX2_insert_4 rfl rfl ?_
  obtain ⟨s1, s2, h3⟩ := h
  refine ev_iald dX2_insert_5 (dom1 hi0 hi1 (by decide) (by decide)) ar1_13 (by decide) s1 s2 ?_
  refine ev_bipush dX2_insert_6 (by decide) ?_
  obtain ⟨s4, h5⟩ := h3
  obtain ⟨h6, h7⟩ := h5
  refine ev_icmp_lt 12 dX2_insert_8 (by decide) s4 ⟨by decide, by decide⟩ (fun c8 => ?_) (fun c8 => ?_)
  · have h9 := h6 c8
    refine ev_aload_n (j := 0) dX2_insert_12 rfl rfl ?_
    refine ev_get frX2_15 dX2_insert_13 (dom1 hi0 hi1 (by decide) (by decide)) en1_11 rfl ?_
    refine ev_iload_n (j := 1) dX2_insert_16 rfl rfl ?_
    refine ev_iald dX2_insert_17 (dom1 hi0 hi1 (by decide) (by decide)) ar1_13 (by decide) s1 s2 ?_
    refine ev_istore dX2_insert_18 (by decide) rfl ?_
    exact ev_sub [1, 2, 3, 4, 0] rfl h9
  · have h10 := h7 c8
    exact ev_vret dX2_insert_11 (by decide) rfl h10
set_option maxRecDepth 20000 in
set_option maxHeartbeats 4000000 in
theorem bX2_insert_20 {G : GT} {K : List Value → Mem → Prop} {X : String → Mem → Prop} {M : Mem} {i : Int} (hi0 : 0 ≤ i) (hi1 : i < 12) {v1 v2 v3 v4 : Int} (h : I32 v4 ∧ I32 v2 ∧ ((¬ v2 < v4 → 0 ≤ v1 ∧ v1 < 10 ∧ 0 ≤ v2 ∧ v2 < 30 ∧ ∀ M14 : Mem, M14 = wr (wr M 1 i (15 + v1) v2 v3) 1 i 13 v1 (((wr M 1 i (15 + v1) v2 v3) 1 i 13 v1) + 1) → K [] M14) ∧ (v2 < v4 → 0 ≤ v1 ∧ v1 < 10 ∧ 0 ≤ v4 - 1 ∧ v4 - 1 < 30 ∧ 0 ≤ v4 ∧ v4 < 30 ∧ eX2_insert G K X 20 [(0, rr G 1 i 11), (1, iv v1), (2, iv v2), (3, iv v3), (4, iv (v4 + (-1)))] [] (wr M 1 i (15 + v1) v4 (M 1 i (15 + v1) (v4 - 1)))))) : eX2_insert G K X 20 [(0, rr G 1 i 11), (1, iv v1), (2, iv v2), (3, iv v3), (4, iv v4)] [] M := by
  show Ex G zX2_insert 0 0 K X 0 20 [(0, rr G 1 i 11), (1, iv v1), (2, iv v2), (3, iv v3), (4, iv v4)] [] M
  refine ev_iload (j := 4) dX2_insert_20 rfl ?_
  refine ev_iload_n (j := 2) dX2_insert_22 rfl rfl ?_
  obtain ⟨s1, s2, h3⟩ := h
  obtain ⟨h4, h5⟩ := h3
  refine ev_icmp_le 52 dX2_insert_23 (by decide) s1 s2 (fun c6 => ?_) (fun c6 => ?_)
  · have h7 := h4 c6
    refine ev_aload_n (j := 0) dX2_insert_52 rfl rfl ?_
    refine ev_get frX2_20 dX2_insert_53 (dom1 hi0 hi1 (by decide) (by decide)) en1_11 rfl ?_
    refine ev_iload_n (j := 1) dX2_insert_56 rfl rfl ?_
    obtain ⟨s8, s9, h10⟩ := h7
    refine ev_aald (t := 4) (q := ad G 1 i (15 + v1)) (Or.inr rfl) dX2_insert_57 (dom1 hi0 hi1 (by decide) (by decide)) rfl (by decide) s8 s9 (by first | rfl | (show some (ad G _ _ (_ + ((v1 : Int).toNat : Int))) = _; rw [Int.toNat_of_nonneg (by omega)]; first | done | rfl)) ?_
    refine ev_iload_n (j := 2) dX2_insert_58 rfl rfl ?_
    refine ev_iload_n (j := 3) dX2_insert_59 rfl rfl ?_
    obtain ⟨s11, s12, h13⟩ := h10
    refine ev_iast dX2_insert_60 (dom1 hi0 hi1 (by omega) (by omega)) (row1_15 (by omega) (by omega)) (by decide) s11 s12 ?_
    refine ev_aload_n (j := 0) dX2_insert_61 rfl rfl ?_
    refine ev_get frX2_15 dX2_insert_62 (dom1 hi0 hi1 (by decide) (by decide)) en1_11 rfl ?_
    refine ev_iload_n (j := 1) dX2_insert_65 rfl rfl ?_
    refine ev_dup2 dX2_insert_66 rfl rfl ?_
    refine ev_iald dX2_insert_67 (dom1 hi0 hi1 (by decide) (by decide)) ar1_13 (by decide) s8 s9 ?_
    refine ev_iconst dX2_insert_68 ?_
    refine ev_iadd dX2_insert_69 ?_
    refine ev_iast dX2_insert_70 (dom1 hi0 hi1 (by decide) (by decide)) ar1_13 (by decide) s8 s9 ?_
    obtain ⟨M14, e16⟩ : ∃ M14 : Mem, M14 = wr (wr M 1 i (15 + v1) v2 v3) 1 i 13 v1 (((wr M 1 i (15 + v1) v2 v3) 1 i 13 v1) + 1) := ⟨_, rfl⟩
    have h15 := h13 _ e16
    refine ev_mem e16 ?_
    exact ev_vret dX2_insert_71 (by decide) rfl h15
  · have h17 := h5 c6
    refine ev_aload_n (j := 0) dX2_insert_26 rfl rfl ?_
    refine ev_get frX2_20 dX2_insert_27 (dom1 hi0 hi1 (by decide) (by decide)) en1_11 rfl ?_
    refine ev_iload_n (j := 1) dX2_insert_30 rfl rfl ?_
    obtain ⟨s18, s19, h20⟩ := h17
    refine ev_aald (t := 4) (q := ad G 1 i (15 + v1)) (Or.inr rfl) dX2_insert_31 (dom1 hi0 hi1 (by decide) (by decide)) rfl (by decide) s18 s19 (by first | rfl | (show some (ad G _ _ (_ + ((v1 : Int).toNat : Int))) = _; rw [Int.toNat_of_nonneg (by omega)]; first | done | rfl)) ?_
    refine ev_iload (j := 4) dX2_insert_32 rfl ?_
    refine ev_aload_n (j := 0) dX2_insert_34 rfl rfl ?_
    refine ev_get frX2_20 dX2_insert_35 (dom1 hi0 hi1 (by decide) (by decide)) en1_11 rfl ?_
    refine ev_iload_n (j := 1) dX2_insert_38 rfl rfl ?_
    refine ev_aald (t := 4) (q := ad G 1 i (15 + v1)) (Or.inr rfl) dX2_insert_39 (dom1 hi0 hi1 (by decide) (by decide)) rfl (by decide) s18 s19 (by first | rfl | (show some (ad G _ _ (_ + ((v1 : Int).toNat : Int))) = _; rw [Int.toNat_of_nonneg (by omega)]; first | done | rfl)) ?_
    refine ev_iload (j := 4) dX2_insert_40 rfl ?_
    refine ev_iconst dX2_insert_42 ?_
    refine ev_isub dX2_insert_43 ?_
    obtain ⟨s21, s22, h23⟩ := h20
    refine ev_iald dX2_insert_44 (dom1 hi0 hi1 (by omega) (by omega)) (row1_15 (by omega) (by omega)) (by decide) s21 s22 ?_
    obtain ⟨s24, s25, h26⟩ := h23
    refine ev_iast dX2_insert_45 (dom1 hi0 hi1 (by omega) (by omega)) (row1_15 (by omega) (by omega)) (by decide) s24 s25 ?_
    refine ev_iinc (j := 4) dX2_insert_46 rfl (by decide) rfl ?_
    refine ev_goto 20 dX2_insert_49 (by decide) ?_
    exact ev_sub [1, 2, 3, 4, 0] rfl h26
def eX2_join (G : GT) (K : List Value → Mem → Prop) (X : String → Mem → Prop) (pc : Nat) (lv : List (Nat × Value)) (st : List Value) (M : Mem) : Prop := Ex G zX2_join 0 0 K X 0 pc lv st M
set_option maxRecDepth 20000 in
set_option maxHeartbeats 4000000 in
theorem bX2_join {G : GT} {K : List Value → Mem → Prop} {X : String → Mem → Prop} {M : Mem} {i : Int} (hi0 : 0 ≤ i) (hi1 : i < 12) {j : Int} (hj0 : 0 ≤ j) (hj1 : j < 12) {v1 v2 v4 v5 : Int} (h : eX2_join G K X 7 [(0, rr G 1 i 11), (1, iv v1), (3, rr G 1 j 11), (4, iv v4), (6, iv v2), (7, iv v5)] [] M) : Call G 0 0 zX2_join [rr G 1 i 11, iv v1, iv v2, rr G 1 j 11, iv v4, iv v5] M K X := by
  refine call_intro (lv := [(0, rr G 1 i 11), (1, iv v1), (2, iv v2), (3, rr G 1 j 11), (4, iv v4), (5, iv v5)]) (by decide) rfl (Nat.le_of_ble_eq_true rfl) rfl ?_
  refine ev_iload_n (j := 2) dX2_join_0 rfl rfl ?_
  refine ev_istore dX2_join_1 (by decide) rfl ?_
  refine ev_iload (j := 6) dX2_join_3 rfl ?_
  refine ev_istore dX2_join_5 (by decide) rfl ?_
  exact ev_sub [2, 3, 5, 6, 1, 0] rfl h
set_option maxRecDepth 20000 in
set_option maxHeartbeats 4000000 in
theorem bX2_join_7 {G : GT} {K : List Value → Mem → Prop} {X : String → Mem → Prop} {M : Mem} {i : Int} (hi0 : 0 ≤ i) (hi1 : i < 12) {j : Int} (hj0 : 0 ≤ j) (hj1 : j < 12) {v1 v4 v6 v7 : Int} (h : 0 ≤ v4 ∧ v4 < 10 ∧ I32 v7 ∧ I32 (M 1 j 13 v4) ∧ ((¬ v7 < (M 1 j 13 v4) → 0 ≤ v1 ∧ v1 < 10 ∧ K [] (wr M 1 i 13 v1 v6)) ∧ (v7 < (M 1 j 13 v4) → I32 v6 ∧ ((¬ v6 < 30 → 0 ≤ v1 ∧ v1 < 10 ∧ K [] (wr M 1 i 13 v1 v6)) ∧ (v6 < 30 → 0 ≤ v1 ∧ v1 < 10 ∧ 0 ≤ v7 ∧ v7 < 30 ∧ 0 ≤ v6 ∧ eX2_join G K X 7 [(0, rr G 1 i 11), (1, iv v1), (3, rr G 1 j 11), (4, iv v4), (6, iv (v6 + 1)), (7, iv (v7 + 1))] [] (wr M 1 i (15 + v1) v6 (M 1 j (15 + v4) v7))))))) : eX2_join G K X 7 [(0, rr G 1 i 11), (1, iv v1), (3, rr G 1 j 11), (4, iv v4), (6, iv v6), (7, iv v7)] [] M := by
  show Ex G zX2_join 0 0 K X 0 7 [(0, rr G 1 i 11), (1, iv v1), (3, rr G 1 j 11), (4, iv v4), (6, iv v6), (7, iv v7)] [] M
  refine ev_iload (j := 5) dX2_join_7 rfl ?_
  refine ev_aload_n (j := 2) dX2_join_9 rfl rfl ?_
  refine ev_get frX2_15 dX2_join_10 (dom1 hj0 hj1 (by decide) (by decide)) en1_11 rfl ?_
  refine ev_iload (j := 3) dX2_join_13 rfl ?_
  obtain ⟨s1, s2, h3⟩ := h
  refine ev_iald dX2_join_15 (dom1 hj0 hj1 (by decide) (by decide)) ar1_13 (by decide) s1 s2 ?_
  obtain ⟨s4, s5, h6⟩ := h3
  obtain ⟨h7, h8⟩ := h6
  refine ev_icmp_ge 54 dX2_join_16 (by decide) s4 s5 (fun c9 => ?_) (fun c9 => ?_)
  · have h10 := h7 c9
    refine ev_aload_n (j := 0) dX2_join_54 rfl rfl ?_
    refine ev_get frX2_15 dX2_join_55 (dom1 hi0 hi1 (by decide) (by decide)) en1_11 rfl ?_
    refine ev_iload_n (j := 1) dX2_join_58 rfl rfl ?_
    refine ev_iload (j := 4) dX2_join_59 rfl ?_
    obtain ⟨s11, s12, h13⟩ := h10
    refine ev_iast dX2_join_61 (dom1 hi0 hi1 (by decide) (by decide)) ar1_13 (by decide) s11 s12 ?_
    exact ev_vret dX2_join_62 (by decide) rfl h13
  · have h14 := h8 c9
    refine ev_iload (j := 4) dX2_join_19 rfl ?_
    refine ev_bipush dX2_join_21 (by decide) ?_
    obtain ⟨s15, h16⟩ := h14
    obtain ⟨h17, h18⟩ := h16
    refine ev_icmp_ge 54 dX2_join_23 (by decide) s15 ⟨by decide, by decide⟩ (fun c19 => ?_) (fun c19 => ?_)
    · have h20 := h17 c19
      refine ev_aload_n (j := 0) dX2_join_54 rfl rfl ?_
      refine ev_get frX2_15 dX2_join_55 (dom1 hi0 hi1 (by decide) (by decide)) en1_11 rfl ?_
      refine ev_iload_n (j := 1) dX2_join_58 rfl rfl ?_
      refine ev_iload (j := 4) dX2_join_59 rfl ?_
      obtain ⟨s21, s22, h23⟩ := h20
      refine ev_iast dX2_join_61 (dom1 hi0 hi1 (by decide) (by decide)) ar1_13 (by decide) s21 s22 ?_
      exact ev_vret dX2_join_62 (by decide) rfl h23
    · have h24 := h18 c19
      refine ev_aload_n (j := 0) dX2_join_26 rfl rfl ?_
      refine ev_get frX2_20 dX2_join_27 (dom1 hi0 hi1 (by decide) (by decide)) en1_11 rfl ?_
      refine ev_iload_n (j := 1) dX2_join_30 rfl rfl ?_
      obtain ⟨s25, s26, h27⟩ := h24
      refine ev_aald (t := 4) (q := ad G 1 i (15 + v1)) (Or.inr rfl) dX2_join_31 (dom1 hi0 hi1 (by decide) (by decide)) rfl (by decide) s25 s26 (by first | rfl | (show some (ad G _ _ (_ + ((v1 : Int).toNat : Int))) = _; rw [Int.toNat_of_nonneg (by omega)]; first | done | rfl)) ?_
      refine ev_iload (j := 4) dX2_join_32 rfl ?_
      refine ev_aload_n (j := 2) dX2_join_34 rfl rfl ?_
      refine ev_get frX2_20 dX2_join_35 (dom1 hj0 hj1 (by decide) (by decide)) en1_11 rfl ?_
      refine ev_iload (j := 3) dX2_join_38 rfl ?_
      refine ev_aald (t := 4) (q := ad G 1 j (15 + v4)) (Or.inr rfl) dX2_join_40 (dom1 hj0 hj1 (by decide) (by decide)) rfl (by decide) s1 s2 (by first | rfl | (show some (ad G _ _ (_ + ((v4 : Int).toNat : Int))) = _; rw [Int.toNat_of_nonneg (by omega)]; first | done | rfl)) ?_
      refine ev_iload (j := 5) dX2_join_41 rfl ?_
      obtain ⟨s28, s29, h30⟩ := h27
      refine ev_iald dX2_join_43 (dom1 hj0 hj1 (by omega) (by omega)) (row1_15 (by omega) (by omega)) (by decide) s28 s29 ?_
      obtain ⟨s31, h32⟩ := h30
      refine ev_iast dX2_join_44 (dom1 hi0 hi1 (by omega) (by omega)) (row1_15 (by omega) (by omega)) (by decide) s31 c19 ?_
      refine ev_iinc (j := 4) dX2_join_45 rfl (by decide) rfl ?_
      refine ev_iinc (j := 5) dX2_join_48 rfl (by decide) rfl ?_
      refine ev_goto 7 dX2_join_51 (by decide) ?_
      exact ev_sub [2, 3, 4, 5, 1, 0] rfl h32
def eX2_lastTripOf (G : GT) (K : List Value → Mem → Prop) (X : String → Mem → Prop) (pc : Nat) (lv : List (Nat × Value)) (st : List Value) (M : Mem) : Prop := Ex G zX2_lastTripOf 0 0 K X 0 pc lv st M
set_option maxRecDepth 20000 in
set_option maxHeartbeats 4000000 in
theorem bX2_lastTripOf {G : GT} {K : List Value → Mem → Prop} {X : String → Mem → Prop} {M : Mem} {i : Int} (hi0 : 0 ≤ i) (hi1 : i < 12) {v1 : Int} (h : 0 ≤ v1 ∧ v1 < 10 ∧ I32 (M 1 i 13 v1) ∧ ((¬ 0 < (M 1 i 13 v1) → K [iv (-1)] M) ∧ (0 < (M 1 i 13 v1) → 0 ≤ (M 1 i 13 v1) - 1 ∧ (M 1 i 13 v1) - 1 < 30 ∧ K [iv (M 1 i (15 + v1) ((M 1 i 13 v1) - 1))] M))) : Call G 0 0 zX2_lastTripOf [rr G 1 i 11, iv v1] M K X := by
  refine call_intro (lv := [(0, rr G 1 i 11), (1, iv v1)]) (by decide) rfl (Nat.le_of_ble_eq_true rfl) rfl ?_
  refine ev_aload_n (j := 0) dX2_lastTripOf_0 rfl rfl ?_
  refine ev_get frX2_15 dX2_lastTripOf_1 (dom1 hi0 hi1 (by decide) (by decide)) en1_11 rfl ?_
  refine ev_iload_n (j := 1) dX2_lastTripOf_4 rfl rfl ?_
  obtain ⟨s1, s2, h3⟩ := h
  refine ev_iald dX2_lastTripOf_5 (dom1 hi0 hi1 (by decide) (by decide)) ar1_13 (by decide) s1 s2 ?_
  obtain ⟨s4, h5⟩ := h3
  obtain ⟨h6, h7⟩ := h5
  refine ev_if_le 27 dX2_lastTripOf_6 (by decide) s4 (fun c8 => ?_) (fun c8 => ?_)
  · have h9 := h6 c8
    refine ev_iconst dX2_lastTripOf_27 ?_
    exact ev_iret dX2_lastTripOf_28 (by decide) rfl h9
  · have h10 := h7 c8
    refine ev_aload_n (j := 0) dX2_lastTripOf_9 rfl rfl ?_
    refine ev_get frX2_20 dX2_lastTripOf_10 (dom1 hi0 hi1 (by decide) (by decide)) en1_11 rfl ?_
    refine ev_iload_n (j := 1) dX2_lastTripOf_13 rfl rfl ?_
    refine ev_aald (t := 4) (q := ad G 1 i (15 + v1)) (Or.inr rfl) dX2_lastTripOf_14 (dom1 hi0 hi1 (by decide) (by decide)) rfl (by decide) s1 s2 (by first | rfl | (show some (ad G _ _ (_ + ((v1 : Int).toNat : Int))) = _; rw [Int.toNat_of_nonneg (by omega)]; first | done | rfl)) ?_
    refine ev_aload_n (j := 0) dX2_lastTripOf_15 rfl rfl ?_
    refine ev_get frX2_15 dX2_lastTripOf_16 (dom1 hi0 hi1 (by decide) (by decide)) en1_11 rfl ?_
    refine ev_iload_n (j := 1) dX2_lastTripOf_19 rfl rfl ?_
    refine ev_iald dX2_lastTripOf_20 (dom1 hi0 hi1 (by decide) (by decide)) ar1_13 (by decide) s1 s2 ?_
    refine ev_iconst dX2_lastTripOf_21 ?_
    refine ev_isub dX2_lastTripOf_22 ?_
    obtain ⟨s11, s12, h13⟩ := h10
    refine ev_iald dX2_lastTripOf_23 (dom1 hi0 hi1 (by omega) (by omega)) (row1_15 (by omega) (by omega)) (by decide) s11 s12 ?_
    refine ev_goto 28 dX2_lastTripOf_24 (by decide) ?_
    exact ev_iret dX2_lastTripOf_28 (by decide) rfl h13
def eX2_placeOf (G : GT) (K : List Value → Mem → Prop) (X : String → Mem → Prop) (pc : Nat) (lv : List (Nat × Value)) (st : List Value) (M : Mem) : Prop := Ex G zX2_placeOf 0 0 K X 0 pc lv st M
set_option maxRecDepth 20000 in
set_option maxHeartbeats 4000000 in
theorem bX2_placeOf {G : GT} {K : List Value → Mem → Prop} {X : String → Mem → Prop} {M : Mem} {i : Int} (hi0 : 0 ≤ i) (hi1 : i < 12) {v1 : Int} (h : eX2_placeOf G K X 6 [(0, rr G 1 i 11), (1, iv v1), (2, iv 0), (3, iv (v1 + 1))] [] M) : Call G 0 0 zX2_placeOf [rr G 1 i 11, iv v1] M K X := by
  refine call_intro (lv := [(0, rr G 1 i 11), (1, iv v1)]) (by decide) rfl (Nat.le_of_ble_eq_true rfl) rfl ?_
  refine ev_iconst dX2_placeOf_0 ?_
  refine ev_istore_n dX2_placeOf_1 rfl (by decide) rfl ?_
  refine ev_iload_n (j := 2) dX2_placeOf_2 rfl rfl ?_
  refine ev_iconst dX2_placeOf_3 ?_
  refine ev_iadd dX2_placeOf_4 ?_
  refine ev_istore_n dX2_placeOf_5 rfl (by decide) rfl ?_
  exact ev_sub [2, 3, 1, 0] rfl h
set_option maxRecDepth 20000 in
set_option maxHeartbeats 4000000 in
theorem bX2_placeOf_6 {G : GT} {K : List Value → Mem → Prop} {X : String → Mem → Prop} {M : Mem} {i : Int} (hi0 : 0 ≤ i) (hi1 : i < 12) {v1 v2 v3 : Int} (h : I32 v3 ∧ I32 (M 1 i 11 3) ∧ ((¬ v3 < (M 1 i 11 3) → K [iv v2] M) ∧ (v3 < (M 1 i 11 3) → 0 ≤ v3 ∧ v3 < 10 ∧ 0 ≤ v1 ∧ v1 < 10 ∧ I32 (M 1 i 12 v3) ∧ I32 (M 1 i 12 v1) ∧ ((¬ (M 1 i 12 v3) = (M 1 i 12 v1) → eX2_placeOf G K X 6 [(0, rr G 1 i 11), (1, iv v1), (2, iv v2), (3, iv (v3 + 1))] [] M) ∧ ((M 1 i 12 v3) = (M 1 i 12 v1) → eX2_placeOf G K X 6 [(0, rr G 1 i 11), (1, iv v1), (2, iv (v2 + 1)), (3, iv (v3 + 1))] [] M))))) : eX2_placeOf G K X 6 [(0, rr G 1 i 11), (1, iv v1), (2, iv v2), (3, iv v3)] [] M := by
  show Ex G zX2_placeOf 0 0 K X 0 6 [(0, rr G 1 i 11), (1, iv v1), (2, iv v2), (3, iv v3)] [] M
  refine ev_iload_n (j := 3) dX2_placeOf_6 rfl rfl ?_
  refine ev_aload_n (j := 0) dX2_placeOf_7 rfl rfl ?_
  refine ev_get frX2_29 dX2_placeOf_8 (dom1 hi0 hi1 (by decide) (by decide)) en1_11 rfl ?_
  obtain ⟨s1, s2, h3⟩ := h
  obtain ⟨h4, h5⟩ := h3
  refine ev_icmp_ge 38 dX2_placeOf_11 (by decide) s1 s2 (fun c6 => ?_) (fun c6 => ?_)
  · have h7 := h4 c6
    refine ev_iload_n (j := 2) dX2_placeOf_38 rfl rfl ?_
    exact ev_iret dX2_placeOf_39 (by decide) rfl h7
  · have h8 := h5 c6
    refine ev_aload_n (j := 0) dX2_placeOf_14 rfl rfl ?_
    refine ev_get frX2_9 dX2_placeOf_15 (dom1 hi0 hi1 (by decide) (by decide)) en1_11 rfl ?_
    refine ev_iload_n (j := 3) dX2_placeOf_18 rfl rfl ?_
    obtain ⟨s9, s10, h11⟩ := h8
    refine ev_iald dX2_placeOf_19 (dom1 hi0 hi1 (by decide) (by decide)) ar1_12 (by decide) s9 s10 ?_
    refine ev_aload_n (j := 0) dX2_placeOf_20 rfl rfl ?_
    refine ev_get frX2_9 dX2_placeOf_21 (dom1 hi0 hi1 (by decide) (by decide)) en1_11 rfl ?_
    refine ev_iload_n (j := 1) dX2_placeOf_24 rfl rfl ?_
    obtain ⟨s12, s13, h14⟩ := h11
    refine ev_iald dX2_placeOf_25 (dom1 hi0 hi1 (by decide) (by decide)) ar1_12 (by decide) s12 s13 ?_
    obtain ⟨s15, s16, h17⟩ := h14
    obtain ⟨h18, h19⟩ := h17
    refine ev_icmp_ne 32 dX2_placeOf_26 (by decide) s15 s16 (fun c20 => ?_) (fun c20 => ?_)
    · have h21 := h18 c20
      refine ev_iinc (j := 3) dX2_placeOf_32 rfl (by decide) rfl ?_
      refine ev_goto 6 dX2_placeOf_35 (by decide) ?_
      exact ev_sub [1, 2, 3, 0] rfl h21
    · have h22 := h19 c20
      refine ev_iinc (j := 2) dX2_placeOf_29 rfl (by decide) rfl ?_
      refine ev_iinc (j := 3) dX2_placeOf_32 rfl (by decide) rfl ?_
      refine ev_goto 6 dX2_placeOf_35 (by decide) ?_
      exact ev_sub [2, 3, 1, 0] rfl h22
def eX2_positionOf (G : GT) (K : List Value → Mem → Prop) (X : String → Mem → Prop) (pc : Nat) (lv : List (Nat × Value)) (st : List Value) (M : Mem) : Prop := Ex G zX2_positionOf 0 0 K X 0 pc lv st M
set_option maxRecDepth 20000 in
set_option maxHeartbeats 4000000 in
theorem bX2_positionOf {G : GT} {K : List Value → Mem → Prop} {X : String → Mem → Prop} {M : Mem} {i : Int} (hi0 : 0 ≤ i) (hi1 : i < 12) {v1 v2 : Int} (h : eX2_positionOf G K X 2 [(0, rr G 1 i 11), (1, iv v1), (2, iv v2), (3, iv 0)] [] M) : Call G 0 0 zX2_positionOf [rr G 1 i 11, iv v1, iv v2] M K X := by
  refine call_intro (lv := [(0, rr G 1 i 11), (1, iv v1), (2, iv v2)]) (by decide) rfl (Nat.le_of_ble_eq_true rfl) rfl ?_
  refine ev_iconst dX2_positionOf_0 ?_
  refine ev_istore_n dX2_positionOf_1 rfl (by decide) rfl ?_
  exact ev_sub [1, 2, 3, 0] rfl h
set_option maxRecDepth 20000 in
set_option maxHeartbeats 4000000 in
theorem bX2_positionOf_2 {G : GT} {K : List Value → Mem → Prop} {X : String → Mem → Prop} {M : Mem} {i : Int} (hi0 : 0 ≤ i) (hi1 : i < 12) {v1 v2 v3 : Int} (h : 0 ≤ v2 ∧ v2 < 10 ∧ I32 v3 ∧ I32 (M 1 i 13 v2) ∧ ((¬ v3 < (M 1 i 13 v2) → K [iv (-1)] M) ∧ (v3 < (M 1 i 13 v2) → 0 ≤ v3 ∧ v3 < 30 ∧ I32 (M 1 i (15 + v2) v3) ∧ I32 v1 ∧ ((¬ (M 1 i (15 + v2) v3) = v1 → eX2_positionOf G K X 2 [(0, rr G 1 i 11), (1, iv v1), (2, iv v2), (3, iv (v3 + 1))] [] M) ∧ ((M 1 i (15 + v2) v3) = v1 → K [iv v3] M))))) : eX2_positionOf G K X 2 [(0, rr G 1 i 11), (1, iv v1), (2, iv v2), (3, iv v3)] [] M := by
  show Ex G zX2_positionOf 0 0 K X 0 2 [(0, rr G 1 i 11), (1, iv v1), (2, iv v2), (3, iv v3)] [] M
  refine ev_iload_n (j := 3) dX2_positionOf_2 rfl rfl ?_
  refine ev_aload_n (j := 0) dX2_positionOf_3 rfl rfl ?_
  refine ev_get frX2_15 dX2_positionOf_4 (dom1 hi0 hi1 (by decide) (by decide)) en1_11 rfl ?_
  refine ev_iload_n (j := 2) dX2_positionOf_7 rfl rfl ?_
  obtain ⟨s1, s2, h3⟩ := h
  refine ev_iald dX2_positionOf_8 (dom1 hi0 hi1 (by decide) (by decide)) ar1_13 (by decide) s1 s2 ?_
  obtain ⟨s4, s5, h6⟩ := h3
  obtain ⟨h7, h8⟩ := h6
  refine ev_icmp_ge 32 dX2_positionOf_9 (by decide) s4 s5 (fun c9 => ?_) (fun c9 => ?_)
  · have h10 := h7 c9
    refine ev_iconst dX2_positionOf_32 ?_
    exact ev_iret dX2_positionOf_33 (by decide) rfl h10
  · have h11 := h8 c9
    refine ev_aload_n (j := 0) dX2_positionOf_12 rfl rfl ?_
    refine ev_get frX2_20 dX2_positionOf_13 (dom1 hi0 hi1 (by decide) (by decide)) en1_11 rfl ?_
    refine ev_iload_n (j := 2) dX2_positionOf_16 rfl rfl ?_
    refine ev_aald (t := 4) (q := ad G 1 i (15 + v2)) (Or.inr rfl) dX2_positionOf_17 (dom1 hi0 hi1 (by decide) (by decide)) rfl (by decide) s1 s2 (by first | rfl | (show some (ad G _ _ (_ + ((v2 : Int).toNat : Int))) = _; rw [Int.toNat_of_nonneg (by omega)]; first | done | rfl)) ?_
    refine ev_iload_n (j := 3) dX2_positionOf_18 rfl rfl ?_
    obtain ⟨s12, s13, h14⟩ := h11
    refine ev_iald dX2_positionOf_19 (dom1 hi0 hi1 (by omega) (by omega)) (row1_15 (by omega) (by omega)) (by decide) s12 s13 ?_
    refine ev_iload_n (j := 1) dX2_positionOf_20 rfl rfl ?_
    obtain ⟨s15, s16, h17⟩ := h14
    obtain ⟨h18, h19⟩ := h17
    refine ev_icmp_ne 26 dX2_positionOf_21 (by decide) s15 s16 (fun c20 => ?_) (fun c20 => ?_)
    · have h21 := h18 c20
      refine ev_iinc (j := 3) dX2_positionOf_26 rfl (by decide) rfl ?_
      refine ev_goto 2 dX2_positionOf_29 (by decide) ?_
      exact ev_sub [1, 2, 3, 0] rfl h21
    · have h22 := h19 c20
      refine ev_iload_n (j := 3) dX2_positionOf_24 rfl rfl ?_
      exact ev_iret dX2_positionOf_25 (by decide) rfl h22
def eX2_takeOutBehind (G : GT) (K : List Value → Mem → Prop) (X : String → Mem → Prop) (pc : Nat) (lv : List (Nat × Value)) (st : List Value) (M : Mem) : Prop := Ex G zX2_takeOutBehind 2 0 K X 0 pc lv st M
set_option maxRecDepth 20000 in
set_option maxHeartbeats 4000000 in
theorem bX2_takeOutBehind {G : GT} {K : List Value → Mem → Prop} {X : String → Mem → Prop} {M : Mem} {i : Int} (hi0 : 0 ≤ i) (hi1 : i < 12) {v1 : Int} (h : Call G 1 0 zX2_vehicleOf [rr G 1 i 11, iv v1] M (kI (fun x3 M1 => I32 x3 ∧ ((x3 = (-1) → K [] M1) ∧ (¬ x3 = (-1) → Call G 0 0 zX2_positionOf [rr G 1 i 11, iv v1, iv x3] M1 (kI (fun x13 M11 => 0 ≤ x3 ∧ x3 < 10 ∧ K [] (wr M11 1 i 13 x3 (x13 + 1)))) noX)))) noX) : Call G 2 0 zX2_takeOutBehind [rr G 1 i 11, iv v1] M K X := by
  refine call_intro (lv := [(0, rr G 1 i 11), (1, iv v1)]) (by decide) rfl (Nat.le_of_ble_eq_true rfl) rfl ?_
  refine ev_aload_n (j := 0) dX2_takeOutBehind_0 rfl rfl ?_
  refine ev_iload_n (j := 1) dX2_takeOutBehind_1 rfl rfl ?_
  refine ev_callVI (As := [iv v1]) (st := []) mfX2_vehicleOf mlX2_37 dX2_takeOutBehind_2 rfl (dom1 hi0 hi1 (by decide) (by decide)) en1_11 rfl rfl rfl (by decide) (by decide) (by decide) (Nat.le_of_ble_eq_true rfl) (fun _ _ z => z.elim) h (fun x3 M1 h2 => ?_)
  refine ev_istore_n dX2_takeOutBehind_5 rfl (by decide) rfl ?_
  refine ev_iload_n (j := 0) dX2_takeOutBehind_6 rfl rfl ?_
  refine ev_iconst dX2_takeOutBehind_7 ?_
  obtain ⟨s4, h5⟩ := h2
  obtain ⟨h6, h7⟩ := h5
  refine ev_icmp_eq 25 dX2_takeOutBehind_8 (by decide) s4 ⟨by decide, by decide⟩ (fun c8 => ?_) (fun c8 => ?_)
  · have h9 := h6 c8
    exact ev_vret dX2_takeOutBehind_25 (by decide) rfl h9
  · have h10 := h7 c8
    refine ev_aload_n (j := 1) dX2_takeOutBehind_11 rfl rfl ?_
    refine ev_get frX2_15 dX2_takeOutBehind_12 (dom1 hi0 hi1 (by decide) (by decide)) en1_11 rfl ?_
    refine ev_iload_n (j := 0) dX2_takeOutBehind_15 rfl rfl ?_
    refine ev_aload_n (j := 1) dX2_takeOutBehind_16 rfl rfl ?_
    refine ev_iload_n (j := 2) dX2_takeOutBehind_17 rfl rfl ?_
    refine ev_iload_n (j := 0) dX2_takeOutBehind_18 rfl rfl ?_
    refine ev_callVI (As := [iv v1, iv x3]) (st := [iv x3, rr G 1 i 13]) mfX2_positionOf mlX2_33 dX2_takeOutBehind_19 rfl (dom1 hi0 hi1 (by decide) (by decide)) en1_11 rfl rfl rfl (by decide) (by decide) (by decide) (Nat.le_of_ble_eq_true rfl) (fun _ _ z => z.elim) h10 (fun x13 M11 h12 => ?_)
    refine ev_iconst dX2_takeOutBehind_22 ?_
    refine ev_iadd dX2_takeOutBehind_23 ?_
    obtain ⟨s14, s15, h16⟩ := h12
    refine ev_iast dX2_takeOutBehind_24 (dom1 hi0 hi1 (by decide) (by decide)) ar1_13 (by decide) s14 s15 ?_
    exact ev_vret dX2_takeOutBehind_25 (by decide) rfl h16
def eX2_takeOutFrom (G : GT) (K : List Value → Mem → Prop) (X : String → Mem → Prop) (pc : Nat) (lv : List (Nat × Value)) (st : List Value) (M : Mem) : Prop := Ex G zX2_takeOutFrom 2 0 K X 0 pc lv st M
set_option maxRecDepth 20000 in
set_option maxHeartbeats 4000000 in
theorem bX2_takeOutFrom {G : GT} {K : List Value → Mem → Prop} {X : String → Mem → Prop} {M : Mem} {i : Int} (hi0 : 0 ≤ i) (hi1 : i < 12) {v1 : Int} (h : Call G 1 0 zX2_vehicleOf [rr G 1 i 11, iv v1] M (kI (fun x3 M1 => I32 x3 ∧ ((x3 = (-1) → K [] M1) ∧ (¬ x3 = (-1) → Call G 0 0 zX2_positionOf [rr G 1 i 11, iv v1, iv x3] M1 (kI (fun x13 M11 => 0 ≤ x3 ∧ x3 < 10 ∧ K [] (wr M11 1 i 13 x3 x13))) noX)))) noX) : Call G 2 0 zX2_takeOutFrom [rr G 1 i 11, iv v1] M K X := by
  refine call_intro (lv := [(0, rr G 1 i 11), (1, iv v1)]) (by decide) rfl (Nat.le_of_ble_eq_true rfl) rfl ?_
  refine ev_aload_n (j := 0) dX2_takeOutFrom_0 rfl rfl ?_
  refine ev_iload_n (j := 1) dX2_takeOutFrom_1 rfl rfl ?_
  refine ev_callVI (As := [iv v1]) (st := []) mfX2_vehicleOf mlX2_37 dX2_takeOutFrom_2 rfl (dom1 hi0 hi1 (by decide) (by decide)) en1_11 rfl rfl rfl (by decide) (by decide) (by decide) (Nat.le_of_ble_eq_true rfl) (fun _ _ z => z.elim) h (fun x3 M1 h2 => ?_)
  refine ev_istore_n dX2_takeOutFrom_5 rfl (by decide) rfl ?_
  refine ev_iload_n (j := 0) dX2_takeOutFrom_6 rfl rfl ?_
  refine ev_iconst dX2_takeOutFrom_7 ?_
  obtain ⟨s4, h5⟩ := h2
  obtain ⟨h6, h7⟩ := h5
  refine ev_icmp_eq 23 dX2_takeOutFrom_8 (by decide) s4 ⟨by decide, by decide⟩ (fun c8 => ?_) (fun c8 => ?_)
  · have h9 := h6 c8
    exact ev_vret dX2_takeOutFrom_23 (by decide) rfl h9
  · have h10 := h7 c8
    refine ev_aload_n (j := 1) dX2_takeOutFrom_11 rfl rfl ?_
    refine ev_get frX2_15 dX2_takeOutFrom_12 (dom1 hi0 hi1 (by decide) (by decide)) en1_11 rfl ?_
    refine ev_iload_n (j := 0) dX2_takeOutFrom_15 rfl rfl ?_
    refine ev_aload_n (j := 1) dX2_takeOutFrom_16 rfl rfl ?_
    refine ev_iload_n (j := 2) dX2_takeOutFrom_17 rfl rfl ?_
    refine ev_iload_n (j := 0) dX2_takeOutFrom_18 rfl rfl ?_
    refine ev_callVI (As := [iv v1, iv x3]) (st := [iv x3, rr G 1 i 13]) mfX2_positionOf mlX2_33 dX2_takeOutFrom_19 rfl (dom1 hi0 hi1 (by decide) (by decide)) en1_11 rfl rfl rfl (by decide) (by decide) (by decide) (Nat.le_of_ble_eq_true rfl) (fun _ _ z => z.elim) h10 (fun x13 M11 h12 => ?_)
    obtain ⟨s14, s15, h16⟩ := h12
    refine ev_iast dX2_takeOutFrom_22 (dom1 hi0 hi1 (by decide) (by decide)) ar1_13 (by decide) s14 s15 ?_
    exact ev_vret dX2_takeOutFrom_23 (by decide) rfl h16
def eX2_tripsInDuties (G : GT) (K : List Value → Mem → Prop) (X : String → Mem → Prop) (pc : Nat) (lv : List (Nat × Value)) (st : List Value) (M : Mem) : Prop := Ex G zX2_tripsInDuties 0 0 K X 0 pc lv st M
set_option maxRecDepth 20000 in
set_option maxHeartbeats 4000000 in
theorem bX2_tripsInDuties {G : GT} {K : List Value → Mem → Prop} {X : String → Mem → Prop} {M : Mem} {i : Int} (hi0 : 0 ≤ i) (hi1 : i < 12) (h : eX2_tripsInDuties G K X 4 [(0, rr G 1 i 11), (1, iv 0), (2, iv 0)] [] M) : Call G 0 0 zX2_tripsInDuties [rr G 1 i 11] M K X := by
  refine call_intro (lv := [(0, rr G 1 i 11)]) (by decide) rfl (Nat.le_of_ble_eq_true rfl) rfl ?_
  refine ev_iconst dX2_tripsInDuties_0 ?_
  refine ev_istore_n dX2_tripsInDuties_1 rfl (by decide) rfl ?_
  refine ev_iconst dX2_tripsInDuties_2 ?_
  refine ev_istore_n dX2_tripsInDuties_3 rfl (by decide) rfl ?_
  exact ev_sub [2, 1, 0] rfl h
set_option maxRecDepth 20000 in
set_option maxHeartbeats 4000000 in
theorem bX2_tripsInDuties_4 {G : GT} {K : List Value → Mem → Prop} {X : String → Mem → Prop} {M : Mem} {i : Int} (hi0 : 0 ≤ i) (hi1 : i < 12) {v1 v2 : Int} (h : I32 v2 ∧ I32 (M 1 i 11 3) ∧ ((¬ v2 < (M 1 i 11 3) → K [iv v1] M) ∧ (v2 < (M 1 i 11 3) → 0 ≤ v2 ∧ v2 < 10 ∧ eX2_tripsInDuties G K X 4 [(0, rr G 1 i 11), (1, iv (v1 + (M 1 i 13 v2))), (2, iv (v2 + 1))] [] M))) : eX2_tripsInDuties G K X 4 [(0, rr G 1 i 11), (1, iv v1), (2, iv v2)] [] M := by
  show Ex G zX2_tripsInDuties 0 0 K X 0 4 [(0, rr G 1 i 11), (1, iv v1), (2, iv v2)] [] M
  refine ev_iload_n (j := 2) dX2_tripsInDuties_4 rfl rfl ?_
  refine ev_aload_n (j := 0) dX2_tripsInDuties_5 rfl rfl ?_
  refine ev_get frX2_29 dX2_tripsInDuties_6 (dom1 hi0 hi1 (by decide) (by decide)) en1_11 rfl ?_
  obtain ⟨s1, s2, h3⟩ := h
  obtain ⟨h4, h5⟩ := h3
  refine ev_icmp_ge 27 dX2_tripsInDuties_9 (by decide) s1 s2 (fun c6 => ?_) (fun c6 => ?_)
  · have h7 := h4 c6
    refine ev_iload_n (j := 1) dX2_tripsInDuties_27 rfl rfl ?_
    exact ev_iret dX2_tripsInDuties_28 (by decide) rfl h7
  · have h8 := h5 c6
    refine ev_iload_n (j := 1) dX2_tripsInDuties_12 rfl rfl ?_
    refine ev_aload_n (j := 0) dX2_tripsInDuties_13 rfl rfl ?_
    refine ev_get frX2_15 dX2_tripsInDuties_14 (dom1 hi0 hi1 (by decide) (by decide)) en1_11 rfl ?_
    refine ev_iload_n (j := 2) dX2_tripsInDuties_17 rfl rfl ?_
    obtain ⟨s9, s10, h11⟩ := h8
    refine ev_iald dX2_tripsInDuties_18 (dom1 hi0 hi1 (by decide) (by decide)) ar1_13 (by decide) s9 s10 ?_
    refine ev_iadd dX2_tripsInDuties_19 ?_
    refine ev_istore_n dX2_tripsInDuties_20 rfl (by decide) rfl ?_
    refine ev_iinc (j := 2) dX2_tripsInDuties_21 rfl (by decide) rfl ?_
    refine ev_goto 4 dX2_tripsInDuties_24 (by decide) ?_
    exact ev_sub [2, 1, 0] rfl h11
def eX2_vehicleOf (G : GT) (K : List Value → Mem → Prop) (X : String → Mem → Prop) (pc : Nat) (lv : List (Nat × Value)) (st : List Value) (M : Mem) : Prop := Ex G zX2_vehicleOf 1 0 K X 0 pc lv st M
set_option maxRecDepth 20000 in
set_option maxHeartbeats 4000000 in
theorem bX2_vehicleOf {G : GT} {K : List Value → Mem → Prop} {X : String → Mem → Prop} {M : Mem} {i : Int} (hi0 : 0 ≤ i) (hi1 : i < 12) {v1 : Int} (h : eX2_vehicleOf G K X 2 [(0, rr G 1 i 11), (1, iv v1), (2, iv 0)] [] M) : Call G 1 0 zX2_vehicleOf [rr G 1 i 11, iv v1] M K X := by
  refine call_intro (lv := [(0, rr G 1 i 11), (1, iv v1)]) (by decide) rfl (Nat.le_of_ble_eq_true rfl) rfl ?_
  refine ev_iconst dX2_vehicleOf_0 ?_
  refine ev_istore_n dX2_vehicleOf_1 rfl (by decide) rfl ?_
  exact ev_sub [1, 2, 0] rfl h
set_option maxRecDepth 20000 in
set_option maxHeartbeats 4000000 in
theorem bX2_vehicleOf_2 {G : GT} {K : List Value → Mem → Prop} {X : String → Mem → Prop} {M : Mem} {i : Int} (hi0 : 0 ≤ i) (hi1 : i < 12) {v1 v2 : Int} (h : I32 v2 ∧ I32 (M 1 i 11 3) ∧ ((¬ v2 < (M 1 i 11 3) → K [iv (-1)] M) ∧ (v2 < (M 1 i 11 3) → Call G 0 0 zX2_positionOf [rr G 1 i 11, iv v1, iv v2] M (kI (fun x11 M9 => I32 x11 ∧ ((x11 = (-1) → eX2_vehicleOf G K X 2 [(0, rr G 1 i 11), (1, iv v1), (2, iv (v2 + 1))] [] M9) ∧ (¬ x11 = (-1) → K [iv v2] M9)))) noX))) : eX2_vehicleOf G K X 2 [(0, rr G 1 i 11), (1, iv v1), (2, iv v2)] [] M := by
  show Ex G zX2_vehicleOf 1 0 K X 0 2 [(0, rr G 1 i 11), (1, iv v1), (2, iv v2)] [] M
  refine ev_iload_n (j := 2) dX2_vehicleOf_2 rfl rfl ?_
  refine ev_aload_n (j := 0) dX2_vehicleOf_3 rfl rfl ?_
  refine ev_get frX2_29 dX2_vehicleOf_4 (dom1 hi0 hi1 (by decide) (by decide)) en1_11 rfl ?_
  obtain ⟨s1, s2, h3⟩ := h
  obtain ⟨h4, h5⟩ := h3
  refine ev_icmp_ge 28 dX2_vehicleOf_7 (by decide) s1 s2 (fun c6 => ?_) (fun c6 => ?_)
  · have h7 := h4 c6
    refine ev_iconst dX2_vehicleOf_28 ?_
    exact ev_iret dX2_vehicleOf_29 (by decide) rfl h7
  · have h8 := h5 c6
    refine ev_aload_n (j := 0) dX2_vehicleOf_10 rfl rfl ?_
    refine ev_iload_n (j := 1) dX2_vehicleOf_11 rfl rfl ?_
    refine ev_iload_n (j := 2) dX2_vehicleOf_12 rfl rfl ?_
    refine ev_callVI (As := [iv v1, iv v2]) (st := []) mfX2_positionOf mlX2_33 dX2_vehicleOf_13 rfl (dom1 hi0 hi1 (by decide) (by decide)) en1_11 rfl rfl rfl (by decide) (by decide) (by decide) (Nat.le_of_ble_eq_true rfl) (fun _ _ z => z.elim) h8 (fun x11 M9 h10 => ?_)
    refine ev_iconst dX2_vehicleOf_16 ?_
    obtain ⟨s12, h13⟩ := h10
    obtain ⟨h14, h15⟩ := h13
    refine ev_icmp_eq 22 dX2_vehicleOf_17 (by decide) s12 ⟨by decide, by decide⟩ (fun c16 => ?_) (fun c16 => ?_)
    · have h17 := h14 c16
      refine ev_iinc (j := 2) dX2_vehicleOf_22 rfl (by decide) rfl ?_
      refine ev_goto 2 dX2_vehicleOf_25 (by decide) ?_
      exact ev_sub [1, 2, 0] rfl h17
    · have h18 := h15 c16
      refine ev_iload_n (j := 2) dX2_vehicleOf_20 rfl rfl ?_
      exact ev_iret dX2_vehicleOf_21 (by decide) rfl h18
def eX2_vehiclesWithDuty (G : GT) (K : List Value → Mem → Prop) (X : String → Mem → Prop) (pc : Nat) (lv : List (Nat × Value)) (st : List Value) (M : Mem) : Prop := Ex G zX2_vehiclesWithDuty 0 0 K X 0 pc lv st M
set_option maxRecDepth 20000 in
set_option maxHeartbeats 4000000 in
theorem bX2_vehiclesWithDuty {G : GT} {K : List Value → Mem → Prop} {X : String → Mem → Prop} {M : Mem} {i : Int} (hi0 : 0 ≤ i) (hi1 : i < 12) (h : eX2_vehiclesWithDuty G K X 4 [(0, rr G 1 i 11), (1, iv 0), (2, iv 0)] [] M) : Call G 0 0 zX2_vehiclesWithDuty [rr G 1 i 11] M K X := by
  refine call_intro (lv := [(0, rr G 1 i 11)]) (by decide) rfl (Nat.le_of_ble_eq_true rfl) rfl ?_
  refine ev_iconst dX2_vehiclesWithDuty_0 ?_
  refine ev_istore_n dX2_vehiclesWithDuty_1 rfl (by decide) rfl ?_
  refine ev_iconst dX2_vehiclesWithDuty_2 ?_
  refine ev_istore_n dX2_vehiclesWithDuty_3 rfl (by decide) rfl ?_
  exact ev_sub [2, 1, 0] rfl h
set_option maxRecDepth 20000 in
set_option maxHeartbeats 4000000 in
theorem bX2_vehiclesWithDuty_4 {G : GT} {K : List Value → Mem → Prop} {X : String → Mem → Prop} {M : Mem} {i : Int} (hi0 : 0 ≤ i) (hi1 : i < 12) {v1 v2 : Int} (h : I32 v2 ∧ I32 (M 1 i 11 3) ∧ ((¬ v2 < (M 1 i 11 3) → K [iv v1] M) ∧ (v2 < (M 1 i 11 3) → 0 ≤ v2 ∧ v2 < 10 ∧ I32 (M 1 i 13 v2) ∧ ((¬ 0 < (M 1 i 13 v2) → eX2_vehiclesWithDuty G K X 4 [(0, rr G 1 i 11), (1, iv v1), (2, iv (v2 + 1))] [] M) ∧ (0 < (M 1 i 13 v2) → eX2_vehiclesWithDuty G K X 4 [(0, rr G 1 i 11), (1, iv (v1 + 1)), (2, iv (v2 + 1))] [] M))))) : eX2_vehiclesWithDuty G K X 4 [(0, rr G 1 i 11), (1, iv v1), (2, iv v2)] [] M := by
  show Ex G zX2_vehiclesWithDuty 0 0 K X 0 4 [(0, rr G 1 i 11), (1, iv v1), (2, iv v2)] [] M
  refine ev_iload_n (j := 2) dX2_vehiclesWithDuty_4 rfl rfl ?_
  refine ev_aload_n (j := 0) dX2_vehiclesWithDuty_5 rfl rfl ?_
  refine ev_get frX2_29 dX2_vehiclesWithDuty_6 (dom1 hi0 hi1 (by decide) (by decide)) en1_11 rfl ?_
  obtain ⟨s1, s2, h3⟩ := h
  obtain ⟨h4, h5⟩ := h3
  refine ev_icmp_ge 30 dX2_vehiclesWithDuty_9 (by decide) s1 s2 (fun c6 => ?_) (fun c6 => ?_)
  · have h7 := h4 c6
    refine ev_iload_n (j := 1) dX2_vehiclesWithDuty_30 rfl rfl ?_
    exact ev_iret dX2_vehiclesWithDuty_31 (by decide) rfl h7
  · have h8 := h5 c6
    refine ev_aload_n (j := 0) dX2_vehiclesWithDuty_12 rfl rfl ?_
    refine ev_get frX2_15 dX2_vehiclesWithDuty_13 (dom1 hi0 hi1 (by decide) (by decide)) en1_11 rfl ?_
    refine ev_iload_n (j := 2) dX2_vehiclesWithDuty_16 rfl rfl ?_
    obtain ⟨s9, s10, h11⟩ := h8
    refine ev_iald dX2_vehiclesWithDuty_17 (dom1 hi0 hi1 (by decide) (by decide)) ar1_13 (by decide) s9 s10 ?_
    obtain ⟨s12, h13⟩ := h11
    obtain ⟨h14, h15⟩ := h13
    refine ev_if_le 24 dX2_vehiclesWithDuty_18 (by decide) s12 (fun c16 => ?_) (fun c16 => ?_)
    · have h17 := h14 c16
      refine ev_iinc (j := 2) dX2_vehiclesWithDuty_24 rfl (by decide) rfl ?_
      refine ev_goto 4 dX2_vehiclesWithDuty_27 (by decide) ?_
      exact ev_sub [1, 2, 0] rfl h17
    · have h18 := h15 c16
      refine ev_iinc (j := 1) dX2_vehiclesWithDuty_21 rfl (by decide) rfl ?_
      refine ev_iinc (j := 2) dX2_vehiclesWithDuty_24 rfl (by decide) rfl ?_
      refine ev_goto 4 dX2_vehiclesWithDuty_27 (by decide) ?_
      exact ev_sub [2, 1, 0] rfl h18
def eX3_bringBack (G : GT) (K : List Value → Mem → Prop) (X : String → Mem → Prop) (pc : Nat) (lv : List (Nat × Value)) (st : List Value) (M : Mem) : Prop := Ex G zX3_bringBack 3 0 K X 0 pc lv st M
set_option maxRecDepth 20000 in
set_option maxHeartbeats 4000000 in
theorem bX3_bringBack {G : GT} {K : List Value → Mem → Prop} {X : String → Mem → Prop} {M : Mem} {j : Int} (hj0 : 0 ≤ j) (hj1 : j < 12) (h : Call G 2 0 zX4_copyFrom [rr G 1 j 0, rr G 1 2 0] M (kV (fun M1 => K [] (wr M1 2 0 0 2 0))) noX) : Call G 3 0 zX3_bringBack [rr G 2 0 0, rr G 1 j 0] M K X := by
  refine call_intro (lv := [(0, rr G 2 0 0), (1, rr G 1 j 0)]) (by decide) rfl (Nat.le_of_ble_eq_true rfl) rfl ?_
  refine ev_aload_n (j := 1) dX3_bringBack_0 rfl rfl ?_
  refine ev_aload_n (j := 0) dX3_bringBack_1 rfl rfl ?_
  refine ev_get frX3_18 dX3_bringBack_2 dm2_0 en2_0 rfl ?_
  refine ev_callVV (As := [rr G 1 2 0]) (st := []) mfX4_copyFrom mlX3_29 dX3_bringBack_5 rfl (dom1 hj0 hj1 (by decide) (by decide)) en1_0 rfl rfl rfl (by decide) (by decide) (by decide) (Nat.le_of_ble_eq_true rfl) (fun _ _ z => z.elim) h (fun M1 h2 => ?_)
  refine ev_aload_n (j := 0) dX3_bringBack_8 rfl rfl ?_
  refine ev_iconst dX3_bringBack_9 ?_
  refine ev_put fwX3_22 dX3_bringBack_10 dm2_0 en2_0 rfl rfl rfl (Nat.le_of_ble_eq_true rfl) ?_
  exact ev_vret dX3_bringBack_13 (by decide) rfl h2
def eX3_forgetOldest (G : GT) (K : List Value → Mem → Prop) (X : String → Mem → Prop) (pc : Nat) (lv : List (Nat × Value)) (st : List Value) (M : Mem) : Prop := Ex G zX3_forgetOldest 0 0 K X 0 pc lv st M
set_option maxRecDepth 20000 in
set_option maxHeartbeats 4000000 in
theorem bX3_forgetOldest {G : GT} {K : List Value → Mem → Prop} {X : String → Mem → Prop} {M : Mem} (h : 0 ≤ M 2 0 1 0 ∧ M 2 0 1 0 < 12 ∧ eX3_forgetOldest G K X 9 [(0, rr G 2 0 0), (1, rr G 1 (M 2 0 1 0) 0), (2, iv 1)] [] M) : Call G 0 0 zX3_forgetOldest [rr G 2 0 0] M K X := by
  refine call_intro (lv := [(0, rr G 2 0 0)]) (by decide) rfl (Nat.le_of_ble_eq_true rfl) rfl ?_
  refine ev_aload_n (j := 0) dX3_forgetOldest_0 rfl rfl ?_
  refine ev_get frX3_11 dX3_forgetOldest_1 dm2_0 en2_0 rfl ?_
  refine ev_iconst dX3_forgetOldest_4 ?_
  obtain ⟨s1, s2, h3⟩ := h
  refine ev_aald (t := 3) (q := ad G 1 (M 2 0 1 0) 0) (Or.inl rfl) dX3_forgetOldest_5 dm2_1 rfl (by decide) (by decide) (by decide) (by first | rfl | (show some (ad G _ (M 2 0 1 ((0 : Int).toNat : Int)) _) = _; rw [Int.toNat_of_nonneg (by omega)]; first | done | rfl)) ?_
  refine ev_astore_n dX3_forgetOldest_6 rfl (by decide) rfl ?_
  refine ev_iconst dX3_forgetOldest_7 ?_
  refine ev_istore_n dX3_forgetOldest_8 rfl (by decide) rfl ?_
  exact ev_sub [2, 1, 0] rfl h3
set_option maxRecDepth 20000 in
set_option maxHeartbeats 4000000 in
theorem bX3_forgetOldest_9 {G : GT} {K : List Value → Mem → Prop} {X : String → Mem → Prop} {M : Mem} {v2 g1 : Int} (h : I32 v2 ∧ ((¬ v2 < 8 → 0 ≤ g1 ∧ g1 < 12 ∧ K [] (wr (wr M 2 0 1 7 g1) 2 0 0 2 7)) ∧ (v2 < 8 → 0 ≤ v2 ∧ 0 ≤ M 2 0 1 v2 ∧ M 2 0 1 v2 < 12 ∧ 0 ≤ v2 - 1 ∧ v2 - 1 < 8 ∧ eX3_forgetOldest G K X 9 [(0, rr G 2 0 0), (1, rr G 1 g1 0), (2, iv (v2 + 1))] [] (wr M 2 0 1 (v2 - 1) (M 2 0 1 v2))))) : eX3_forgetOldest G K X 9 [(0, rr G 2 0 0), (1, rr G 1 g1 0), (2, iv v2)] [] M := by
  show Ex G zX3_forgetOldest 0 0 K X 0 9 [(0, rr G 2 0 0), (1, rr G 1 g1 0), (2, iv v2)] [] M
  refine ev_iload_n (j := 2) dX3_forgetOldest_9 rfl rfl ?_
  refine ev_bipush dX3_forgetOldest_10 (by decide) ?_
  obtain ⟨s1, h2⟩ := h
  obtain ⟨h3, h4⟩ := h2
  refine ev_icmp_ge 35 dX3_forgetOldest_12 (by decide) s1 ⟨by decide, by decide⟩ (fun c5 => ?_) (fun c5 => ?_)
  · have h6 := h3 c5
    refine ev_aload_n (j := 0) dX3_forgetOldest_35 rfl rfl ?_
    refine ev_get frX3_11 dX3_forgetOldest_36 dm2_0 en2_0 rfl ?_
    refine ev_bipush dX3_forgetOldest_39 (by decide) ?_
    refine ev_aload_n (j := 1) dX3_forgetOldest_41 rfl rfl ?_
    obtain ⟨s7, s8, h9⟩ := h6
    refine ev_aastK dX3_forgetOldest_42 (by decide) (by decide) s7 s8 ?_
    refine ev_aload_n (j := 0) dX3_forgetOldest_43 rfl rfl ?_
    refine ev_bipush dX3_forgetOldest_44 (by decide) ?_
    refine ev_put fwX3_22 dX3_forgetOldest_46 dm2_0 en2_0 rfl rfl rfl (Nat.le_of_ble_eq_true rfl) ?_
    exact ev_vret dX3_forgetOldest_49 (by decide) rfl h9
  · have h10 := h4 c5
    refine ev_aload_n (j := 0) dX3_forgetOldest_15 rfl rfl ?_
    refine ev_get frX3_11 dX3_forgetOldest_16 dm2_0 en2_0 rfl ?_
    refine ev_iload_n (j := 2) dX3_forgetOldest_19 rfl rfl ?_
    refine ev_iconst dX3_forgetOldest_20 ?_
    refine ev_isub dX3_forgetOldest_21 ?_
    refine ev_aload_n (j := 0) dX3_forgetOldest_22 rfl rfl ?_
    refine ev_get frX3_11 dX3_forgetOldest_23 dm2_0 en2_0 rfl ?_
    refine ev_iload_n (j := 2) dX3_forgetOldest_26 rfl rfl ?_
    obtain ⟨s11, h12⟩ := h10
    obtain ⟨s13, s14, h15⟩ := h12
    refine ev_aald (t := 3) (q := ad G 1 (M 2 0 1 v2) 0) (Or.inl rfl) dX3_forgetOldest_27 dm2_1 rfl (by decide) s11 c5 (by first | rfl | (show some (ad G _ (M 2 0 1 ((v2 : Int).toNat : Int)) _) = _; rw [Int.toNat_of_nonneg (by omega)]; first | done | rfl)) ?_
    obtain ⟨s16, s17, h18⟩ := h15
    refine ev_aastK dX3_forgetOldest_28 s16 s17 s13 s14 ?_
    refine ev_iinc (j := 2) dX3_forgetOldest_29 rfl (by decide) rfl ?_
    refine ev_goto 9 dX3_forgetOldest_32 (by decide) ?_
    exact ev_sub [1, 2, 0] rfl h18
def eX3_keep (G : GT) (K : List Value → Mem → Prop) (X : String → Mem → Prop) (pc : Nat) (lv : List (Nat × Value)) (st : List Value) (M : Mem) : Prop := Ex G zX3_keep 3 0 K X 0 pc lv st M
set_option maxRecDepth 20000 in
set_option maxHeartbeats 4000000 in
theorem bX3_keep {G : GT} {K : List Value → Mem → Prop} {X : String → Mem → Prop} {M : Mem} {j : Int} (hj0 : 0 ≤ j) (hj1 : j < 12) (h : I32 (M 2 0 0 2) ∧ (((M 2 0 0 2) < 8 → 0 ≤ M 2 0 0 2 ∧ M 2 0 0 2 < 8 ∧ 0 ≤ M 2 0 1 (M 2 0 0 2) ∧ M 2 0 1 (M 2 0 0 2) < 12 ∧ Call G 2 0 zX4_copyFrom [rr G 1 (M 2 0 1 (M 2 0 0 2)) 0, rr G 1 j 0] M (kV (fun M13 => K [] (wr M13 2 0 0 2 ((M13 2 0 0 2) + 1)))) noX) ∧ (¬ (M 2 0 0 2) < 8 → Call G 0 0 zX3_forgetOldest [rr G 2 0 0] M (kV (fun M17 => 0 ≤ M17 2 0 0 2 ∧ M17 2 0 0 2 < 8 ∧ 0 ≤ M17 2 0 1 (M17 2 0 0 2) ∧ M17 2 0 1 (M17 2 0 0 2) < 12 ∧ Call G 2 0 zX4_copyFrom [rr G 1 (M17 2 0 1 (M17 2 0 0 2)) 0, rr G 1 j 0] M17 (kV (fun M26 => K [] (wr M26 2 0 0 2 ((M26 2 0 0 2) + 1)))) noX)) noX))) : Call G 3 0 zX3_keep [rr G 2 0 0, rr G 1 j 0] M K X := by
  refine call_intro (lv := [(0, rr G 2 0 0), (1, rr G 1 j 0)]) (by decide) rfl (Nat.le_of_ble_eq_true rfl) rfl ?_
  refine ev_aload_n (j := 0) dX3_keep_0 rfl rfl ?_
  refine ev_get frX3_22 dX3_keep_1 dm2_0 en2_0 rfl ?_
  refine ev_bipush dX3_keep_4 (by decide) ?_
  obtain ⟨s1, h2⟩ := h
  obtain ⟨h3, h4⟩ := h2
  refine ev_icmp_lt 13 dX3_keep_6 (by decide) s1 ⟨by decide, by decide⟩ (fun c5 => ?_) (fun c5 => ?_)
  · have h6 := h3 c5
    refine ev_aload_n (j := 0) dX3_keep_13 rfl rfl ?_
    refine ev_get frX3_11 dX3_keep_14 dm2_0 en2_0 rfl ?_
    refine ev_aload_n (j := 0) dX3_keep_17 rfl rfl ?_
    refine ev_get frX3_22 dX3_keep_18 dm2_0 en2_0 rfl ?_
    obtain ⟨s7, s8, h9⟩ := h6
    obtain ⟨s10, s11, h12⟩ := h9
    refine ev_aald (t := 3) (q := ad G 1 (M 2 0 1 (M 2 0 0 2)) 0) (Or.inl rfl) dX3_keep_21 dm2_1 rfl (by decide) s7 s8 (by first | rfl | (show some (ad G _ (M 2 0 1 ((M 2 0 0 2 : Int).toNat : Int)) _) = _; rw [Int.toNat_of_nonneg (by omega)]; first | done | rfl)) ?_
    refine ev_aload_n (j := 1) dX3_keep_22 rfl rfl ?_
    refine ev_callVV (As := [rr G 1 j 0]) (st := []) mfX4_copyFrom mlX3_29 dX3_keep_23 rfl (dom1 (by omega) (by omega) (by decide) (by decide)) en1_0 rfl rfl rfl (by decide) (by decide) (by decide) (Nat.le_of_ble_eq_true rfl) (fun _ _ z => z.elim) h12 (fun M13 h14 => ?_)
    refine ev_aload_n (j := 0) dX3_keep_26 rfl rfl ?_
    refine ev_dup dX3_keep_27 rfl ?_
    refine ev_get frX3_22 dX3_keep_28 dm2_0 en2_0 rfl ?_
    refine ev_iconst dX3_keep_31 ?_
    refine ev_iadd dX3_keep_32 ?_
    refine ev_put fwX3_22 dX3_keep_33 dm2_0 en2_0 rfl rfl rfl (Nat.le_of_ble_eq_true rfl) ?_
    exact ev_vret dX3_keep_36 (by decide) rfl h14
  · have h16 := h4 c5
    refine ev_aload_n (j := 0) dX3_keep_9 rfl rfl ?_
    refine ev_callVV (As := []) (st := []) mfX3_forgetOldest mlX3_26 dX3_keep_10 rfl dm2_0 en2_0 rfl rfl rfl (by decide) (by decide) (by decide) (Nat.le_of_ble_eq_true rfl) (fun _ _ z => z.elim) h16 (fun M17 h18 => ?_)
    refine ev_aload_n (j := 0) dX3_keep_13 rfl rfl ?_
    refine ev_get frX3_11 dX3_keep_14 dm2_0 en2_0 rfl ?_
    refine ev_aload_n (j := 0) dX3_keep_17 rfl rfl ?_
    refine ev_get frX3_22 dX3_keep_18 dm2_0 en2_0 rfl ?_
    obtain ⟨s20, s21, h22⟩ := h18
    obtain ⟨s23, s24, h25⟩ := h22
    refine ev_aald (t := 3) (q := ad G 1 (M17 2 0 1 (M17 2 0 0 2)) 0) (Or.inl rfl) dX3_keep_21 dm2_1 rfl (by decide) s20 s21 (by first | rfl | (show some (ad G _ (M17 2 0 1 ((M17 2 0 0 2 : Int).toNat : Int)) _) = _; rw [Int.toNat_of_nonneg (by omega)]; first | done | rfl)) ?_
    refine ev_aload_n (j := 1) dX3_keep_22 rfl rfl ?_
    refine ev_callVV (As := [rr G 1 j 0]) (st := []) mfX4_copyFrom mlX3_29 dX3_keep_23 rfl (dom1 (by omega) (by omega) (by decide) (by decide)) en1_0 rfl rfl rfl (by decide) (by decide) (by decide) (Nat.le_of_ble_eq_true rfl) (fun _ _ z => z.elim) h25 (fun M26 h27 => ?_)
    refine ev_aload_n (j := 0) dX3_keep_26 rfl rfl ?_
    refine ev_dup dX3_keep_27 rfl ?_
    refine ev_get frX3_22 dX3_keep_28 dm2_0 en2_0 rfl ?_
    refine ev_iconst dX3_keep_31 ?_
    refine ev_iadd dX3_keep_32 ?_
    refine ev_put fwX3_22 dX3_keep_33 dm2_0 en2_0 rfl rfl rfl (Nat.le_of_ble_eq_true rfl) ?_
    exact ev_vret dX3_keep_36 (by decide) rfl h27
def eX3_saveCopy (G : GT) (K : List Value → Mem → Prop) (X : String → Mem → Prop) (pc : Nat) (lv : List (Nat × Value)) (st : List Value) (M : Mem) : Prop := Ex G zX3_saveCopy 3 0 K X 0 pc lv st M
set_option maxRecDepth 20000 in
set_option maxHeartbeats 4000000 in
theorem bX3_saveCopy {G : GT} {K : List Value → Mem → Prop} {X : String → Mem → Prop} {M : Mem} {j : Int} (hj0 : 0 ≤ j) (hj1 : j < 12) (h : Call G 2 0 zX4_copyFrom [rr G 1 2 0, rr G 1 j 0] M (kV (fun M1 => K [] (wr M1 2 0 0 3 1))) noX) : Call G 3 0 zX3_saveCopy [rr G 2 0 0, rr G 1 j 0] M K X := by
  refine call_intro (lv := [(0, rr G 2 0 0), (1, rr G 1 j 0)]) (by decide) rfl (Nat.le_of_ble_eq_true rfl) rfl ?_
  refine ev_aload_n (j := 0) dX3_saveCopy_0 rfl rfl ?_
  refine ev_get frX3_18 dX3_saveCopy_1 dm2_0 en2_0 rfl ?_
  refine ev_aload_n (j := 1) dX3_saveCopy_4 rfl rfl ?_
  refine ev_callVV (As := [rr G 1 j 0]) (st := []) mfX4_copyFrom mlX3_29 dX3_saveCopy_5 rfl (dom1 (by decide) (by decide) (by decide) (by decide)) en1_0 rfl rfl rfl (by decide) (by decide) (by decide) (Nat.le_of_ble_eq_true rfl) (fun _ _ z => z.elim) h (fun M1 h2 => ?_)
  refine ev_aload_n (j := 0) dX3_saveCopy_8 rfl rfl ?_
  refine ev_iconst dX3_saveCopy_9 ?_
  refine ev_put fwX3_33 dX3_saveCopy_10 dm2_0 en2_0 rfl (by decide) (by decide) (Nat.le_of_ble_eq_true rfl) ?_
  exact ev_vret dX3_saveCopy_13 (by decide) rfl h2
def eX3_takeBack (G : GT) (K : List Value → Mem → Prop) (X : String → Mem → Prop) (pc : Nat) (lv : List (Nat × Value)) (st : List Value) (M : Mem) : Prop := Ex G zX3_takeBack 3 0 K X 0 pc lv st M
set_option maxRecDepth 20000 in
set_option maxHeartbeats 4000000 in
theorem bX3_takeBack {G : GT} {K : List Value → Mem → Prop} {X : String → Mem → Prop} {M : Mem} {j : Int} (hj0 : 0 ≤ j) (hj1 : j < 12) (h : I32 (M 2 0 0 2) ∧ ((¬ 0 < (M 2 0 0 2) → K [] M) ∧ (0 < (M 2 0 0 2) → 0 ≤ (M 2 0 0 2) - 1 ∧ (M 2 0 0 2) - 1 < 8 ∧ 0 ≤ M 2 0 1 ((M 2 0 0 2) - 1) ∧ M 2 0 1 ((M 2 0 0 2) - 1) < 12 ∧ Call G 2 0 zX4_copyFrom [rr G 1 j 0, rr G 1 (M 2 0 1 ((M 2 0 0 2) - 1)) 0] (wr M 2 0 0 2 ((M 2 0 0 2) - 1)) (kV (fun M14 => K [] M14)) noX))) : Call G 3 0 zX3_takeBack [rr G 2 0 0, rr G 1 j 0] M K X := by
  refine call_intro (lv := [(0, rr G 2 0 0), (1, rr G 1 j 0)]) (by decide) rfl (Nat.le_of_ble_eq_true rfl) rfl ?_
  refine ev_aload_n (j := 0) dX3_takeBack_0 rfl rfl ?_
  refine ev_get frX3_22 dX3_takeBack_1 dm2_0 en2_0 rfl ?_
  obtain ⟨s1, h2⟩ := h
  obtain ⟨h3, h4⟩ := h2
  refine ev_if_le 30 dX3_takeBack_4 (by decide) s1 (fun c5 => ?_) (fun c5 => ?_)
  · have h6 := h3 c5
    exact ev_vret dX3_takeBack_30 (by decide) rfl h6
  · have h7 := h4 c5
    refine ev_aload_n (j := 0) dX3_takeBack_7 rfl rfl ?_
    refine ev_dup dX3_takeBack_8 rfl ?_
    refine ev_get frX3_22 dX3_takeBack_9 dm2_0 en2_0 rfl ?_
    refine ev_iconst dX3_takeBack_12 ?_
    refine ev_isub dX3_takeBack_13 ?_
    refine ev_put fwX3_22 dX3_takeBack_14 dm2_0 en2_0 rfl rfl rfl (Nat.le_of_ble_eq_true rfl) ?_
    refine ev_aload_n (j := 1) dX3_takeBack_17 rfl rfl ?_
    refine ev_aload_n (j := 0) dX3_takeBack_18 rfl rfl ?_
    refine ev_get frX3_11 dX3_takeBack_19 dm2_0 en2_0 rfl ?_
    refine ev_aload_n (j := 0) dX3_takeBack_22 rfl rfl ?_
    refine ev_get frX3_22 dX3_takeBack_23 dm2_0 en2_0 rfl ?_
    refine ev_topI (b := (M 2 0 0 2) - 1) rfl ?_
    obtain ⟨s8, s9, h10⟩ := h7
    obtain ⟨s11, s12, h13⟩ := h10
    refine ev_aald (t := 3) (q := ad G 1 (M 2 0 1 ((M 2 0 0 2) - 1)) 0) (Or.inl rfl) dX3_takeBack_26 dm2_1 rfl (by decide) s8 s9 (by first | rfl | (show some (ad G _ ((wr M 2 0 0 2 ((M 2 0 0 2) - 1)) 2 0 1 (((M 2 0 0 2) - 1 : Int).toNat : Int)) _) = _; rw [Int.toNat_of_nonneg (by omega)]; first | done | rfl)) ?_
    refine ev_callVV (As := [rr G 1 (M 2 0 1 ((M 2 0 0 2) - 1)) 0]) (st := []) mfX4_copyFrom mlX3_29 dX3_takeBack_27 rfl (dom1 hj0 hj1 (by decide) (by decide)) en1_0 rfl rfl rfl (by decide) (by decide) (by decide) (Nat.le_of_ble_eq_true rfl) (fun _ _ z => z.elim) h13 (fun M14 h15 => ?_)
    exact ev_vret dX3_takeBack_30 (by decide) rfl h15
def eX4_areDutiesSound (G : GT) (K : List Value → Mem → Prop) (X : String → Mem → Prop) (pc : Nat) (lv : List (Nat × Value)) (st : List Value) (M : Mem) : Prop := Ex G zX4_areDutiesSound 4 0 K X 0 pc lv st M
set_option maxRecDepth 20000 in
set_option maxHeartbeats 4000000 in
theorem bX4_areDutiesSound {G : GT} {K : List Value → Mem → Prop} {X : String → Mem → Prop} {M : Mem} {i : Int} (hi0 : 0 ≤ i) (hi1 : i < 12) (h : eX4_areDutiesSound G K X 2 [(0, rr G 1 i 0), (1, iv 0)] [] M) : Call G 4 0 zX4_areDutiesSound [rr G 1 i 0] M K X := by
  refine call_intro (lv := [(0, rr G 1 i 0)]) (by decide) rfl (Nat.le_of_ble_eq_true rfl) rfl ?_
  refine ev_iconst dX4_areDutiesSound_0 ?_
  refine ev_istore_n dX4_areDutiesSound_1 rfl (by decide) rfl ?_
  exact ev_sub [1, 0] rfl h
set_option maxRecDepth 20000 in
set_option maxHeartbeats 4000000 in
theorem bX4_areDutiesSound_2 {G : GT} {K : List Value → Mem → Prop} {X : String → Mem → Prop} {M : Mem} {i : Int} (hi0 : 0 ≤ i) (hi1 : i < 12) {v1 : Int} (h : I32 v1 ∧ I32 (M 1 i 11 3) ∧ ((¬ v1 < (M 1 i 11 3) → K [iv 1] M) ∧ (v1 < (M 1 i 11 3) → Call G 3 0 zX4_isDutySound [rr G 1 i 0, iv v1] M (kI (fun x11 M9 => I32 x11 ∧ ((¬ x11 = 0 → eX4_areDutiesSound G K X 2 [(0, rr G 1 i 0), (1, iv (v1 + 1))] [] M9) ∧ (x11 = 0 → K [iv 0] M9)))) noX))) : eX4_areDutiesSound G K X 2 [(0, rr G 1 i 0), (1, iv v1)] [] M := by
  show Ex G zX4_areDutiesSound 4 0 K X 0 2 [(0, rr G 1 i 0), (1, iv v1)] [] M
  refine ev_iload_n (j := 1) dX4_areDutiesSound_2 rfl rfl ?_
  refine ev_aload_n (j := 0) dX4_areDutiesSound_3 rfl rfl ?_
  refine ev_get frX4_28 dX4_areDutiesSound_4 (dom1 hi0 hi1 (by decide) (by decide)) en1_0 rfl ?_
  refine ev_get frX4_92 dX4_areDutiesSound_7 (dom1 hi0 hi1 (by decide) (by decide)) en1_11 rfl ?_
  obtain ⟨s1, s2, h3⟩ := h
  obtain ⟨h4, h5⟩ := h3
  refine ev_icmp_ge 29 dX4_areDutiesSound_10 (by decide) s1 s2 (fun c6 => ?_) (fun c6 => ?_)
  · have h7 := h4 c6
    refine ev_iconst dX4_areDutiesSound_29 ?_
    exact ev_zret dX4_areDutiesSound_30 (by decide) rfl (by decide) h7
  · have h8 := h5 c6
    refine ev_aload_n (j := 0) dX4_areDutiesSound_13 rfl rfl ?_
    refine ev_iload_n (j := 1) dX4_areDutiesSound_14 rfl rfl ?_
    refine ev_callVI (As := [iv v1]) (st := []) mfX4_isDutySound mlX4_93 dX4_areDutiesSound_15 rfl (dom1 hi0 hi1 (by decide) (by decide)) en1_0 rfl rfl rfl (by decide) (by decide) (by decide) (Nat.le_of_ble_eq_true rfl) (fun _ _ z => z.elim) h8 (fun x11 M9 h10 => ?_)
    obtain ⟨s12, h13⟩ := h10
    obtain ⟨h14, h15⟩ := h13
    refine ev_if_ne 23 dX4_areDutiesSound_18 (by decide) s12 (fun c16 => ?_) (fun c16 => ?_)
    · have h17 := h14 c16
      refine ev_iinc (j := 1) dX4_areDutiesSound_23 rfl (by decide) rfl ?_
      refine ev_goto 2 dX4_areDutiesSound_26 (by decide) ?_
      exact ev_sub [1, 0] rfl h17
    · have h18 := h15 c16
      refine ev_iconst dX4_areDutiesSound_21 ?_
      exact ev_zret dX4_areDutiesSound_22 (by decide) rfl (by decide) h18
def eX4_arrivalOf (G : GT) (K : List Value → Mem → Prop) (X : String → Mem → Prop) (pc : Nat) (lv : List (Nat × Value)) (st : List Value) (M : Mem) : Prop := Ex G zX4_arrivalOf 1 0 K X 0 pc lv st M
set_option maxRecDepth 20000 in
set_option maxHeartbeats 4000000 in
theorem bX4_arrivalOf {G : GT} {K : List Value → Mem → Prop} {X : String → Mem → Prop} {M : Mem} {i : Int} (hi0 : 0 ≤ i) (hi1 : i < 12) {v1 : Int} (h : 0 ≤ v1 ∧ v1 < 30 ∧ Call G 0 0 zX9_minutesFromTo [rr G 1 i 1, iv (M 1 i 7 v1), iv (M 1 i 8 v1)] M (kI (fun x6 M4 => K [iv ((M 1 i 9 v1) + x6)] M4)) noX) : Call G 1 0 zX4_arrivalOf [rr G 1 i 0, iv v1] M K X := by
  refine call_intro (lv := [(0, rr G 1 i 0), (1, iv v1)]) (by decide) rfl (Nat.le_of_ble_eq_true rfl) rfl ?_
  refine ev_aload_n (j := 0) dX4_arrivalOf_0 rfl rfl ?_
  refine ev_get frX4_21 dX4_arrivalOf_1 (dom1 hi0 hi1 (by decide) (by decide)) en1_0 rfl ?_
  refine ev_get frX4_67 dX4_arrivalOf_4 (dom1 hi0 hi1 (by decide) (by decide)) en1_6 rfl ?_
  refine ev_iload_n (j := 1) dX4_arrivalOf_7 rfl rfl ?_
  obtain ⟨s1, s2, h3⟩ := h
  refine ev_iald dX4_arrivalOf_8 (dom1 hi0 hi1 (by decide) (by decide)) ar1_9 (by decide) s1 s2 ?_
  refine ev_aload_n (j := 0) dX4_arrivalOf_9 rfl rfl ?_
  refine ev_get frX4_12 dX4_arrivalOf_10 (dom1 hi0 hi1 (by decide) (by decide)) en1_0 rfl ?_
  refine ev_aload_n (j := 0) dX4_arrivalOf_13 rfl rfl ?_
  refine ev_get frX4_21 dX4_arrivalOf_14 (dom1 hi0 hi1 (by decide) (by decide)) en1_0 rfl ?_
  refine ev_get frX4_60 dX4_arrivalOf_17 (dom1 hi0 hi1 (by decide) (by decide)) en1_6 rfl ?_
  refine ev_iload_n (j := 1) dX4_arrivalOf_20 rfl rfl ?_
  refine ev_iald dX4_arrivalOf_21 (dom1 hi0 hi1 (by decide) (by decide)) ar1_7 (by decide) s1 s2 ?_
  refine ev_aload_n (j := 0) dX4_arrivalOf_22 rfl rfl ?_
  refine ev_get frX4_21 dX4_arrivalOf_23 (dom1 hi0 hi1 (by decide) (by decide)) en1_0 rfl ?_
  refine ev_get frX4_64 dX4_arrivalOf_26 (dom1 hi0 hi1 (by decide) (by decide)) en1_6 rfl ?_
  refine ev_iload_n (j := 1) dX4_arrivalOf_29 rfl rfl ?_
  refine ev_iald dX4_arrivalOf_30 (dom1 hi0 hi1 (by decide) (by decide)) ar1_8 (by decide) s1 s2 ?_
  refine ev_callVI (As := [iv (M 1 i 7 v1), iv (M 1 i 8 v1)]) (st := [iv (M 1 i 9 v1)]) mfX9_minutesFromTo mlX4_70 dX4_arrivalOf_31 rfl (dom1 hi0 hi1 (by decide) (by decide)) en1_1 rfl rfl rfl (by decide) (by decide) (by decide) (Nat.le_of_ble_eq_true rfl) (fun _ _ z => z.elim) h3 (fun x6 M4 h5 => ?_)
  refine ev_iadd dX4_arrivalOf_34 ?_
  exact ev_iret dX4_arrivalOf_35 (by decide) rfl h5
def eX4_canFollow (G : GT) (K : List Value → Mem → Prop) (X : String → Mem → Prop) (pc : Nat) (lv : List (Nat × Value)) (st : List Value) (M : Mem) : Prop := Ex G zX4_canFollow 2 0 K X 0 pc lv st M
set_option maxRecDepth 20000 in
set_option maxHeartbeats 4000000 in
theorem bX4_canFollow {G : GT} {K : List Value → Mem → Prop} {X : String → Mem → Prop} {M : Mem} {i : Int} (hi0 : 0 ≤ i) (hi1 : i < 12) {v1 v2 : Int} (h : 0 ≤ v1 ∧ v1 < 30 ∧ 0 ≤ v2 ∧ v2 < 30 ∧ I32 (M 1 i 7 v1) ∧ I32 (M 1 i 8 v2) ∧ ((¬ (M 1 i 7 v1) = (M 1 i 8 v2) → K [iv 0] M) ∧ ((M 1 i 7 v1) = (M 1 i 8 v2) → Call G 1 0 zX4_arrivalOf [rr G 1 i 0, iv v2] M (kI (fun x17 M15 => I32 (M 1 i 9 v1) ∧ I32 (x17 + (M15 1 i 5 0)) ∧ (((M 1 i 9 v1) < (x17 + (M15 1 i 5 0)) → K [iv 0] M15) ∧ (¬ (M 1 i 9 v1) < (x17 + (M15 1 i 5 0)) → K [iv 1] M15)))) noX))) : Call G 2 0 zX4_canFollow [rr G 1 i 0, iv v1, iv v2] M K X := by
  refine call_intro (lv := [(0, rr G 1 i 0), (1, iv v1), (2, iv v2)]) (by decide) rfl (Nat.le_of_ble_eq_true rfl) rfl ?_
  refine ev_aload_n (j := 0) dX4_canFollow_0 rfl rfl ?_
  refine ev_get frX4_21 dX4_canFollow_1 (dom1 hi0 hi1 (by decide) (by decide)) en1_0 rfl ?_
  refine ev_get frX4_60 dX4_canFollow_4 (dom1 hi0 hi1 (by decide) (by decide)) en1_6 rfl ?_
  refine ev_iload_n (j := 1) dX4_canFollow_7 rfl rfl ?_
  obtain ⟨s1, s2, h3⟩ := h
  refine ev_iald dX4_canFollow_8 (dom1 hi0 hi1 (by decide) (by decide)) ar1_7 (by decide) s1 s2 ?_
  refine ev_aload_n (j := 0) dX4_canFollow_9 rfl rfl ?_
  refine ev_get frX4_21 dX4_canFollow_10 (dom1 hi0 hi1 (by decide) (by decide)) en1_0 rfl ?_
  refine ev_get frX4_64 dX4_canFollow_13 (dom1 hi0 hi1 (by decide) (by decide)) en1_6 rfl ?_
  refine ev_iload_n (j := 2) dX4_canFollow_16 rfl rfl ?_
  obtain ⟨s4, s5, h6⟩ := h3
  refine ev_iald dX4_canFollow_17 (dom1 hi0 hi1 (by decide) (by decide)) ar1_8 (by decide) s4 s5 ?_
  obtain ⟨s7, s8, h9⟩ := h6
  obtain ⟨h10, h11⟩ := h9
  refine ev_icmp_ne 52 dX4_canFollow_18 (by decide) s7 s8 (fun c12 => ?_) (fun c12 => ?_)
  · have h13 := h10 c12
    refine ev_iconst dX4_canFollow_52 ?_
    exact ev_zret dX4_canFollow_53 (by decide) rfl (by decide) h13
  · have h14 := h11 c12
    refine ev_aload_n (j := 0) dX4_canFollow_21 rfl rfl ?_
    refine ev_get frX4_21 dX4_canFollow_22 (dom1 hi0 hi1 (by decide) (by decide)) en1_0 rfl ?_
    refine ev_get frX4_67 dX4_canFollow_25 (dom1 hi0 hi1 (by decide) (by decide)) en1_6 rfl ?_
    refine ev_iload_n (j := 1) dX4_canFollow_28 rfl rfl ?_
    refine ev_iald dX4_canFollow_29 (dom1 hi0 hi1 (by decide) (by decide)) ar1_9 (by decide) s1 s2 ?_
    refine ev_aload_n (j := 0) dX4_canFollow_30 rfl rfl ?_
    refine ev_iload_n (j := 2) dX4_canFollow_31 rfl rfl ?_
    refine ev_callVI (As := [iv v2]) (st := [iv (M 1 i 9 v1)]) mfX4_arrivalOf mlX4_74 dX4_canFollow_32 rfl (dom1 hi0 hi1 (by decide) (by decide)) en1_0 rfl rfl rfl (by decide) (by decide) (by decide) (Nat.le_of_ble_eq_true rfl) (fun _ _ z => z.elim) h14 (fun x17 M15 h16 => ?_)
    refine ev_aload_n (j := 0) dX4_canFollow_35 rfl rfl ?_
    refine ev_get frX4_12 dX4_canFollow_36 (dom1 hi0 hi1 (by decide) (by decide)) en1_0 rfl ?_
    refine ev_get frX4_78 dX4_canFollow_39 (dom1 hi0 hi1 (by decide) (by decide)) en1_1 rfl ?_
    refine ev_iconst dX4_canFollow_42 ?_
    refine ev_iald dX4_canFollow_43 (dom1 hi0 hi1 (by decide) (by decide)) ar1_5 (by decide) (by decide) (by decide) ?_
    refine ev_iadd dX4_canFollow_44 ?_
    obtain ⟨s18, s19, h20⟩ := h16
    obtain ⟨h21, h22⟩ := h20
    refine ev_icmp_lt 52 dX4_canFollow_45 (by decide) s18 s19 (fun c23 => ?_) (fun c23 => ?_)
    · have h24 := h21 c23
      refine ev_iconst dX4_canFollow_52 ?_
      exact ev_zret dX4_canFollow_53 (by decide) rfl (by decide) h24
    · have h25 := h22 c23
      refine ev_iconst dX4_canFollow_48 ?_
      refine ev_goto 53 dX4_canFollow_49 (by decide) ?_
      exact ev_zret dX4_canFollow_53 (by decide) rfl (by decide) h25
def eX4_canTurnAtEnds (G : GT) (K : List Value → Mem → Prop) (X : String → Mem → Prop) (pc : Nat) (lv : List (Nat × Value)) (st : List Value) (M : Mem) : Prop := Ex G zX4_canTurnAtEnds 0 0 K X 0 pc lv st M
set_option maxRecDepth 20000 in
set_option maxHeartbeats 4000000 in
theorem bX4_canTurnAtEnds {G : GT} {K : List Value → Mem → Prop} {X : String → Mem → Prop} {M : Mem} {i : Int} (hi0 : 0 ≤ i) (hi1 : i < 12) {v1 : Int} (h : 0 ≤ v1 ∧ v1 < 30 ∧ 0 ≤ M 1 i 7 v1 ∧ M 1 i 7 v1 < 12 ∧ I32 (M 1 i 4 (M 1 i 7 v1)) ∧ (((M 1 i 4 (M 1 i 7 v1)) = 0 → K [iv 0] M) ∧ (¬ (M 1 i 4 (M 1 i 7 v1)) = 0 → 0 ≤ M 1 i 8 v1 ∧ M 1 i 8 v1 < 12 ∧ I32 (M 1 i 4 (M 1 i 8 v1)) ∧ (((M 1 i 4 (M 1 i 8 v1)) = 0 → K [iv 0] M) ∧ (¬ (M 1 i 4 (M 1 i 8 v1)) = 0 → K [iv 1] M))))) : Call G 0 0 zX4_canTurnAtEnds [rr G 1 i 0, iv v1] M K X := by
  refine call_intro (lv := [(0, rr G 1 i 0), (1, iv v1)]) (by decide) rfl (Nat.le_of_ble_eq_true rfl) rfl ?_
  refine ev_aload_n (j := 0) dX4_canTurnAtEnds_0 rfl rfl ?_
  refine ev_get frX4_12 dX4_canTurnAtEnds_1 (dom1 hi0 hi1 (by decide) (by decide)) en1_0 rfl ?_
  refine ev_get frX4_52 dX4_canTurnAtEnds_4 (dom1 hi0 hi1 (by decide) (by decide)) en1_1 rfl ?_
  refine ev_aload_n (j := 0) dX4_canTurnAtEnds_7 rfl rfl ?_
  refine ev_get frX4_21 dX4_canTurnAtEnds_8 (dom1 hi0 hi1 (by decide) (by decide)) en1_0 rfl ?_
  refine ev_get frX4_60 dX4_canTurnAtEnds_11 (dom1 hi0 hi1 (by decide) (by decide)) en1_6 rfl ?_
  refine ev_iload_n (j := 1) dX4_canTurnAtEnds_14 rfl rfl ?_
  obtain ⟨s1, s2, h3⟩ := h
  refine ev_iald dX4_canTurnAtEnds_15 (dom1 hi0 hi1 (by decide) (by decide)) ar1_7 (by decide) s1 s2 ?_
  obtain ⟨s4, s5, h6⟩ := h3
  refine ev_zald dX4_canTurnAtEnds_16 (dom1 hi0 hi1 (by decide) (by decide)) ar1_4 (by decide) s4 s5 ?_
  obtain ⟨s7, h8⟩ := h6
  obtain ⟨h9, h10⟩ := h8
  refine ev_if_eq 44 dX4_canTurnAtEnds_17 (by decide) s7 (fun c11 => ?_) (fun c11 => ?_)
  · have h12 := h9 c11
    refine ev_iconst dX4_canTurnAtEnds_44 ?_
    exact ev_zret dX4_canTurnAtEnds_45 (by decide) rfl (by decide) h12
  · have h13 := h10 c11
    refine ev_aload_n (j := 0) dX4_canTurnAtEnds_20 rfl rfl ?_
    refine ev_get frX4_12 dX4_canTurnAtEnds_21 (dom1 hi0 hi1 (by decide) (by decide)) en1_0 rfl ?_
    refine ev_get frX4_52 dX4_canTurnAtEnds_24 (dom1 hi0 hi1 (by decide) (by decide)) en1_1 rfl ?_
    refine ev_aload_n (j := 0) dX4_canTurnAtEnds_27 rfl rfl ?_
    refine ev_get frX4_21 dX4_canTurnAtEnds_28 (dom1 hi0 hi1 (by decide) (by decide)) en1_0 rfl ?_
    refine ev_get frX4_64 dX4_canTurnAtEnds_31 (dom1 hi0 hi1 (by decide) (by decide)) en1_6 rfl ?_
    refine ev_iload_n (j := 1) dX4_canTurnAtEnds_34 rfl rfl ?_
    refine ev_iald dX4_canTurnAtEnds_35 (dom1 hi0 hi1 (by decide) (by decide)) ar1_8 (by decide) s1 s2 ?_
    obtain ⟨s14, s15, h16⟩ := h13
    refine ev_zald dX4_canTurnAtEnds_36 (dom1 hi0 hi1 (by decide) (by decide)) ar1_4 (by decide) s14 s15 ?_
    obtain ⟨s17, h18⟩ := h16
    obtain ⟨h19, h20⟩ := h18
    refine ev_if_eq 44 dX4_canTurnAtEnds_37 (by decide) s17 (fun c21 => ?_) (fun c21 => ?_)
    · have h22 := h19 c21
      refine ev_iconst dX4_canTurnAtEnds_44 ?_
      exact ev_zret dX4_canTurnAtEnds_45 (by decide) rfl (by decide) h22
    · have h23 := h20 c21
      refine ev_iconst dX4_canTurnAtEnds_40 ?_
      refine ev_goto 45 dX4_canTurnAtEnds_41 (by decide) ?_
      exact ev_zret dX4_canTurnAtEnds_45 (by decide) rfl (by decide) h23
def eX4_copyFrom (G : GT) (K : List Value → Mem → Prop) (X : String → Mem → Prop) (pc : Nat) (lv : List (Nat × Value)) (st : List Value) (M : Mem) : Prop := Ex G zX4_copyFrom 2 0 K X 0 pc lv st M
set_option maxRecDepth 20000 in
set_option maxHeartbeats 4000000 in
theorem bX4_copyFrom {G : GT} {K : List Value → Mem → Prop} {X : String → Mem → Prop} {M : Mem} {i : Int} (hi0 : 0 ≤ i) (hi1 : i < 12) {j : Int} (hj0 : 0 ≤ j) (hj1 : j < 12) (h : Call G 1 0 zX9_copyFrom [rr G 1 i 1, rr G 1 j 1] M (kV (fun M1 => Call G 1 0 zX8_copyFrom [rr G 1 i 6, rr G 1 j 6] M1 (kV (fun M4 => Call G 1 0 zX2_copyFrom [rr G 1 i 11, rr G 1 j 11] M4 (kV (fun M7 => Call G 1 0 zX0_copyFrom [rr G 1 i 25, rr G 1 j 25] M7 (kV (fun M10 => K [] M10)) noX)) noX)) noX)) noX) : Call G 2 0 zX4_copyFrom [rr G 1 i 0, rr G 1 j 0] M K X := by
  refine call_intro (lv := [(0, rr G 1 i 0), (1, rr G 1 j 0)]) (by decide) rfl (Nat.le_of_ble_eq_true rfl) rfl ?_
  refine ev_aload_n (j := 0) dX4_copyFrom_0 rfl rfl ?_
  refine ev_get frX4_12 dX4_copyFrom_1 (dom1 hi0 hi1 (by decide) (by decide)) en1_0 rfl ?_
  refine ev_aload_n (j := 1) dX4_copyFrom_4 rfl rfl ?_
  refine ev_get frX4_12 dX4_copyFrom_5 (dom1 hj0 hj1 (by decide) (by decide)) en1_0 rfl ?_
  refine ev_callVV (As := [rr G 1 j 1]) (st := []) mfX9_copyFrom mlX4_39 dX4_copyFrom_8 rfl (dom1 hi0 hi1 (by decide) (by decide)) en1_1 rfl rfl rfl (by decide) (by decide) (by decide) (Nat.le_of_ble_eq_true rfl) (fun _ _ z => z.elim) h (fun M1 h2 => ?_)
  refine ev_aload_n (j := 0) dX4_copyFrom_11 rfl rfl ?_
  refine ev_get frX4_21 dX4_copyFrom_12 (dom1 hi0 hi1 (by decide) (by decide)) en1_0 rfl ?_
  refine ev_aload_n (j := 1) dX4_copyFrom_15 rfl rfl ?_
  refine ev_get frX4_21 dX4_copyFrom_16 (dom1 hj0 hj1 (by decide) (by decide)) en1_0 rfl ?_
  refine ev_callVV (As := [rr G 1 j 6]) (st := []) mfX8_copyFrom mlX4_43 dX4_copyFrom_19 rfl (dom1 hi0 hi1 (by decide) (by decide)) en1_6 rfl rfl rfl (by decide) (by decide) (by decide) (Nat.le_of_ble_eq_true rfl) (fun _ _ z => z.elim) h2 (fun M4 h5 => ?_)
  refine ev_aload_n (j := 0) dX4_copyFrom_22 rfl rfl ?_
  refine ev_get frX4_28 dX4_copyFrom_23 (dom1 hi0 hi1 (by decide) (by decide)) en1_0 rfl ?_
  refine ev_aload_n (j := 1) dX4_copyFrom_26 rfl rfl ?_
  refine ev_get frX4_28 dX4_copyFrom_27 (dom1 hj0 hj1 (by decide) (by decide)) en1_0 rfl ?_
  refine ev_callVV (As := [rr G 1 j 11]) (st := []) mfX2_copyFrom mlX4_46 dX4_copyFrom_30 rfl (dom1 hi0 hi1 (by decide) (by decide)) en1_11 rfl rfl rfl (by decide) (by decide) (by decide) (Nat.le_of_ble_eq_true rfl) (fun _ _ z => z.elim) h5 (fun M7 h8 => ?_)
  refine ev_aload_n (j := 0) dX4_copyFrom_33 rfl rfl ?_
  refine ev_get frX4_35 dX4_copyFrom_34 (dom1 hi0 hi1 (by decide) (by decide)) en1_0 rfl ?_
  refine ev_aload_n (j := 1) dX4_copyFrom_37 rfl rfl ?_
  refine ev_get frX4_35 dX4_copyFrom_38 (dom1 hj0 hj1 (by decide) (by decide)) en1_0 rfl ?_
  refine ev_callVV (As := [rr G 1 j 25]) (st := []) mfX0_copyFrom mlX4_49 dX4_copyFrom_41 rfl (dom1 hi0 hi1 (by decide) (by decide)) en1_25 rfl rfl rfl (by decide) (by decide) (by decide) (Nat.le_of_ble_eq_true rfl) (fun _ _ z => z.elim) h8 (fun M10 h11 => ?_)
  exact ev_vret dX4_copyFrom_44 (by decide) rfl h11
def eX4_endStopOf (G : GT) (K : List Value → Mem → Prop) (X : String → Mem → Prop) (pc : Nat) (lv : List (Nat × Value)) (st : List Value) (M : Mem) : Prop := Ex G zX4_endStopOf 1 0 K X 0 pc lv st M
set_option maxRecDepth 20000 in
set_option maxHeartbeats 4000000 in
theorem bX4_endStopOf {G : GT} {K : List Value → Mem → Prop} {X : String → Mem → Prop} {M : Mem} {i : Int} (hi0 : 0 ≤ i) (hi1 : i < 12) {v1 : Int} (h : Call G 0 0 zX2_lastTripOf [rr G 1 i 11, iv v1] M (kI (fun x3 M1 => I32 x3 ∧ ((¬ x3 = (-1) → 0 ≤ x3 ∧ x3 < 30 ∧ K [iv (M1 1 i 8 x3)] M1) ∧ (x3 = (-1) → Call G 0 0 zX2_homeStopOf [rr G 1 i 11, iv v1] M1 (kI (fun x16 M14 => K [iv x16] M14)) noX)))) noX) : Call G 1 0 zX4_endStopOf [rr G 1 i 0, iv v1] M K X := by
  refine call_intro (lv := [(0, rr G 1 i 0), (1, iv v1)]) (by decide) rfl (Nat.le_of_ble_eq_true rfl) rfl ?_
  refine ev_aload_n (j := 0) dX4_endStopOf_0 rfl rfl ?_
  refine ev_get frX4_28 dX4_endStopOf_1 (dom1 hi0 hi1 (by decide) (by decide)) en1_0 rfl ?_
  refine ev_iload_n (j := 1) dX4_endStopOf_4 rfl rfl ?_
  refine ev_callVI (As := [iv v1]) (st := []) mfX2_lastTripOf mlX4_126 dX4_endStopOf_5 rfl (dom1 hi0 hi1 (by decide) (by decide)) en1_11 rfl rfl rfl (by decide) (by decide) (by decide) (Nat.le_of_ble_eq_true rfl) (fun _ _ z => z.elim) h (fun x3 M1 h2 => ?_)
  refine ev_istore_n dX4_endStopOf_8 rfl (by decide) rfl ?_
  refine ev_iload_n (j := 0) dX4_endStopOf_9 rfl rfl ?_
  refine ev_iconst dX4_endStopOf_10 ?_
  obtain ⟨s4, h5⟩ := h2
  obtain ⟨h6, h7⟩ := h5
  refine ev_icmp_ne 25 dX4_endStopOf_11 (by decide) s4 ⟨by decide, by decide⟩ (fun c8 => ?_) (fun c8 => ?_)
  · have h9 := h6 c8
    refine ev_aload_n (j := 1) dX4_endStopOf_25 rfl rfl ?_
    refine ev_get frX4_21 dX4_endStopOf_26 (dom1 hi0 hi1 (by decide) (by decide)) en1_0 rfl ?_
    refine ev_get frX4_64 dX4_endStopOf_29 (dom1 hi0 hi1 (by decide) (by decide)) en1_6 rfl ?_
    refine ev_iload_n (j := 0) dX4_endStopOf_32 rfl rfl ?_
    obtain ⟨s10, s11, h12⟩ := h9
    refine ev_iald dX4_endStopOf_33 (dom1 hi0 hi1 (by decide) (by decide)) ar1_8 (by decide) s10 s11 ?_
    exact ev_iret dX4_endStopOf_34 (by decide) rfl h12
  · have h13 := h7 c8
    refine ev_aload_n (j := 1) dX4_endStopOf_14 rfl rfl ?_
    refine ev_get frX4_28 dX4_endStopOf_15 (dom1 hi0 hi1 (by decide) (by decide)) en1_0 rfl ?_
    refine ev_iload_n (j := 2) dX4_endStopOf_18 rfl rfl ?_
    refine ev_callVI (As := [iv v1]) (st := []) mfX2_homeStopOf mlX4_100 dX4_endStopOf_19 rfl (dom1 hi0 hi1 (by decide) (by decide)) en1_11 rfl rfl rfl (by decide) (by decide) (by decide) (Nat.le_of_ble_eq_true rfl) (fun _ _ z => z.elim) h13 (fun x16 M14 h15 => ?_)
    refine ev_goto 34 dX4_endStopOf_22 (by decide) ?_
    exact ev_iret dX4_endStopOf_34 (by decide) rfl h15
def eX4_isBoxedIn (G : GT) (K : List Value → Mem → Prop) (X : String → Mem → Prop) (pc : Nat) (lv : List (Nat × Value)) (st : List Value) (M : Mem) : Prop := Ex G zX4_isBoxedIn 1 0 K X 0 pc lv st M
set_option maxRecDepth 20000 in
set_option maxHeartbeats 4000000 in
theorem bX4_isBoxedIn {G : GT} {K : List Value → Mem → Prop} {X : String → Mem → Prop} {M : Mem} {i : Int} (hi0 : 0 ≤ i) (hi1 : i < 12) {v1 : Int} (h : Call G 0 0 zX2_firstTripOf [rr G 1 i 11, iv v1] M (kI (fun x3 M1 => I32 x3 ∧ ((¬ x3 = (-1) → eX4_isBoxedIn G K X 20 [(0, rr G 1 i 0), (1, iv v1), (2, iv x3), (3, iv (v1 + 1))] [] M1) ∧ (x3 = (-1) → K [iv 0] M1)))) noX) : Call G 1 0 zX4_isBoxedIn [rr G 1 i 0, iv v1] M K X := by
  refine call_intro (lv := [(0, rr G 1 i 0), (1, iv v1)]) (by decide) rfl (Nat.le_of_ble_eq_true rfl) rfl ?_
  refine ev_aload_n (j := 0) dX4_isBoxedIn_0 rfl rfl ?_
  refine ev_get frX4_28 dX4_isBoxedIn_1 (dom1 hi0 hi1 (by decide) (by decide)) en1_0 rfl ?_
  refine ev_iload_n (j := 1) dX4_isBoxedIn_4 rfl rfl ?_
  refine ev_callVI (As := [iv v1]) (st := []) mfX2_firstTripOf mlX4_97 dX4_isBoxedIn_5 rfl (dom1 hi0 hi1 (by decide) (by decide)) en1_11 rfl rfl rfl (by decide) (by decide) (by decide) (Nat.le_of_ble_eq_true rfl) (fun _ _ z => z.elim) h (fun x3 M1 h2 => ?_)
  refine ev_istore_n dX4_isBoxedIn_8 rfl (by decide) rfl ?_
  refine ev_iload_n (j := 0) dX4_isBoxedIn_9 rfl rfl ?_
  refine ev_iconst dX4_isBoxedIn_10 ?_
  obtain ⟨s4, h5⟩ := h2
  obtain ⟨h6, h7⟩ := h5
  refine ev_icmp_ne 16 dX4_isBoxedIn_11 (by decide) s4 ⟨by decide, by decide⟩ (fun c8 => ?_) (fun c8 => ?_)
  · have h9 := h6 c8
    refine ev_iload_n (j := 2) dX4_isBoxedIn_16 rfl rfl ?_
    refine ev_iconst dX4_isBoxedIn_17 ?_
    refine ev_iadd dX4_isBoxedIn_18 ?_
    refine ev_istore_n dX4_isBoxedIn_19 rfl (by decide) rfl ?_
    exact ev_sub [2, 3, 1, 0] rfl h9
  · have h10 := h7 c8
    refine ev_iconst dX4_isBoxedIn_14 ?_
    exact ev_zret dX4_isBoxedIn_15 (by decide) rfl (by decide) h10
set_option maxRecDepth 20000 in
set_option maxHeartbeats 4000000 in
theorem bX4_isBoxedIn_20 {G : GT} {K : List Value → Mem → Prop} {X : String → Mem → Prop} {M : Mem} {i : Int} (hi0 : 0 ≤ i) (hi1 : i < 12) {v1 v2 v3 : Int} (h : I32 v3 ∧ I32 (M 1 i 11 3) ∧ ((¬ v3 < (M 1 i 11 3) → K [iv 0] M) ∧ (v3 < (M 1 i 11 3) → Call G 0 0 zX2_firstTripOf [rr G 1 i 11, iv v3] M (kI (fun x11 M9 => 0 ≤ v3 ∧ v3 < 10 ∧ 0 ≤ v1 ∧ v1 < 10 ∧ I32 (M9 1 i 12 v3) ∧ I32 (M9 1 i 12 v1) ∧ ((¬ (M9 1 i 12 v3) = (M9 1 i 12 v1) → eX4_isBoxedIn G K X 20 [(0, rr G 1 i 0), (1, iv v1), (2, iv v2), (3, iv (v3 + 1))] [] M9) ∧ ((M9 1 i 12 v3) = (M9 1 i 12 v1) → I32 x11 ∧ ((x11 = (-1) → K [iv 1] M9) ∧ (¬ x11 = (-1) → 0 ≤ x11 ∧ x11 < 30 ∧ 0 ≤ v2 ∧ v2 < 30 ∧ I32 (M9 1 i 9 x11) ∧ I32 (M9 1 i 9 v2) ∧ ((¬ (M9 1 i 9 v2) < (M9 1 i 9 x11) → eX4_isBoxedIn G K X 20 [(0, rr G 1 i 0), (1, iv v1), (2, iv v2), (3, iv (v3 + 1))] [] M9) ∧ ((M9 1 i 9 v2) < (M9 1 i 9 x11) → K [iv 1] M9)))))))) noX))) : eX4_isBoxedIn G K X 20 [(0, rr G 1 i 0), (1, iv v1), (2, iv v2), (3, iv v3)] [] M := by
  show Ex G zX4_isBoxedIn 1 0 K X 0 20 [(0, rr G 1 i 0), (1, iv v1), (2, iv v2), (3, iv v3)] [] M
  refine ev_iload_n (j := 3) dX4_isBoxedIn_20 rfl rfl ?_
  refine ev_aload_n (j := 0) dX4_isBoxedIn_21 rfl rfl ?_
  refine ev_get frX4_28 dX4_isBoxedIn_22 (dom1 hi0 hi1 (by decide) (by decide)) en1_0 rfl ?_
  refine ev_get frX4_92 dX4_isBoxedIn_25 (dom1 hi0 hi1 (by decide) (by decide)) en1_11 rfl ?_
  obtain ⟨s1, s2, h3⟩ := h
  obtain ⟨h4, h5⟩ := h3
  refine ev_icmp_ge 98 dX4_isBoxedIn_28 (by decide) s1 s2 (fun c6 => ?_) (fun c6 => ?_)
  · have h7 := h4 c6
    refine ev_iconst dX4_isBoxedIn_98 ?_
    exact ev_zret dX4_isBoxedIn_99 (by decide) rfl (by decide) h7
  · have h8 := h5 c6
    refine ev_aload_n (j := 0) dX4_isBoxedIn_31 rfl rfl ?_
    refine ev_get frX4_28 dX4_isBoxedIn_32 (dom1 hi0 hi1 (by decide) (by decide)) en1_0 rfl ?_
    refine ev_iload_n (j := 3) dX4_isBoxedIn_35 rfl rfl ?_
    refine ev_callVI (As := [iv v3]) (st := []) mfX2_firstTripOf mlX4_97 dX4_isBoxedIn_36 rfl (dom1 hi0 hi1 (by decide) (by decide)) en1_11 rfl rfl rfl (by decide) (by decide) (by decide) (Nat.le_of_ble_eq_true rfl) (fun _ _ z => z.elim) h8 (fun x11 M9 h10 => ?_)
    refine ev_istore dX4_isBoxedIn_39 (by decide) rfl ?_
    refine ev_aload_n (j := 1) dX4_isBoxedIn_41 rfl rfl ?_
    refine ev_get frX4_28 dX4_isBoxedIn_42 (dom1 hi0 hi1 (by decide) (by decide)) en1_0 rfl ?_
    refine ev_get frX4_123 dX4_isBoxedIn_45 (dom1 hi0 hi1 (by decide) (by decide)) en1_11 rfl ?_
    refine ev_iload_n (j := 4) dX4_isBoxedIn_48 rfl rfl ?_
    obtain ⟨s12, s13, h14⟩ := h10
    refine ev_iald dX4_isBoxedIn_49 (dom1 hi0 hi1 (by decide) (by decide)) ar1_12 (by decide) s12 s13 ?_
    refine ev_aload_n (j := 1) dX4_isBoxedIn_50 rfl rfl ?_
    refine ev_get frX4_28 dX4_isBoxedIn_51 (dom1 hi0 hi1 (by decide) (by decide)) en1_0 rfl ?_
    refine ev_get frX4_123 dX4_isBoxedIn_54 (dom1 hi0 hi1 (by decide) (by decide)) en1_11 rfl ?_
    refine ev_iload_n (j := 2) dX4_isBoxedIn_57 rfl rfl ?_
    obtain ⟨s15, s16, h17⟩ := h14
    refine ev_iald dX4_isBoxedIn_58 (dom1 hi0 hi1 (by decide) (by decide)) ar1_12 (by decide) s15 s16 ?_
    obtain ⟨s18, s19, h20⟩ := h17
    obtain ⟨h21, h22⟩ := h20
    refine ev_icmp_ne 92 dX4_isBoxedIn_59 (by decide) s18 s19 (fun c23 => ?_) (fun c23 => ?_)
    · have h24 := h21 c23
      refine ev_iinc (j := 4) dX4_isBoxedIn_92 rfl (by decide) rfl ?_
      refine ev_goto 20 dX4_isBoxedIn_95 (by decide) ?_
      exact ev_sub [2, 3, 4, 0] rfl h24
    · have h25 := h22 c23
      refine ev_iload (j := 0) dX4_isBoxedIn_62 rfl ?_
      refine ev_iconst dX4_isBoxedIn_64 ?_
      obtain ⟨s26, h27⟩ := h25
      obtain ⟨h28, h29⟩ := h27
      refine ev_icmp_eq 90 dX4_isBoxedIn_65 (by decide) s26 ⟨by decide, by decide⟩ (fun c30 => ?_) (fun c30 => ?_)
      · have h31 := h28 c30
        refine ev_iconst dX4_isBoxedIn_90 ?_
        exact ev_zret dX4_isBoxedIn_91 (by decide) rfl (by decide) h31
      · have h32 := h29 c30
        refine ev_aload_n (j := 1) dX4_isBoxedIn_68 rfl rfl ?_
        refine ev_get frX4_21 dX4_isBoxedIn_69 (dom1 hi0 hi1 (by decide) (by decide)) en1_0 rfl ?_
        refine ev_get frX4_67 dX4_isBoxedIn_72 (dom1 hi0 hi1 (by decide) (by decide)) en1_6 rfl ?_
        refine ev_iload (j := 0) dX4_isBoxedIn_75 rfl ?_
        obtain ⟨s33, s34, h35⟩ := h32
        refine ev_iald dX4_isBoxedIn_77 (dom1 hi0 hi1 (by decide) (by decide)) ar1_9 (by decide) s33 s34 ?_
        refine ev_aload_n (j := 1) dX4_isBoxedIn_78 rfl rfl ?_
        refine ev_get frX4_21 dX4_isBoxedIn_79 (dom1 hi0 hi1 (by decide) (by decide)) en1_0 rfl ?_
        refine ev_get frX4_67 dX4_isBoxedIn_82 (dom1 hi0 hi1 (by decide) (by decide)) en1_6 rfl ?_
        refine ev_iload_n (j := 3) dX4_isBoxedIn_85 rfl rfl ?_
        obtain ⟨s36, s37, h38⟩ := h35
        refine ev_iald dX4_isBoxedIn_86 (dom1 hi0 hi1 (by decide) (by decide)) ar1_9 (by decide) s36 s37 ?_
        obtain ⟨s39, s40, h41⟩ := h38
        obtain ⟨h42, h43⟩ := h41
        refine ev_icmp_le 92 dX4_isBoxedIn_87 (by decide) s39 s40 (fun c44 => ?_) (fun c44 => ?_)
        · have h45 := h42 c44
          refine ev_iinc (j := 4) dX4_isBoxedIn_92 rfl (by decide) rfl ?_
          refine ev_goto 20 dX4_isBoxedIn_95 (by decide) ?_
          exact ev_sub [2, 3, 4, 0] rfl h45
        · have h46 := h43 c44
          refine ev_iconst dX4_isBoxedIn_90 ?_
          exact ev_zret dX4_isBoxedIn_91 (by decide) rfl (by decide) h46
def eX4_isDutySound (G : GT) (K : List Value → Mem → Prop) (X : String → Mem → Prop) (pc : Nat) (lv : List (Nat × Value)) (st : List Value) (M : Mem) : Prop := Ex G zX4_isDutySound 3 0 K X 0 pc lv st M
set_option maxRecDepth 20000 in
set_option maxHeartbeats 4000000 in
theorem bX4_isDutySound {G : GT} {K : List Value → Mem → Prop} {X : String → Mem → Prop} {M : Mem} {i : Int} (hi0 : 0 ≤ i) (hi1 : i < 12) {v1 : Int} (h : Call G 0 0 zX2_firstTripOf [rr G 1 i 11, iv v1] M (kI (fun x3 M1 => I32 x3 ∧ ((x3 = (-1) → eX4_isDutySound G K X 38 [(0, rr G 1 i 0), (1, iv v1), (3, iv 1)] [] M1) ∧ (¬ x3 = (-1) → 0 ≤ x3 ∧ x3 < 30 ∧ Call G 0 0 zX2_homeStopOf [rr G 1 i 11, iv v1] M1 (kI (fun x16 M14 => I32 (M1 1 i 7 x3) ∧ I32 x16 ∧ (((M1 1 i 7 x3) = x16 → eX4_isDutySound G K X 38 [(0, rr G 1 i 0), (1, iv v1), (3, iv 1)] [] M14) ∧ (¬ (M1 1 i 7 x3) = x16 → K [iv 0] M14)))) noX)))) noX) : Call G 3 0 zX4_isDutySound [rr G 1 i 0, iv v1] M K X := by
  refine call_intro (lv := [(0, rr G 1 i 0), (1, iv v1)]) (by decide) rfl (Nat.le_of_ble_eq_true rfl) rfl ?_
  refine ev_aload_n (j := 0) dX4_isDutySound_0 rfl rfl ?_
  refine ev_get frX4_28 dX4_isDutySound_1 (dom1 hi0 hi1 (by decide) (by decide)) en1_0 rfl ?_
  refine ev_iload_n (j := 1) dX4_isDutySound_4 rfl rfl ?_
  refine ev_callVI (As := [iv v1]) (st := []) mfX2_firstTripOf mlX4_97 dX4_isDutySound_5 rfl (dom1 hi0 hi1 (by decide) (by decide)) en1_11 rfl rfl rfl (by decide) (by decide) (by decide) (Nat.le_of_ble_eq_true rfl) (fun _ _ z => z.elim) h (fun x3 M1 h2 => ?_)
  refine ev_istore_n dX4_isDutySound_8 rfl (by decide) rfl ?_
  refine ev_iload_n (j := 0) dX4_isDutySound_9 rfl rfl ?_
  refine ev_iconst dX4_isDutySound_10 ?_
  obtain ⟨s4, h5⟩ := h2
  obtain ⟨h6, h7⟩ := h5
  refine ev_icmp_eq 36 dX4_isDutySound_11 (by decide) s4 ⟨by decide, by decide⟩ (fun c8 => ?_) (fun c8 => ?_)
  · have h9 := h6 c8
    refine ev_iconst dX4_isDutySound_36 ?_
    refine ev_istore_n dX4_isDutySound_37 rfl (by decide) rfl ?_
    exact ev_sub [2, 3, 0] rfl h9
  · have h10 := h7 c8
    refine ev_aload_n (j := 1) dX4_isDutySound_14 rfl rfl ?_
    refine ev_get frX4_21 dX4_isDutySound_15 (dom1 hi0 hi1 (by decide) (by decide)) en1_0 rfl ?_
    refine ev_get frX4_60 dX4_isDutySound_18 (dom1 hi0 hi1 (by decide) (by decide)) en1_6 rfl ?_
    refine ev_iload_n (j := 0) dX4_isDutySound_21 rfl rfl ?_
    obtain ⟨s11, s12, h13⟩ := h10
    refine ev_iald dX4_isDutySound_22 (dom1 hi0 hi1 (by decide) (by decide)) ar1_7 (by decide) s11 s12 ?_
    refine ev_aload_n (j := 1) dX4_isDutySound_23 rfl rfl ?_
    refine ev_get frX4_28 dX4_isDutySound_24 (dom1 hi0 hi1 (by decide) (by decide)) en1_0 rfl ?_
    refine ev_iload_n (j := 2) dX4_isDutySound_27 rfl rfl ?_
    refine ev_callVI (As := [iv v1]) (st := [iv (M1 1 i 7 x3)]) mfX2_homeStopOf mlX4_100 dX4_isDutySound_28 rfl (dom1 hi0 hi1 (by decide) (by decide)) en1_11 rfl rfl rfl (by decide) (by decide) (by decide) (Nat.le_of_ble_eq_true rfl) (fun _ _ z => z.elim) h13 (fun x16 M14 h15 => ?_)
    obtain ⟨s17, s18, h19⟩ := h15
    obtain ⟨h20, h21⟩ := h19
    refine ev_icmp_eq 36 dX4_isDutySound_31 (by decide) s17 s18 (fun c22 => ?_) (fun c22 => ?_)
    · have h23 := h20 c22
      refine ev_iconst dX4_isDutySound_36 ?_
      refine ev_istore_n dX4_isDutySound_37 rfl (by decide) rfl ?_
      exact ev_sub [2, 3, 0] rfl h23
    · have h24 := h21 c22
      refine ev_iconst dX4_isDutySound_34 ?_
      exact ev_zret dX4_isDutySound_35 (by decide) rfl (by decide) h24
set_option maxRecDepth 20000 in
set_option maxHeartbeats 4000000 in
theorem bX4_isDutySound_38 {G : GT} {K : List Value → Mem → Prop} {X : String → Mem → Prop} {M : Mem} {i : Int} (hi0 : 0 ≤ i) (hi1 : i < 12) {v1 v3 : Int} (h : 0 ≤ v1 ∧ v1 < 10 ∧ I32 v3 ∧ I32 (M 1 i 13 v1) ∧ ((¬ v3 < (M 1 i 13 v1) → K [iv 1] M) ∧ (v3 < (M 1 i 13 v1) → 0 ≤ v3 ∧ v3 < 30 ∧ 0 ≤ v3 - 1 ∧ v3 - 1 < 30 ∧ Call G 2 0 zX4_canFollow [rr G 1 i 0, iv (M 1 i (15 + v1) v3), iv (M 1 i (15 + v1) (v3 - 1))] M (kI (fun x20 M18 => I32 x20 ∧ ((¬ x20 = 0 → eX4_isDutySound G K X 38 [(0, rr G 1 i 0), (1, iv v1), (3, iv (v3 + 1))] [] M18) ∧ (x20 = 0 → K [iv 0] M18)))) noX))) : eX4_isDutySound G K X 38 [(0, rr G 1 i 0), (1, iv v1), (3, iv v3)] [] M := by
  show Ex G zX4_isDutySound 3 0 K X 0 38 [(0, rr G 1 i 0), (1, iv v1), (3, iv v3)] [] M
  refine ev_iload_n (j := 2) dX4_isDutySound_38 rfl rfl ?_
  refine ev_aload_n (j := 0) dX4_isDutySound_39 rfl rfl ?_
  refine ev_get frX4_28 dX4_isDutySound_40 (dom1 hi0 hi1 (by decide) (by decide)) en1_0 rfl ?_
  refine ev_get frX4_103 dX4_isDutySound_43 (dom1 hi0 hi1 (by decide) (by decide)) en1_11 rfl ?_
  refine ev_iload_n (j := 1) dX4_isDutySound_46 rfl rfl ?_
  obtain ⟨s1, s2, h3⟩ := h
  refine ev_iald dX4_isDutySound_47 (dom1 hi0 hi1 (by decide) (by decide)) ar1_13 (by decide) s1 s2 ?_
  obtain ⟨s4, s5, h6⟩ := h3
  obtain ⟨h7, h8⟩ := h6
  refine ev_icmp_ge 90 dX4_isDutySound_48 (by decide) s4 s5 (fun c9 => ?_) (fun c9 => ?_)
  · have h10 := h7 c9
    refine ev_iconst dX4_isDutySound_90 ?_
    exact ev_zret dX4_isDutySound_91 (by decide) rfl (by decide) h10
  · have h11 := h8 c9
    refine ev_aload_n (j := 0) dX4_isDutySound_51 rfl rfl ?_
    refine ev_aload_n (j := 0) dX4_isDutySound_52 rfl rfl ?_
    refine ev_get frX4_28 dX4_isDutySound_53 (dom1 hi0 hi1 (by decide) (by decide)) en1_0 rfl ?_
    refine ev_get frX4_106 dX4_isDutySound_56 (dom1 hi0 hi1 (by decide) (by decide)) en1_11 rfl ?_
    refine ev_iload_n (j := 1) dX4_isDutySound_59 rfl rfl ?_
    refine ev_aald (t := 4) (q := ad G 1 i (15 + v1)) (Or.inr rfl) dX4_isDutySound_60 (dom1 hi0 hi1 (by decide) (by decide)) rfl (by decide) s1 s2 (by first | rfl | (show some (ad G _ _ (_ + ((v1 : Int).toNat : Int))) = _; rw [Int.toNat_of_nonneg (by omega)]; first | done | rfl)) ?_
    refine ev_iload_n (j := 2) dX4_isDutySound_61 rfl rfl ?_
    obtain ⟨s12, s13, h14⟩ := h11
    refine ev_iald dX4_isDutySound_62 (dom1 hi0 hi1 (by omega) (by omega)) (row1_15 (by omega) (by omega)) (by decide) s12 s13 ?_
    refine ev_aload_n (j := 0) dX4_isDutySound_63 rfl rfl ?_
    refine ev_get frX4_28 dX4_isDutySound_64 (dom1 hi0 hi1 (by decide) (by decide)) en1_0 rfl ?_
    refine ev_get frX4_106 dX4_isDutySound_67 (dom1 hi0 hi1 (by decide) (by decide)) en1_11 rfl ?_
    refine ev_iload_n (j := 1) dX4_isDutySound_70 rfl rfl ?_
    refine ev_aald (t := 4) (q := ad G 1 i (15 + v1)) (Or.inr rfl) dX4_isDutySound_71 (dom1 hi0 hi1 (by decide) (by decide)) rfl (by decide) s1 s2 (by first | rfl | (show some (ad G _ _ (_ + ((v1 : Int).toNat : Int))) = _; rw [Int.toNat_of_nonneg (by omega)]; first | done | rfl)) ?_
    refine ev_iload_n (j := 2) dX4_isDutySound_72 rfl rfl ?_
    refine ev_iconst dX4_isDutySound_73 ?_
    refine ev_isub dX4_isDutySound_74 ?_
    obtain ⟨s15, s16, h17⟩ := h14
    refine ev_iald dX4_isDutySound_75 (dom1 hi0 hi1 (by omega) (by omega)) (row1_15 (by omega) (by omega)) (by decide) s15 s16 ?_
    refine ev_callVI (As := [iv (M 1 i (15 + v1) v3), iv (M 1 i (15 + v1) (v3 - 1))]) (st := []) mfX4_canFollow mlX4_88 dX4_isDutySound_76 rfl (dom1 hi0 hi1 (by decide) (by decide)) en1_0 rfl rfl rfl (by decide) (by decide) (by decide) (Nat.le_of_ble_eq_true rfl) (fun _ _ z => z.elim) h17 (fun x20 M18 h19 => ?_)
    obtain ⟨s21, h22⟩ := h19
    obtain ⟨h23, h24⟩ := h22
    refine ev_if_ne 84 dX4_isDutySound_79 (by decide) s21 (fun c25 => ?_) (fun c25 => ?_)
    · have h26 := h23 c25
      refine ev_iinc (j := 2) dX4_isDutySound_84 rfl (by decide) rfl ?_
      refine ev_goto 38 dX4_isDutySound_87 (by decide) ?_
      exact ev_sub [1, 2, 0] rfl h26
    · have h27 := h24 c25
      refine ev_iconst dX4_isDutySound_82 ?_
      exact ev_zret dX4_isDutySound_83 (by decide) rfl (by decide) h27
def eX4_isTripAllowed (G : GT) (K : List Value → Mem → Prop) (X : String → Mem → Prop) (pc : Nat) (lv : List (Nat × Value)) (st : List Value) (M : Mem) : Prop := Ex G zX4_isTripAllowed 1 0 K X 0 pc lv st M
set_option maxRecDepth 20000 in
set_option maxHeartbeats 4000000 in
theorem bX4_isTripAllowed {G : GT} {K : List Value → Mem → Prop} {X : String → Mem → Prop} {M : Mem} {i : Int} (hi0 : 0 ≤ i) (hi1 : i < 12) {v1 v2 v3 : Int} (h : I32 v1 ∧ I32 v2 ∧ ((v1 = v2 → K [iv 0] M) ∧ (¬ v1 = v2 → 0 ≤ v1 ∧ v1 < 12 ∧ I32 (M 1 i 4 v1) ∧ (((M 1 i 4 v1) = 0 → K [iv 0] M) ∧ (¬ (M 1 i 4 v1) = 0 → 0 ≤ v2 ∧ v2 < 12 ∧ I32 (M 1 i 4 v2) ∧ (((M 1 i 4 v2) = 0 → K [iv 0] M) ∧ (¬ (M 1 i 4 v2) = 0 → Call G 0 0 zX11_isFromTo [iv v3, iv 0, iv 1439] M (kI (fun x31 M29 => I32 x31 ∧ ((x31 = 0 → K [iv 0] M29) ∧ (¬ x31 = 0 → K [iv 1] M29)))) noX))))))) : Call G 1 0 zX4_isTripAllowed [rr G 1 i 0, iv v1, iv v2, iv v3] M K X := by
  refine call_intro (lv := [(0, rr G 1 i 0), (1, iv v1), (2, iv v2), (3, iv v3)]) (by decide) rfl (Nat.le_of_ble_eq_true rfl) rfl ?_
  refine ev_iload_n (j := 1) dX4_isTripAllowed_0 rfl rfl ?_
  refine ev_iload_n (j := 2) dX4_isTripAllowed_1 rfl rfl ?_
  obtain ⟨s1, s2, h3⟩ := h
  obtain ⟨h4, h5⟩ := h3
  refine ev_icmp_eq 44 dX4_isTripAllowed_2 (by decide) s1 s2 (fun c6 => ?_) (fun c6 => ?_)
  · have h7 := h4 c6
    refine ev_iconst dX4_isTripAllowed_44 ?_
    exact ev_zret dX4_isTripAllowed_45 (by decide) rfl (by decide) h7
  · have h8 := h5 c6
    refine ev_aload_n (j := 0) dX4_isTripAllowed_5 rfl rfl ?_
    refine ev_get frX4_12 dX4_isTripAllowed_6 (dom1 hi0 hi1 (by decide) (by decide)) en1_0 rfl ?_
    refine ev_get frX4_52 dX4_isTripAllowed_9 (dom1 hi0 hi1 (by decide) (by decide)) en1_1 rfl ?_
    refine ev_iload_n (j := 1) dX4_isTripAllowed_12 rfl rfl ?_
    obtain ⟨s9, s10, h11⟩ := h8
    refine ev_zald dX4_isTripAllowed_13 (dom1 hi0 hi1 (by decide) (by decide)) ar1_4 (by decide) s9 s10 ?_
    obtain ⟨s12, h13⟩ := h11
    obtain ⟨h14, h15⟩ := h13
    refine ev_if_eq 44 dX4_isTripAllowed_14 (by decide) s12 (fun c16 => ?_) (fun c16 => ?_)
    · have h17 := h14 c16
      refine ev_iconst dX4_isTripAllowed_44 ?_
      exact ev_zret dX4_isTripAllowed_45 (by decide) rfl (by decide) h17
    · have h18 := h15 c16
      refine ev_aload_n (j := 0) dX4_isTripAllowed_17 rfl rfl ?_
      refine ev_get frX4_12 dX4_isTripAllowed_18 (dom1 hi0 hi1 (by decide) (by decide)) en1_0 rfl ?_
      refine ev_get frX4_52 dX4_isTripAllowed_21 (dom1 hi0 hi1 (by decide) (by decide)) en1_1 rfl ?_
      refine ev_iload_n (j := 2) dX4_isTripAllowed_24 rfl rfl ?_
      obtain ⟨s19, s20, h21⟩ := h18
      refine ev_zald dX4_isTripAllowed_25 (dom1 hi0 hi1 (by decide) (by decide)) ar1_4 (by decide) s19 s20 ?_
      obtain ⟨s22, h23⟩ := h21
      obtain ⟨h24, h25⟩ := h23
      refine ev_if_eq 44 dX4_isTripAllowed_26 (by decide) s22 (fun c26 => ?_) (fun c26 => ?_)
      · have h27 := h24 c26
        refine ev_iconst dX4_isTripAllowed_44 ?_
        exact ev_zret dX4_isTripAllowed_45 (by decide) rfl (by decide) h27
      · have h28 := h25 c26
        refine ev_iload_n (j := 3) dX4_isTripAllowed_29 rfl rfl ?_
        refine ev_iconst dX4_isTripAllowed_30 ?_
        refine ev_sipush dX4_isTripAllowed_31 (by decide) ?_
        refine ev_callSNI "TramLines" (As := [iv v3, iv 0, iv 1439]) (st := []) mfX11_isFromTo mlnX4_56 dX4_isTripAllowed_34 rfl rfl (by decide) (by decide) (by decide) (Nat.le_of_ble_eq_true rfl) h28 (fun x31 M29 h30 => ?_)
        obtain ⟨s32, h33⟩ := h30
        obtain ⟨h34, h35⟩ := h33
        refine ev_if_eq 44 dX4_isTripAllowed_37 (by decide) s32 (fun c36 => ?_) (fun c36 => ?_)
        · have h37 := h34 c36
          refine ev_iconst dX4_isTripAllowed_44 ?_
          exact ev_zret dX4_isTripAllowed_45 (by decide) rfl (by decide) h37
        · have h38 := h35 c36
          refine ev_iconst dX4_isTripAllowed_40 ?_
          refine ev_goto 45 dX4_isTripAllowed_41 (by decide) ?_
          exact ev_zret dX4_isTripAllowed_45 (by decide) rfl (by decide) h38
def eX4_listLeaving (G : GT) (K : List Value → Mem → Prop) (X : String → Mem → Prop) (pc : Nat) (lv : List (Nat × Value)) (st : List Value) (M : Mem) : Prop := Ex G zX4_listLeaving 1 0 K X 0 pc lv st M
set_option maxRecDepth 20000 in
set_option maxHeartbeats 4000000 in
theorem bX4_listLeaving {G : GT} {K : List Value → Mem → Prop} {X : String → Mem → Prop} {M : Mem} {i : Int} (hi0 : 0 ≤ i) (hi1 : i < 12) {q : Int} (hq0 : 0 ≤ q) (hq1 : q < 3) {v1 : Int} (h : Call G 0 0 zX7_clear [rr G 5 q 0] M (kV (fun M1 => eX4_listLeaving G K X 14 [(0, rr G 1 i 0), (1, iv v1), (2, rr G 5 q 0), (3, iv ((M1 1 i 11 3) - 1))] [] M1)) noX) : Call G 1 0 zX4_listLeaving [rr G 1 i 0, iv v1, rr G 5 q 0] M K X := by
  refine call_intro (lv := [(0, rr G 1 i 0), (1, iv v1), (2, rr G 5 q 0)]) (by decide) rfl (Nat.le_of_ble_eq_true rfl) rfl ?_
  refine ev_aload_n (j := 2) dX4_listLeaving_0 rfl rfl ?_
  refine ev_callVV (As := []) (st := []) mfX7_clear mlX4_129 dX4_listLeaving_1 rfl (dom5 hq0 hq1 (by decide) (by decide)) en5_0 rfl rfl rfl (by decide) (by decide) (by decide) (Nat.le_of_ble_eq_true rfl) (fun _ _ z => z.elim) h (fun M1 h2 => ?_)
  refine ev_aload_n (j := 0) dX4_listLeaving_4 rfl rfl ?_
  refine ev_get frX4_28 dX4_listLeaving_5 (dom1 hi0 hi1 (by decide) (by decide)) en1_0 rfl ?_
  refine ev_get frX4_92 dX4_listLeaving_8 (dom1 hi0 hi1 (by decide) (by decide)) en1_11 rfl ?_
  refine ev_iconst dX4_listLeaving_11 ?_
  refine ev_isub dX4_listLeaving_12 ?_
  refine ev_istore_n dX4_listLeaving_13 rfl (by decide) rfl ?_
  exact ev_sub [1, 2, 3, 0] rfl h2
set_option maxRecDepth 20000 in
set_option maxHeartbeats 4000000 in
theorem bX4_listLeaving_14 {G : GT} {K : List Value → Mem → Prop} {X : String → Mem → Prop} {M : Mem} {i : Int} (hi0 : 0 ≤ i) (hi1 : i < 12) {q : Int} (hq0 : 0 ≤ q) (hq1 : q < 3) {v1 v3 : Int} (h : I32 v3 ∧ ((v3 < 0 → K [] M) ∧ (¬ v3 < 0 → Call G 0 0 zX2_firstTripOf [rr G 1 i 11, iv v3] M (kI (fun x10 M8 => 0 ≤ v3 ∧ v3 < 10 ∧ I32 (M8 1 i 12 v3) ∧ I32 v1 ∧ ((¬ (M8 1 i 12 v3) = v1 → eX4_listLeaving G K X 14 [(0, rr G 1 i 0), (1, iv v1), (2, rr G 5 q 0), (3, iv (v3 + (-1)))] [] M8) ∧ ((M8 1 i 12 v3) = v1 → I32 x10 ∧ ((x10 = (-1) → eX4_listLeaving G K X 14 [(0, rr G 1 i 0), (1, iv v1), (2, rr G 5 q 0), (3, iv (v3 + (-1)))] [] M8) ∧ (¬ x10 = (-1) → 0 ≤ x10 ∧ x10 < 30 ∧ Call G 0 0 zX7_put [rr G 5 q 0, iv (M8 1 i 9 x10), iv v3] M8 (kV (fun M32 => eX4_listLeaving G K X 14 [(0, rr G 1 i 0), (1, iv v1), (2, rr G 5 q 0), (3, iv (v3 + (-1)))] [] M32)) noX)))))) noX))) : eX4_listLeaving G K X 14 [(0, rr G 1 i 0), (1, iv v1), (2, rr G 5 q 0), (3, iv v3)] [] M := by
  show Ex G zX4_listLeaving 1 0 K X 0 14 [(0, rr G 1 i 0), (1, iv v1), (2, rr G 5 q 0), (3, iv v3)] [] M
  refine ev_iload_n (j := 3) dX4_listLeaving_14 rfl rfl ?_
  obtain ⟨s1, h2⟩ := h
  obtain ⟨h3, h4⟩ := h2
  refine ev_if_lt 68 dX4_listLeaving_15 (by decide) s1 (fun c5 => ?_) (fun c5 => ?_)
  · have h6 := h3 c5
    exact ev_vret dX4_listLeaving_68 (by decide) rfl h6
  · have h7 := h4 c5
    refine ev_aload_n (j := 0) dX4_listLeaving_18 rfl rfl ?_
    refine ev_get frX4_28 dX4_listLeaving_19 (dom1 hi0 hi1 (by decide) (by decide)) en1_0 rfl ?_
    refine ev_iload_n (j := 3) dX4_listLeaving_22 rfl rfl ?_
    refine ev_callVI (As := [iv v3]) (st := []) mfX2_firstTripOf mlX4_97 dX4_listLeaving_23 rfl (dom1 hi0 hi1 (by decide) (by decide)) en1_11 rfl rfl rfl (by decide) (by decide) (by decide) (Nat.le_of_ble_eq_true rfl) (fun _ _ z => z.elim) h7 (fun x10 M8 h9 => ?_)
    refine ev_istore dX4_listLeaving_26 (by decide) rfl ?_
    refine ev_aload_n (j := 1) dX4_listLeaving_28 rfl rfl ?_
    refine ev_get frX4_28 dX4_listLeaving_29 (dom1 hi0 hi1 (by decide) (by decide)) en1_0 rfl ?_
    refine ev_get frX4_123 dX4_listLeaving_32 (dom1 hi0 hi1 (by decide) (by decide)) en1_11 rfl ?_
    refine ev_iload_n (j := 4) dX4_listLeaving_35 rfl rfl ?_
    obtain ⟨s11, s12, h13⟩ := h9
    refine ev_iald dX4_listLeaving_36 (dom1 hi0 hi1 (by decide) (by decide)) ar1_12 (by decide) s11 s12 ?_
    refine ev_iload_n (j := 2) dX4_listLeaving_37 rfl rfl ?_
    obtain ⟨s14, s15, h16⟩ := h13
    obtain ⟨h17, h18⟩ := h16
    refine ev_icmp_ne 62 dX4_listLeaving_38 (by decide) s14 s15 (fun c19 => ?_) (fun c19 => ?_)
    · have h20 := h17 c19
      refine ev_iinc (j := 4) dX4_listLeaving_62 rfl (by decide) rfl ?_
      refine ev_goto 14 dX4_listLeaving_65 (by decide) ?_
      exact ev_sub [2, 3, 4, 0] rfl h20
    · have h21 := h18 c19
      refine ev_iload (j := 0) dX4_listLeaving_41 rfl ?_
      refine ev_iconst dX4_listLeaving_43 ?_
      obtain ⟨s22, h23⟩ := h21
      obtain ⟨h24, h25⟩ := h23
      refine ev_icmp_eq 62 dX4_listLeaving_44 (by decide) s22 ⟨by decide, by decide⟩ (fun c26 => ?_) (fun c26 => ?_)
      · have h27 := h24 c26
        refine ev_iinc (j := 4) dX4_listLeaving_62 rfl (by decide) rfl ?_
        refine ev_goto 14 dX4_listLeaving_65 (by decide) ?_
        exact ev_sub [2, 3, 4, 0] rfl h27
      · have h28 := h25 c26
        refine ev_aload_n (j := 3) dX4_listLeaving_47 rfl rfl ?_
        refine ev_aload_n (j := 1) dX4_listLeaving_48 rfl rfl ?_
        refine ev_get frX4_21 dX4_listLeaving_49 (dom1 hi0 hi1 (by decide) (by decide)) en1_0 rfl ?_
        refine ev_get frX4_67 dX4_listLeaving_52 (dom1 hi0 hi1 (by decide) (by decide)) en1_6 rfl ?_
        refine ev_iload (j := 0) dX4_listLeaving_55 rfl ?_
        obtain ⟨s29, s30, h31⟩ := h28
        refine ev_iald dX4_listLeaving_57 (dom1 hi0 hi1 (by decide) (by decide)) ar1_9 (by decide) s29 s30 ?_
        refine ev_iload_n (j := 4) dX4_listLeaving_58 rfl rfl ?_
        refine ev_callVV (As := [iv (M8 1 i 9 x10), iv v3]) (st := []) mfX7_put mlX4_134 dX4_listLeaving_59 rfl (dom5 hq0 hq1 (by decide) (by decide)) en5_0 rfl rfl rfl (by decide) (by decide) (by decide) (Nat.le_of_ble_eq_true rfl) (fun _ _ z => z.elim) h31 (fun M32 h33 => ?_)
        refine ev_iinc (j := 4) dX4_listLeaving_62 rfl (by decide) rfl ?_
        refine ev_goto 14 dX4_listLeaving_65 (by decide) ?_
        exact ev_sub [2, 3, 4, 0] rfl h33
def eX4_listPassages (G : GT) (K : List Value → Mem → Prop) (X : String → Mem → Prop) (pc : Nat) (lv : List (Nat × Value)) (st : List Value) (M : Mem) : Prop := Ex G zX4_listPassages 2 0 K X 0 pc lv st M
set_option maxRecDepth 20000 in
set_option maxHeartbeats 4000000 in
theorem bX4_listPassages {G : GT} {K : List Value → Mem → Prop} {X : String → Mem → Prop} {M : Mem} {i : Int} (hi0 : 0 ≤ i) (hi1 : i < 12) {q : Int} (hq0 : 0 ≤ q) (hq1 : q < 3) {v1 v2 : Int} (h : Call G 0 0 zX7_clear [rr G 5 q 0] M (kV (fun M1 => eX4_listPassages G K X 7 [(0, rr G 1 i 0), (1, iv v1), (2, iv v2), (3, rr G 5 q 0), (4, iv 0)] [] M1)) noX) : Call G 2 0 zX4_listPassages [rr G 1 i 0, iv v1, iv v2, rr G 5 q 0] M K X := by
  refine call_intro (lv := [(0, rr G 1 i 0), (1, iv v1), (2, iv v2), (3, rr G 5 q 0)]) (by decide) rfl (Nat.le_of_ble_eq_true rfl) rfl ?_
  refine ev_aload_n (j := 3) dX4_listPassages_0 rfl rfl ?_
  refine ev_callVV (As := []) (st := []) mfX7_clear mlX4_129 dX4_listPassages_1 rfl (dom5 hq0 hq1 (by decide) (by decide)) en5_0 rfl rfl rfl (by decide) (by decide) (by decide) (Nat.le_of_ble_eq_true rfl) (fun _ _ z => z.elim) h (fun M1 h2 => ?_)
  refine ev_iconst dX4_listPassages_4 ?_
  refine ev_istore dX4_listPassages_5 (by decide) rfl ?_
  exact ev_sub [1, 2, 3, 4, 0] rfl h2
set_option maxRecDepth 20000 in
set_option maxHeartbeats 4000000 in
theorem bX4_listPassages_7 {G : GT} {K : List Value → Mem → Prop} {X : String → Mem → Prop} {M : Mem} {i : Int} (hi0 : 0 ≤ i) (hi1 : i < 12) {q : Int} (hq0 : 0 ≤ q) (hq1 : q < 3) {v1 v2 v4 : Int} (h : I32 v4 ∧ I32 (M 1 i 6 4) ∧ ((¬ v4 < (M 1 i 6 4) → K [] M) ∧ (v4 < (M 1 i 6 4) → 0 ≤ v4 ∧ v4 < 30 ∧ I32 (M 1 i 10 v4) ∧ ((¬ (M 1 i 10 v4) = 0 → eX4_listPassages G K X 7 [(0, rr G 1 i 0), (1, iv v1), (2, iv v2), (3, rr G 5 q 0), (4, iv (v4 + 1))] [] M) ∧ ((M 1 i 10 v4) = 0 → Call G 0 0 zX8_directionOf [rr G 1 i 6, iv v4] M (kI (fun x21 M19 => I32 x21 ∧ I32 v1 ∧ ((¬ x21 = v1 → eX4_listPassages G K X 7 [(0, rr G 1 i 0), (1, iv v1), (2, iv v2), (3, rr G 5 q 0), (4, iv (v4 + 1))] [] M19) ∧ (x21 = v1 → Call G 1 0 zX8_isOnWay [rr G 1 i 6, iv v4, iv v2] M19 (kI (fun x32 M30 => I32 x32 ∧ ((x32 = 0 → eX4_listPassages G K X 7 [(0, rr G 1 i 0), (1, iv v1), (2, iv v2), (3, rr G 5 q 0), (4, iv (v4 + 1))] [] M30) ∧ (¬ x32 = 0 → I32 v2 ∧ I32 (M30 1 i 8 v4) ∧ ((v2 = (M30 1 i 8 v4) → eX4_listPassages G K X 7 [(0, rr G 1 i 0), (1, iv v1), (2, iv v2), (3, rr G 5 q 0), (4, iv (v4 + 1))] [] M30) ∧ (¬ v2 = (M30 1 i 8 v4) → Call G 1 0 zX4_timeAt [rr G 1 i 0, iv v4, iv v2] M30 (kI (fun x50 M48 => Call G 0 0 zX7_put [rr G 5 q 0, iv x50, iv v4] M48 (kV (fun M51 => eX4_listPassages G K X 7 [(0, rr G 1 i 0), (1, iv v1), (2, iv v2), (3, rr G 5 q 0), (4, iv (v4 + 1))] [] M51)) noX)) noX)))))) noX)))) noX))))) : eX4_listPassages G K X 7 [(0, rr G 1 i 0), (1, iv v1), (2, iv v2), (3, rr G 5 q 0), (4, iv v4)] [] M := by
  show Ex G zX4_listPassages 2 0 K X 0 7 [(0, rr G 1 i 0), (1, iv v1), (2, iv v2), (3, rr G 5 q 0), (4, iv v4)] [] M
  refine ev_iload (j := 4) dX4_listPassages_7 rfl ?_
  refine ev_aload_n (j := 0) dX4_listPassages_9 rfl rfl ?_
  refine ev_get frX4_21 dX4_listPassages_10 (dom1 hi0 hi1 (by decide) (by decide)) en1_0 rfl ?_
  refine ev_get frX4_81 dX4_listPassages_13 (dom1 hi0 hi1 (by decide) (by decide)) en1_6 rfl ?_
  obtain ⟨s1, s2, h3⟩ := h
  obtain ⟨h4, h5⟩ := h3
  refine ev_icmp_ge 91 dX4_listPassages_16 (by decide) s1 s2 (fun c6 => ?_) (fun c6 => ?_)
  · have h7 := h4 c6
    exact ev_vret dX4_listPassages_91 (by decide) rfl h7
  · have h8 := h5 c6
    refine ev_aload_n (j := 0) dX4_listPassages_19 rfl rfl ?_
    refine ev_get frX4_21 dX4_listPassages_20 (dom1 hi0 hi1 (by decide) (by decide)) en1_0 rfl ?_
    refine ev_get frX4_85 dX4_listPassages_23 (dom1 hi0 hi1 (by decide) (by decide)) en1_6 rfl ?_
    refine ev_iload (j := 4) dX4_listPassages_26 rfl ?_
    obtain ⟨s9, s10, h11⟩ := h8
    refine ev_zald dX4_listPassages_28 (dom1 hi0 hi1 (by decide) (by decide)) ar1_10 (by decide) s9 s10 ?_
    obtain ⟨s12, h13⟩ := h11
    obtain ⟨h14, h15⟩ := h13
    refine ev_if_ne 85 dX4_listPassages_29 (by decide) s12 (fun c16 => ?_) (fun c16 => ?_)
    · have h17 := h14 c16
      refine ev_iinc (j := 4) dX4_listPassages_85 rfl (by decide) rfl ?_
      refine ev_goto 7 dX4_listPassages_88 (by decide) ?_
      exact ev_sub [1, 2, 3, 4, 0] rfl h17
    · have h18 := h15 c16
      refine ev_aload_n (j := 0) dX4_listPassages_32 rfl rfl ?_
      refine ev_get frX4_21 dX4_listPassages_33 (dom1 hi0 hi1 (by decide) (by decide)) en1_0 rfl ?_
      refine ev_iload (j := 4) dX4_listPassages_36 rfl ?_
      refine ev_callVI (As := [iv v4]) (st := []) mfX8_directionOf mlX4_138 dX4_listPassages_38 rfl (dom1 hi0 hi1 (by decide) (by decide)) en1_6 rfl rfl rfl (by decide) (by decide) (by decide) (Nat.le_of_ble_eq_true rfl) (fun _ _ z => z.elim) h18 (fun x21 M19 h20 => ?_)
      refine ev_iload_n (j := 1) dX4_listPassages_41 rfl rfl ?_
      obtain ⟨s22, s23, h24⟩ := h20
      obtain ⟨h25, h26⟩ := h24
      refine ev_icmp_ne 85 dX4_listPassages_42 (by decide) s22 s23 (fun c27 => ?_) (fun c27 => ?_)
      · have h28 := h25 c27
        refine ev_iinc (j := 4) dX4_listPassages_85 rfl (by decide) rfl ?_
        refine ev_goto 7 dX4_listPassages_88 (by decide) ?_
        exact ev_sub [1, 2, 3, 4, 0] rfl h28
      · have h29 := h26 c27
        refine ev_aload_n (j := 0) dX4_listPassages_45 rfl rfl ?_
        refine ev_get frX4_21 dX4_listPassages_46 (dom1 hi0 hi1 (by decide) (by decide)) en1_0 rfl ?_
        refine ev_iload (j := 4) dX4_listPassages_49 rfl ?_
        refine ev_iload_n (j := 2) dX4_listPassages_51 rfl rfl ?_
        refine ev_callVI (As := [iv v4, iv v2]) (st := []) mfX8_isOnWay mlX4_141 dX4_listPassages_52 rfl (dom1 hi0 hi1 (by decide) (by decide)) en1_6 rfl rfl rfl (by decide) (by decide) (by decide) (Nat.le_of_ble_eq_true rfl) (fun _ _ z => z.elim) h29 (fun x32 M30 h31 => ?_)
        obtain ⟨s33, h34⟩ := h31
        obtain ⟨h35, h36⟩ := h34
        refine ev_if_eq 85 dX4_listPassages_55 (by decide) s33 (fun c37 => ?_) (fun c37 => ?_)
        · have h38 := h35 c37
          refine ev_iinc (j := 4) dX4_listPassages_85 rfl (by decide) rfl ?_
          refine ev_goto 7 dX4_listPassages_88 (by decide) ?_
          exact ev_sub [1, 2, 3, 4, 0] rfl h38
        · have h39 := h36 c37
          refine ev_iload_n (j := 2) dX4_listPassages_58 rfl rfl ?_
          refine ev_aload_n (j := 0) dX4_listPassages_59 rfl rfl ?_
          refine ev_get frX4_21 dX4_listPassages_60 (dom1 hi0 hi1 (by decide) (by decide)) en1_0 rfl ?_
          refine ev_get frX4_64 dX4_listPassages_63 (dom1 hi0 hi1 (by decide) (by decide)) en1_6 rfl ?_
          refine ev_iload (j := 4) dX4_listPassages_66 rfl ?_
          refine ev_iald dX4_listPassages_68 (dom1 hi0 hi1 (by decide) (by decide)) ar1_8 (by decide) s9 s10 ?_
          obtain ⟨s40, s41, h42⟩ := h39
          obtain ⟨h43, h44⟩ := h42
          refine ev_icmp_eq 85 dX4_listPassages_69 (by decide) s40 s41 (fun c45 => ?_) (fun c45 => ?_)
          · have h46 := h43 c45
            refine ev_iinc (j := 4) dX4_listPassages_85 rfl (by decide) rfl ?_
            refine ev_goto 7 dX4_listPassages_88 (by decide) ?_
            exact ev_sub [1, 2, 3, 4, 0] rfl h46
          · have h47 := h44 c45
            refine ev_aload_n (j := 3) dX4_listPassages_72 rfl rfl ?_
            refine ev_aload_n (j := 0) dX4_listPassages_73 rfl rfl ?_
            refine ev_iload (j := 4) dX4_listPassages_74 rfl ?_
            refine ev_iload_n (j := 2) dX4_listPassages_76 rfl rfl ?_
            refine ev_callVI (As := [iv v4, iv v2]) (st := [rr G 5 q 0]) mfX4_timeAt mlX4_144 dX4_listPassages_77 rfl (dom1 hi0 hi1 (by decide) (by decide)) en1_0 rfl rfl rfl (by decide) (by decide) (by decide) (Nat.le_of_ble_eq_true rfl) (fun _ _ z => z.elim) h47 (fun x50 M48 h49 => ?_)
            refine ev_iload (j := 4) dX4_listPassages_80 rfl ?_
            refine ev_callVV (As := [iv x50, iv v4]) (st := []) mfX7_put mlX4_134 dX4_listPassages_82 rfl (dom5 hq0 hq1 (by decide) (by decide)) en5_0 rfl rfl rfl (by decide) (by decide) (by decide) (Nat.le_of_ble_eq_true rfl) (fun _ _ z => z.elim) h49 (fun M51 h52 => ?_)
            refine ev_iinc (j := 4) dX4_listPassages_85 rfl (by decide) rfl ?_
            refine ev_goto 7 dX4_listPassages_88 (by decide) ?_
            exact ev_sub [1, 2, 3, 4, 0] rfl h52
def eX4_minutesBetweenTrips (G : GT) (K : List Value → Mem → Prop) (X : String → Mem → Prop) (pc : Nat) (lv : List (Nat × Value)) (st : List Value) (M : Mem) : Prop := Ex G zX4_minutesBetweenTrips 2 0 K X 0 pc lv st M
set_option maxRecDepth 20000 in
set_option maxHeartbeats 4000000 in
theorem bX4_minutesBetweenTrips {G : GT} {K : List Value → Mem → Prop} {X : String → Mem → Prop} {M : Mem} {i : Int} (hi0 : 0 ≤ i) (hi1 : i < 12) {v1 : Int} (h : eX4_minutesBetweenTrips G K X 4 [(0, rr G 1 i 0), (1, iv v1), (2, iv 0), (3, iv 1)] [] M) : Call G 2 0 zX4_minutesBetweenTrips [rr G 1 i 0, iv v1] M K X := by
  refine call_intro (lv := [(0, rr G 1 i 0), (1, iv v1)]) (by decide) rfl (Nat.le_of_ble_eq_true rfl) rfl ?_
  refine ev_iconst dX4_minutesBetweenTrips_0 ?_
  refine ev_istore_n dX4_minutesBetweenTrips_1 rfl (by decide) rfl ?_
  refine ev_iconst dX4_minutesBetweenTrips_2 ?_
  refine ev_istore_n dX4_minutesBetweenTrips_3 rfl (by decide) rfl ?_
  exact ev_sub [2, 3, 1, 0] rfl h
set_option maxRecDepth 20000 in
set_option maxHeartbeats 4000000 in
theorem bX4_minutesBetweenTrips_4 {G : GT} {K : List Value → Mem → Prop} {X : String → Mem → Prop} {M : Mem} {i : Int} (hi0 : 0 ≤ i) (hi1 : i < 12) {v1 v2 v3 : Int} (h : 0 ≤ v1 ∧ v1 < 10 ∧ I32 v3 ∧ I32 (M 1 i 13 v1) ∧ ((¬ v3 < (M 1 i 13 v1) → K [iv v2] M) ∧ (v3 < (M 1 i 13 v1) → 0 ≤ v3 ∧ v3 < 30 ∧ 0 ≤ M 1 i (15 + v1) v3 ∧ M 1 i (15 + v1) v3 < 30 ∧ 0 ≤ v3 - 1 ∧ v3 - 1 < 30 ∧ Call G 1 0 zX4_arrivalOf [rr G 1 i 0, iv (M 1 i (15 + v1) (v3 - 1))] M (kI (fun x23 M21 => eX4_minutesBetweenTrips G K X 4 [(0, rr G 1 i 0), (1, iv v1), (2, iv (v2 + ((M 1 i 9 (M 1 i (15 + v1) v3)) - x23))), (3, iv (v3 + 1))] [] M21)) noX))) : eX4_minutesBetweenTrips G K X 4 [(0, rr G 1 i 0), (1, iv v1), (2, iv v2), (3, iv v3)] [] M := by
  show Ex G zX4_minutesBetweenTrips 2 0 K X 0 4 [(0, rr G 1 i 0), (1, iv v1), (2, iv v2), (3, iv v3)] [] M
  refine ev_iload_n (j := 3) dX4_minutesBetweenTrips_4 rfl rfl ?_
  refine ev_aload_n (j := 0) dX4_minutesBetweenTrips_5 rfl rfl ?_
  refine ev_get frX4_28 dX4_minutesBetweenTrips_6 (dom1 hi0 hi1 (by decide) (by decide)) en1_0 rfl ?_
  refine ev_get frX4_103 dX4_minutesBetweenTrips_9 (dom1 hi0 hi1 (by decide) (by decide)) en1_11 rfl ?_
  refine ev_iload_n (j := 1) dX4_minutesBetweenTrips_12 rfl rfl ?_
  obtain ⟨s1, s2, h3⟩ := h
  refine ev_iald dX4_minutesBetweenTrips_13 (dom1 hi0 hi1 (by decide) (by decide)) ar1_13 (by decide) s1 s2 ?_
  obtain ⟨s4, s5, h6⟩ := h3
  obtain ⟨h7, h8⟩ := h6
  refine ev_icmp_ge 63 dX4_minutesBetweenTrips_14 (by decide) s4 s5 (fun c9 => ?_) (fun c9 => ?_)
  · have h10 := h7 c9
    refine ev_iload_n (j := 2) dX4_minutesBetweenTrips_63 rfl rfl ?_
    exact ev_iret dX4_minutesBetweenTrips_64 (by decide) rfl h10
  · have h11 := h8 c9
    refine ev_iload_n (j := 2) dX4_minutesBetweenTrips_17 rfl rfl ?_
    refine ev_aload_n (j := 0) dX4_minutesBetweenTrips_18 rfl rfl ?_
    refine ev_get frX4_21 dX4_minutesBetweenTrips_19 (dom1 hi0 hi1 (by decide) (by decide)) en1_0 rfl ?_
    refine ev_get frX4_67 dX4_minutesBetweenTrips_22 (dom1 hi0 hi1 (by decide) (by decide)) en1_6 rfl ?_
    refine ev_aload_n (j := 0) dX4_minutesBetweenTrips_25 rfl rfl ?_
    refine ev_get frX4_28 dX4_minutesBetweenTrips_26 (dom1 hi0 hi1 (by decide) (by decide)) en1_0 rfl ?_
    refine ev_get frX4_106 dX4_minutesBetweenTrips_29 (dom1 hi0 hi1 (by decide) (by decide)) en1_11 rfl ?_
    refine ev_iload_n (j := 1) dX4_minutesBetweenTrips_32 rfl rfl ?_
    refine ev_aald (t := 4) (q := ad G 1 i (15 + v1)) (Or.inr rfl) dX4_minutesBetweenTrips_33 (dom1 hi0 hi1 (by decide) (by decide)) rfl (by decide) s1 s2 (by first | rfl | (show some (ad G _ _ (_ + ((v1 : Int).toNat : Int))) = _; rw [Int.toNat_of_nonneg (by omega)]; first | done | rfl)) ?_
    refine ev_iload_n (j := 3) dX4_minutesBetweenTrips_34 rfl rfl ?_
    obtain ⟨s12, s13, h14⟩ := h11
    refine ev_iald dX4_minutesBetweenTrips_35 (dom1 hi0 hi1 (by omega) (by omega)) (row1_15 (by omega) (by omega)) (by decide) s12 s13 ?_
    obtain ⟨s15, s16, h17⟩ := h14
    refine ev_iald dX4_minutesBetweenTrips_36 (dom1 hi0 hi1 (by decide) (by decide)) ar1_9 (by decide) s15 s16 ?_
    refine ev_aload_n (j := 0) dX4_minutesBetweenTrips_37 rfl rfl ?_
    refine ev_aload_n (j := 0) dX4_minutesBetweenTrips_38 rfl rfl ?_
    refine ev_get frX4_28 dX4_minutesBetweenTrips_39 (dom1 hi0 hi1 (by decide) (by decide)) en1_0 rfl ?_
    refine ev_get frX4_106 dX4_minutesBetweenTrips_42 (dom1 hi0 hi1 (by decide) (by decide)) en1_11 rfl ?_
    refine ev_iload_n (j := 1) dX4_minutesBetweenTrips_45 rfl rfl ?_
    refine ev_aald (t := 4) (q := ad G 1 i (15 + v1)) (Or.inr rfl) dX4_minutesBetweenTrips_46 (dom1 hi0 hi1 (by decide) (by decide)) rfl (by decide) s1 s2 (by first | rfl | (show some (ad G _ _ (_ + ((v1 : Int).toNat : Int))) = _; rw [Int.toNat_of_nonneg (by omega)]; first | done | rfl)) ?_
    refine ev_iload_n (j := 3) dX4_minutesBetweenTrips_47 rfl rfl ?_
    refine ev_iconst dX4_minutesBetweenTrips_48 ?_
    refine ev_isub dX4_minutesBetweenTrips_49 ?_
    obtain ⟨s18, s19, h20⟩ := h17
    refine ev_iald dX4_minutesBetweenTrips_50 (dom1 hi0 hi1 (by omega) (by omega)) (row1_15 (by omega) (by omega)) (by decide) s18 s19 ?_
    refine ev_callVI (As := [iv (M 1 i (15 + v1) (v3 - 1))]) (st := [iv (M 1 i 9 (M 1 i (15 + v1) v3)), iv v2]) mfX4_arrivalOf mlX4_74 dX4_minutesBetweenTrips_51 rfl (dom1 hi0 hi1 (by decide) (by decide)) en1_0 rfl rfl rfl (by decide) (by decide) (by decide) (Nat.le_of_ble_eq_true rfl) (fun _ _ z => z.elim) h20 (fun x23 M21 h22 => ?_)
    refine ev_isub dX4_minutesBetweenTrips_54 ?_
    refine ev_iadd dX4_minutesBetweenTrips_55 ?_
    refine ev_istore_n dX4_minutesBetweenTrips_56 rfl (by decide) rfl ?_
    refine ev_iinc (j := 3) dX4_minutesBetweenTrips_57 rfl (by decide) rfl ?_
    refine ev_goto 4 dX4_minutesBetweenTrips_60 (by decide) ?_
    exact ev_sub [2, 3, 1, 0] rfl h22
def eX4_minutesOfTrips (G : GT) (K : List Value → Mem → Prop) (X : String → Mem → Prop) (pc : Nat) (lv : List (Nat × Value)) (st : List Value) (M : Mem) : Prop := Ex G zX4_minutesOfTrips 2 0 K X 0 pc lv st M
set_option maxRecDepth 20000 in
set_option maxHeartbeats 4000000 in
theorem bX4_minutesOfTrips {G : GT} {K : List Value → Mem → Prop} {X : String → Mem → Prop} {M : Mem} {i : Int} (hi0 : 0 ≤ i) (hi1 : i < 12) {v1 : Int} (h : eX4_minutesOfTrips G K X 4 [(0, rr G 1 i 0), (1, iv v1), (2, iv 0), (3, iv 0)] [] M) : Call G 2 0 zX4_minutesOfTrips [rr G 1 i 0, iv v1] M K X := by
  refine call_intro (lv := [(0, rr G 1 i 0), (1, iv v1)]) (by decide) rfl (Nat.le_of_ble_eq_true rfl) rfl ?_
  refine ev_iconst dX4_minutesOfTrips_0 ?_
  refine ev_istore_n dX4_minutesOfTrips_1 rfl (by decide) rfl ?_
  refine ev_iconst dX4_minutesOfTrips_2 ?_
  refine ev_istore_n dX4_minutesOfTrips_3 rfl (by decide) rfl ?_
  exact ev_sub [2, 3, 1, 0] rfl h
set_option maxRecDepth 20000 in
set_option maxHeartbeats 4000000 in
theorem bX4_minutesOfTrips_4 {G : GT} {K : List Value → Mem → Prop} {X : String → Mem → Prop} {M : Mem} {i : Int} (hi0 : 0 ≤ i) (hi1 : i < 12) {v1 v2 v3 : Int} (h : 0 ≤ v1 ∧ v1 < 10 ∧ I32 v3 ∧ I32 (M 1 i 13 v1) ∧ ((¬ v3 < (M 1 i 13 v1) → K [iv v2] M) ∧ (v3 < (M 1 i 13 v1) → 0 ≤ v3 ∧ v3 < 30 ∧ Call G 1 0 zX4_arrivalOf [rr G 1 i 0, iv (M 1 i (15 + v1) v3)] M (kI (fun x17 M15 => 0 ≤ M 1 i (15 + v1) v3 ∧ M 1 i (15 + v1) v3 < 30 ∧ eX4_minutesOfTrips G K X 4 [(0, rr G 1 i 0), (1, iv v1), (2, iv (v2 + (x17 - (M15 1 i 9 (M 1 i (15 + v1) v3))))), (3, iv (v3 + 1))] [] M15)) noX))) : eX4_minutesOfTrips G K X 4 [(0, rr G 1 i 0), (1, iv v1), (2, iv v2), (3, iv v3)] [] M := by
  show Ex G zX4_minutesOfTrips 2 0 K X 0 4 [(0, rr G 1 i 0), (1, iv v1), (2, iv v2), (3, iv v3)] [] M
  refine ev_iload_n (j := 3) dX4_minutesOfTrips_4 rfl rfl ?_
  refine ev_aload_n (j := 0) dX4_minutesOfTrips_5 rfl rfl ?_
  refine ev_get frX4_28 dX4_minutesOfTrips_6 (dom1 hi0 hi1 (by decide) (by decide)) en1_0 rfl ?_
  refine ev_get frX4_103 dX4_minutesOfTrips_9 (dom1 hi0 hi1 (by decide) (by decide)) en1_11 rfl ?_
  refine ev_iload_n (j := 1) dX4_minutesOfTrips_12 rfl rfl ?_
  obtain ⟨s1, s2, h3⟩ := h
  refine ev_iald dX4_minutesOfTrips_13 (dom1 hi0 hi1 (by decide) (by decide)) ar1_13 (by decide) s1 s2 ?_
  obtain ⟨s4, s5, h6⟩ := h3
  obtain ⟨h7, h8⟩ := h6
  refine ev_icmp_ge 56 dX4_minutesOfTrips_14 (by decide) s4 s5 (fun c9 => ?_) (fun c9 => ?_)
  · have h10 := h7 c9
    refine ev_iload_n (j := 2) dX4_minutesOfTrips_56 rfl rfl ?_
    exact ev_iret dX4_minutesOfTrips_57 (by decide) rfl h10
  · have h11 := h8 c9
    refine ev_aload_n (j := 0) dX4_minutesOfTrips_17 rfl rfl ?_
    refine ev_get frX4_28 dX4_minutesOfTrips_18 (dom1 hi0 hi1 (by decide) (by decide)) en1_0 rfl ?_
    refine ev_get frX4_106 dX4_minutesOfTrips_21 (dom1 hi0 hi1 (by decide) (by decide)) en1_11 rfl ?_
    refine ev_iload_n (j := 1) dX4_minutesOfTrips_24 rfl rfl ?_
    refine ev_aald (t := 4) (q := ad G 1 i (15 + v1)) (Or.inr rfl) dX4_minutesOfTrips_25 (dom1 hi0 hi1 (by decide) (by decide)) rfl (by decide) s1 s2 (by first | rfl | (show some (ad G _ _ (_ + ((v1 : Int).toNat : Int))) = _; rw [Int.toNat_of_nonneg (by omega)]; first | done | rfl)) ?_
    refine ev_iload_n (j := 3) dX4_minutesOfTrips_26 rfl rfl ?_
    obtain ⟨s12, s13, h14⟩ := h11
    refine ev_iald dX4_minutesOfTrips_27 (dom1 hi0 hi1 (by omega) (by omega)) (row1_15 (by omega) (by omega)) (by decide) s12 s13 ?_
    refine ev_istore dX4_minutesOfTrips_28 (by decide) rfl ?_
    refine ev_iload_n (j := 3) dX4_minutesOfTrips_30 rfl rfl ?_
    refine ev_aload_n (j := 1) dX4_minutesOfTrips_31 rfl rfl ?_
    refine ev_iload (j := 0) dX4_minutesOfTrips_32 rfl ?_
    refine ev_callVI (As := [iv (M 1 i (15 + v1) v3)]) (st := [iv v2]) mfX4_arrivalOf mlX4_74 dX4_minutesOfTrips_34 rfl (dom1 hi0 hi1 (by decide) (by decide)) en1_0 rfl rfl rfl (by decide) (by decide) (by decide) (Nat.le_of_ble_eq_true rfl) (fun _ _ z => z.elim) h14 (fun x17 M15 h16 => ?_)
    refine ev_aload_n (j := 1) dX4_minutesOfTrips_37 rfl rfl ?_
    refine ev_get frX4_21 dX4_minutesOfTrips_38 (dom1 hi0 hi1 (by decide) (by decide)) en1_0 rfl ?_
    refine ev_get frX4_67 dX4_minutesOfTrips_41 (dom1 hi0 hi1 (by decide) (by decide)) en1_6 rfl ?_
    refine ev_iload (j := 0) dX4_minutesOfTrips_44 rfl ?_
    obtain ⟨s18, s19, h20⟩ := h16
    refine ev_iald dX4_minutesOfTrips_46 (dom1 hi0 hi1 (by decide) (by decide)) ar1_9 (by decide) s18 s19 ?_
    refine ev_isub dX4_minutesOfTrips_47 ?_
    refine ev_iadd dX4_minutesOfTrips_48 ?_
    refine ev_istore_n dX4_minutesOfTrips_49 rfl (by decide) rfl ?_
    refine ev_iinc (j := 4) dX4_minutesOfTrips_50 rfl (by decide) rfl ?_
    refine ev_goto 4 dX4_minutesOfTrips_53 (by decide) ?_
    exact ev_sub [3, 4, 1, 0] rfl h20
def eX4_positionFor (G : GT) (K : List Value → Mem → Prop) (X : String → Mem → Prop) (pc : Nat) (lv : List (Nat × Value)) (st : List Value) (M : Mem) : Prop := Ex G zX4_positionFor 1 0 K X 0 pc lv st M
set_option maxRecDepth 20000 in
set_option maxHeartbeats 4000000 in
theorem bX4_positionFor {G : GT} {K : List Value → Mem → Prop} {X : String → Mem → Prop} {M : Mem} {i : Int} (hi0 : 0 ≤ i) (hi1 : i < 12) {v1 v2 : Int} (h : 0 ≤ v1 ∧ v1 < 30 ∧ Call G 0 0 zX4_tripsBefore [rr G 1 i 0, iv (M 1 i 9 v1), iv v2] M (kI (fun x6 M4 => K [iv x6] M4)) noX) : Call G 1 0 zX4_positionFor [rr G 1 i 0, iv v1, iv v2] M K X := by
  refine call_intro (lv := [(0, rr G 1 i 0), (1, iv v1), (2, iv v2)]) (by decide) rfl (Nat.le_of_ble_eq_true rfl) rfl ?_
  refine ev_aload_n (j := 0) dX4_positionFor_0 rfl rfl ?_
  refine ev_aload_n (j := 0) dX4_positionFor_1 rfl rfl ?_
  refine ev_get frX4_21 dX4_positionFor_2 (dom1 hi0 hi1 (by decide) (by decide)) en1_0 rfl ?_
  refine ev_get frX4_67 dX4_positionFor_5 (dom1 hi0 hi1 (by decide) (by decide)) en1_6 rfl ?_
  refine ev_iload_n (j := 1) dX4_positionFor_8 rfl rfl ?_
  obtain ⟨s1, s2, h3⟩ := h
  refine ev_iald dX4_positionFor_9 (dom1 hi0 hi1 (by decide) (by decide)) ar1_9 (by decide) s1 s2 ?_
  refine ev_iload_n (j := 2) dX4_positionFor_10 rfl rfl ?_
  refine ev_callVI (As := [iv (M 1 i 9 v1), iv v2]) (st := []) mfX4_tripsBefore mlX4_110 dX4_positionFor_11 rfl (dom1 hi0 hi1 (by decide) (by decide)) en1_0 rfl rfl rfl (by decide) (by decide) (by decide) (Nat.le_of_ble_eq_true rfl) (fun _ _ z => z.elim) h3 (fun x6 M4 h5 => ?_)
  exact ev_iret dX4_positionFor_14 (by decide) rfl h5
def eX4_reasonAgainst (G : GT) (K : List Value → Mem → Prop) (X : String → Mem → Prop) (pc : Nat) (lv : List (Nat × Value)) (st : List Value) (M : Mem) : Prop := Ex G zX4_reasonAgainst 4 0 K X 0 pc lv st M
set_option maxRecDepth 20000 in
set_option maxHeartbeats 4000000 in
theorem bX4_reasonAgainst {G : GT} {K : List Value → Mem → Prop} {X : String → Mem → Prop} {M : Mem} {i : Int} (hi0 : 0 ≤ i) (hi1 : i < 12) {v1 v2 : Int} (h : 0 ≤ v1 ∧ v1 < 30 ∧ I32 (M 1 i 10 v1) ∧ (((M 1 i 10 v1) = 0 → Call G 1 0 zX2_vehicleOf [rr G 1 i 11, iv v1] M (kI (fun x12 M10 => I32 x12 ∧ ((x12 = (-1) → Call G 3 0 zX4_reasonInDuty [rr G 1 i 0, iv v1, iv v1, iv v2] M10 (kI (fun x21 M19 => K [iv x21] M19)) noX) ∧ (¬ x12 = (-1) → K [iv 2] M10)))) noX) ∧ (¬ (M 1 i 10 v1) = 0 → K [iv 1] M))) : Call G 4 0 zX4_reasonAgainst [rr G 1 i 0, iv v1, iv v2] M K X := by
  refine call_intro (lv := [(0, rr G 1 i 0), (1, iv v1), (2, iv v2)]) (by decide) rfl (Nat.le_of_ble_eq_true rfl) rfl ?_
  refine ev_aload_n (j := 0) dX4_reasonAgainst_0 rfl rfl ?_
  refine ev_get frX4_21 dX4_reasonAgainst_1 (dom1 hi0 hi1 (by decide) (by decide)) en1_0 rfl ?_
  refine ev_get frX4_85 dX4_reasonAgainst_4 (dom1 hi0 hi1 (by decide) (by decide)) en1_6 rfl ?_
  refine ev_iload_n (j := 1) dX4_reasonAgainst_7 rfl rfl ?_
  obtain ⟨s1, s2, h3⟩ := h
  refine ev_zald dX4_reasonAgainst_8 (dom1 hi0 hi1 (by decide) (by decide)) ar1_10 (by decide) s1 s2 ?_
  obtain ⟨s4, h5⟩ := h3
  obtain ⟨h6, h7⟩ := h5
  refine ev_if_eq 14 dX4_reasonAgainst_9 (by decide) s4 (fun c8 => ?_) (fun c8 => ?_)
  · have h9 := h6 c8
    refine ev_aload_n (j := 0) dX4_reasonAgainst_14 rfl rfl ?_
    refine ev_get frX4_28 dX4_reasonAgainst_15 (dom1 hi0 hi1 (by decide) (by decide)) en1_0 rfl ?_
    refine ev_iload_n (j := 1) dX4_reasonAgainst_18 rfl rfl ?_
    refine ev_callVI (As := [iv v1]) (st := []) mfX2_vehicleOf mlX4_113 dX4_reasonAgainst_19 rfl (dom1 hi0 hi1 (by decide) (by decide)) en1_11 rfl rfl rfl (by decide) (by decide) (by decide) (Nat.le_of_ble_eq_true rfl) (fun _ _ z => z.elim) h9 (fun x12 M10 h11 => ?_)
    refine ev_iconst dX4_reasonAgainst_22 ?_
    obtain ⟨s13, h14⟩ := h11
    obtain ⟨h15, h16⟩ := h14
    refine ev_icmp_eq 28 dX4_reasonAgainst_23 (by decide) s13 ⟨by decide, by decide⟩ (fun c17 => ?_) (fun c17 => ?_)
    · have h18 := h15 c17
      refine ev_aload_n (j := 0) dX4_reasonAgainst_28 rfl rfl ?_
      refine ev_iload_n (j := 1) dX4_reasonAgainst_29 rfl rfl ?_
      refine ev_iload_n (j := 1) dX4_reasonAgainst_30 rfl rfl ?_
      refine ev_iload_n (j := 2) dX4_reasonAgainst_31 rfl rfl ?_
      refine ev_callVI (As := [iv v1, iv v1, iv v2]) (st := []) mfX4_reasonInDuty mlX4_116 dX4_reasonAgainst_32 rfl (dom1 hi0 hi1 (by decide) (by decide)) en1_0 rfl rfl rfl (by decide) (by decide) (by decide) (Nat.le_of_ble_eq_true rfl) (fun _ _ z => z.elim) h18 (fun x21 M19 h20 => ?_)
      exact ev_iret dX4_reasonAgainst_35 (by decide) rfl h20
    · have h22 := h16 c17
      refine ev_iconst dX4_reasonAgainst_26 ?_
      exact ev_iret dX4_reasonAgainst_27 (by decide) rfl h22
  · have h23 := h7 c8
    refine ev_iconst dX4_reasonAgainst_12 ?_
    exact ev_iret dX4_reasonAgainst_13 (by decide) rfl h23
def eX4_reasonAgainstRound (G : GT) (K : List Value → Mem → Prop) (X : String → Mem → Prop) (pc : Nat) (lv : List (Nat × Value)) (st : List Value) (M : Mem) : Prop := Ex G zX4_reasonAgainstRound 4 0 K X 0 pc lv st M
set_option maxRecDepth 20000 in
set_option maxHeartbeats 4000000 in
theorem bX4_reasonAgainstRound {G : GT} {K : List Value → Mem → Prop} {X : String → Mem → Prop} {M : Mem} {i : Int} (hi0 : 0 ≤ i) (hi1 : i < 12) {v1 v2 v3 : Int} (h : 0 ≤ v1 ∧ v1 < 30 ∧ I32 (M 1 i 10 v1) ∧ ((¬ (M 1 i 10 v1) = 0 → K [iv 1] M) ∧ ((M 1 i 10 v1) = 0 → 0 ≤ v2 ∧ v2 < 30 ∧ I32 (M 1 i 10 v2) ∧ ((¬ (M 1 i 10 v2) = 0 → K [iv 1] M) ∧ ((M 1 i 10 v2) = 0 → I32 v1 ∧ I32 v2 ∧ ((¬ v1 = v2 → Call G 1 0 zX2_vehicleOf [rr G 1 i 11, iv v1] M (kI (fun x30 M28 => I32 x30 ∧ ((¬ x30 = (-1) → K [iv 2] M28) ∧ (x30 = (-1) → Call G 1 0 zX2_vehicleOf [rr G 1 i 11, iv v2] M28 (kI (fun x40 M38 => I32 x40 ∧ ((x40 = (-1) → Call G 2 0 zX4_canFollow [rr G 1 i 0, iv v2, iv v1] M38 (kI (fun x49 M47 => I32 x49 ∧ ((¬ x49 = 0 → Call G 3 0 zX4_reasonInDuty [rr G 1 i 0, iv v1, iv v2, iv v3] M47 (kI (fun x58 M56 => K [iv x58] M56)) noX) ∧ (x49 = 0 → K [iv 7] M47)))) noX) ∧ (¬ x40 = (-1) → K [iv 2] M38)))) noX)))) noX) ∧ (v1 = v2 → K [iv 1] M))))))) : Call G 4 0 zX4_reasonAgainstRound [rr G 1 i 0, iv v1, iv v2, iv v3] M K X := by
  refine call_intro (lv := [(0, rr G 1 i 0), (1, iv v1), (2, iv v2), (3, iv v3)]) (by decide) rfl (Nat.le_of_ble_eq_true rfl) rfl ?_
  refine ev_aload_n (j := 0) dX4_reasonAgainstRound_0 rfl rfl ?_
  refine ev_get frX4_21 dX4_reasonAgainstRound_1 (dom1 hi0 hi1 (by decide) (by decide)) en1_0 rfl ?_
  refine ev_get frX4_85 dX4_reasonAgainstRound_4 (dom1 hi0 hi1 (by decide) (by decide)) en1_6 rfl ?_
  refine ev_iload_n (j := 1) dX4_reasonAgainstRound_7 rfl rfl ?_
  obtain ⟨s1, s2, h3⟩ := h
  refine ev_zald dX4_reasonAgainstRound_8 (dom1 hi0 hi1 (by decide) (by decide)) ar1_10 (by decide) s1 s2 ?_
  obtain ⟨s4, h5⟩ := h3
  obtain ⟨h6, h7⟩ := h5
  refine ev_if_ne 29 dX4_reasonAgainstRound_9 (by decide) s4 (fun c8 => ?_) (fun c8 => ?_)
  · have h9 := h6 c8
    refine ev_iconst dX4_reasonAgainstRound_29 ?_
    exact ev_iret dX4_reasonAgainstRound_30 (by decide) rfl h9
  · have h10 := h7 c8
    refine ev_aload_n (j := 0) dX4_reasonAgainstRound_12 rfl rfl ?_
    refine ev_get frX4_21 dX4_reasonAgainstRound_13 (dom1 hi0 hi1 (by decide) (by decide)) en1_0 rfl ?_
    refine ev_get frX4_85 dX4_reasonAgainstRound_16 (dom1 hi0 hi1 (by decide) (by decide)) en1_6 rfl ?_
    refine ev_iload_n (j := 2) dX4_reasonAgainstRound_19 rfl rfl ?_
    obtain ⟨s11, s12, h13⟩ := h10
    refine ev_zald dX4_reasonAgainstRound_20 (dom1 hi0 hi1 (by decide) (by decide)) ar1_10 (by decide) s11 s12 ?_
    obtain ⟨s14, h15⟩ := h13
    obtain ⟨h16, h17⟩ := h15
    refine ev_if_ne 29 dX4_reasonAgainstRound_21 (by decide) s14 (fun c18 => ?_) (fun c18 => ?_)
    · have h19 := h16 c18
      refine ev_iconst dX4_reasonAgainstRound_29 ?_
      exact ev_iret dX4_reasonAgainstRound_30 (by decide) rfl h19
    · have h20 := h17 c18
      refine ev_iload_n (j := 1) dX4_reasonAgainstRound_24 rfl rfl ?_
      refine ev_iload_n (j := 2) dX4_reasonAgainstRound_25 rfl rfl ?_
      obtain ⟨s21, s22, h23⟩ := h20
      obtain ⟨h24, h25⟩ := h23
      refine ev_icmp_ne 31 dX4_reasonAgainstRound_26 (by decide) s21 s22 (fun c26 => ?_) (fun c26 => ?_)
      · have h27 := h24 c26
        refine ev_aload_n (j := 0) dX4_reasonAgainstRound_31 rfl rfl ?_
        refine ev_get frX4_28 dX4_reasonAgainstRound_32 (dom1 hi0 hi1 (by decide) (by decide)) en1_0 rfl ?_
        refine ev_iload_n (j := 1) dX4_reasonAgainstRound_35 rfl rfl ?_
        refine ev_callVI (As := [iv v1]) (st := []) mfX2_vehicleOf mlX4_113 dX4_reasonAgainstRound_36 rfl (dom1 hi0 hi1 (by decide) (by decide)) en1_11 rfl rfl rfl (by decide) (by decide) (by decide) (Nat.le_of_ble_eq_true rfl) (fun _ _ z => z.elim) h27 (fun x30 M28 h29 => ?_)
        refine ev_iconst dX4_reasonAgainstRound_39 ?_
        obtain ⟨s31, h32⟩ := h29
        obtain ⟨h33, h34⟩ := h32
        refine ev_icmp_ne 55 dX4_reasonAgainstRound_40 (by decide) s31 ⟨by decide, by decide⟩ (fun c35 => ?_) (fun c35 => ?_)
        · have h36 := h33 c35
          refine ev_iconst dX4_reasonAgainstRound_55 ?_
          exact ev_iret dX4_reasonAgainstRound_56 (by decide) rfl h36
        · have h37 := h34 c35
          refine ev_aload_n (j := 0) dX4_reasonAgainstRound_43 rfl rfl ?_
          refine ev_get frX4_28 dX4_reasonAgainstRound_44 (dom1 hi0 hi1 (by decide) (by decide)) en1_0 rfl ?_
          refine ev_iload_n (j := 2) dX4_reasonAgainstRound_47 rfl rfl ?_
          refine ev_callVI (As := [iv v2]) (st := []) mfX2_vehicleOf mlX4_113 dX4_reasonAgainstRound_48 rfl (dom1 hi0 hi1 (by decide) (by decide)) en1_11 rfl rfl rfl (by decide) (by decide) (by decide) (Nat.le_of_ble_eq_true rfl) (fun _ _ z => z.elim) h37 (fun x40 M38 h39 => ?_)
          refine ev_iconst dX4_reasonAgainstRound_51 ?_
          obtain ⟨s41, h42⟩ := h39
          obtain ⟨h43, h44⟩ := h42
          refine ev_icmp_eq 57 dX4_reasonAgainstRound_52 (by decide) s41 ⟨by decide, by decide⟩ (fun c45 => ?_) (fun c45 => ?_)
          · have h46 := h43 c45
            refine ev_aload_n (j := 0) dX4_reasonAgainstRound_57 rfl rfl ?_
            refine ev_iload_n (j := 2) dX4_reasonAgainstRound_58 rfl rfl ?_
            refine ev_iload_n (j := 1) dX4_reasonAgainstRound_59 rfl rfl ?_
            refine ev_callVI (As := [iv v2, iv v1]) (st := []) mfX4_canFollow mlX4_88 dX4_reasonAgainstRound_60 rfl (dom1 hi0 hi1 (by decide) (by decide)) en1_0 rfl rfl rfl (by decide) (by decide) (by decide) (Nat.le_of_ble_eq_true rfl) (fun _ _ z => z.elim) h46 (fun x49 M47 h48 => ?_)
            obtain ⟨s50, h51⟩ := h48
            obtain ⟨h52, h53⟩ := h51
            refine ev_if_ne 69 dX4_reasonAgainstRound_63 (by decide) s50 (fun c54 => ?_) (fun c54 => ?_)
            · have h55 := h52 c54
              refine ev_aload_n (j := 0) dX4_reasonAgainstRound_69 rfl rfl ?_
              refine ev_iload_n (j := 1) dX4_reasonAgainstRound_70 rfl rfl ?_
              refine ev_iload_n (j := 2) dX4_reasonAgainstRound_71 rfl rfl ?_
              refine ev_iload_n (j := 3) dX4_reasonAgainstRound_72 rfl rfl ?_
              refine ev_callVI (As := [iv v1, iv v2, iv v3]) (st := []) mfX4_reasonInDuty mlX4_116 dX4_reasonAgainstRound_73 rfl (dom1 hi0 hi1 (by decide) (by decide)) en1_0 rfl rfl rfl (by decide) (by decide) (by decide) (Nat.le_of_ble_eq_true rfl) (fun _ _ z => z.elim) h55 (fun x58 M56 h57 => ?_)
              exact ev_iret dX4_reasonAgainstRound_76 (by decide) rfl h57
            · have h59 := h53 c54
              refine ev_bipush dX4_reasonAgainstRound_66 (by decide) ?_
              exact ev_iret dX4_reasonAgainstRound_68 (by decide) rfl h59
          · have h60 := h44 c45
            refine ev_iconst dX4_reasonAgainstRound_55 ?_
            exact ev_iret dX4_reasonAgainstRound_56 (by decide) rfl h60
      · have h61 := h25 c26
        refine ev_iconst dX4_reasonAgainstRound_29 ?_
        exact ev_iret dX4_reasonAgainstRound_30 (by decide) rfl h61
def eX4_reasonInDuty (G : GT) (K : List Value → Mem → Prop) (X : String → Mem → Prop) (pc : Nat) (lv : List (Nat × Value)) (st : List Value) (M : Mem) : Prop := Ex G zX4_reasonInDuty 3 0 K X 0 pc lv st M
set_option maxRecDepth 20000 in
set_option maxHeartbeats 4000000 in
theorem bX4_reasonInDuty {G : GT} {K : List Value → Mem → Prop} {X : String → Mem → Prop} {M : Mem} {i : Int} (hi0 : 0 ≤ i) (hi1 : i < 12) {v1 v2 v3 : Int} (h : Call G 1 0 zX4_positionFor [rr G 1 i 0, iv v1, iv v3] M (kI (fun x3 M1 => I32 x3 ∧ ((¬ 0 < x3 → eX4_reasonInDuty G K X 31 [(0, rr G 1 i 0), (1, iv v1), (2, iv v2), (3, iv v3), (4, iv x3)] [iv (-1)] M1) ∧ (0 < x3 → 0 ≤ v3 ∧ v3 < 10 ∧ 0 ≤ x3 - 1 ∧ x3 - 1 < 30 ∧ eX4_reasonInDuty G K X 31 [(0, rr G 1 i 0), (1, iv v1), (2, iv v2), (3, iv v3), (4, iv x3)] [iv (M1 1 i (15 + v3) (x3 - 1))] M1)))) noX) : Call G 3 0 zX4_reasonInDuty [rr G 1 i 0, iv v1, iv v2, iv v3] M K X := by
  refine call_intro (lv := [(0, rr G 1 i 0), (1, iv v1), (2, iv v2), (3, iv v3)]) (by decide) rfl (Nat.le_of_ble_eq_true rfl) rfl ?_
  refine ev_aload_n (j := 0) dX4_reasonInDuty_0 rfl rfl ?_
  refine ev_iload_n (j := 1) dX4_reasonInDuty_1 rfl rfl ?_
  refine ev_iload_n (j := 3) dX4_reasonInDuty_2 rfl rfl ?_
  refine ev_callVI (As := [iv v1, iv v3]) (st := []) mfX4_positionFor mlX4_120 dX4_reasonInDuty_3 rfl (dom1 hi0 hi1 (by decide) (by decide)) en1_0 rfl rfl rfl (by decide) (by decide) (by decide) (Nat.le_of_ble_eq_true rfl) (fun _ _ z => z.elim) h (fun x3 M1 h2 => ?_)
  refine ev_istore dX4_reasonInDuty_6 (by decide) rfl ?_
  refine ev_iload (j := 0) dX4_reasonInDuty_8 rfl ?_
  obtain ⟨s4, h5⟩ := h2
  obtain ⟨h6, h7⟩ := h5
  refine ev_if_le 30 dX4_reasonInDuty_10 (by decide) s4 (fun c8 => ?_) (fun c8 => ?_)
  · have h9 := h6 c8
    refine ev_iconst dX4_reasonInDuty_30 ?_
    exact ev_sub [1, 2, 3, 4, 0] rfl h9
  · have h10 := h7 c8
    refine ev_aload_n (j := 1) dX4_reasonInDuty_13 rfl rfl ?_
    refine ev_get frX4_28 dX4_reasonInDuty_14 (dom1 hi0 hi1 (by decide) (by decide)) en1_0 rfl ?_
    refine ev_get frX4_106 dX4_reasonInDuty_17 (dom1 hi0 hi1 (by decide) (by decide)) en1_11 rfl ?_
    refine ev_iload_n (j := 4) dX4_reasonInDuty_20 rfl rfl ?_
    obtain ⟨s11, s12, h13⟩ := h10
    refine ev_aald (t := 4) (q := ad G 1 i (15 + v3)) (Or.inr rfl) dX4_reasonInDuty_21 (dom1 hi0 hi1 (by decide) (by decide)) rfl (by decide) s11 s12 (by first | rfl | (show some (ad G _ _ (_ + ((v3 : Int).toNat : Int))) = _; rw [Int.toNat_of_nonneg (by omega)]; first | done | rfl)) ?_
    refine ev_iload (j := 0) dX4_reasonInDuty_22 rfl ?_
    refine ev_iconst dX4_reasonInDuty_24 ?_
    refine ev_isub dX4_reasonInDuty_25 ?_
    obtain ⟨s14, s15, h16⟩ := h13
    refine ev_iald dX4_reasonInDuty_26 (dom1 hi0 hi1 (by omega) (by omega)) (row1_15 (by omega) (by omega)) (by decide) s14 s15 ?_
    refine ev_goto 31 dX4_reasonInDuty_27 (by decide) ?_
    exact ev_sub [1, 2, 3, 4, 0] rfl h16
set_option maxRecDepth 20000 in
set_option maxHeartbeats 4000000 in
theorem bX4_reasonInDuty_31 {G : GT} {K : List Value → Mem → Prop} {X : String → Mem → Prop} {M : Mem} {i : Int} (hi0 : 0 ≤ i) (hi1 : i < 12) {v1 v2 v3 v4 w0 : Int} (h : 0 ≤ v3 ∧ v3 < 10 ∧ I32 v4 ∧ I32 (M 1 i 13 v3) ∧ ((¬ v4 < (M 1 i 13 v3) → eX4_reasonInDuty G K X 63 [(0, rr G 1 i 0), (1, iv v1), (2, iv v2), (3, iv v3), (5, iv w0)] [iv (-1)] M) ∧ (v4 < (M 1 i 13 v3) → 0 ≤ v4 ∧ v4 < 30 ∧ eX4_reasonInDuty G K X 63 [(0, rr G 1 i 0), (1, iv v1), (2, iv v2), (3, iv v3), (5, iv w0)] [iv (M 1 i (15 + v3) v4)] M))) : eX4_reasonInDuty G K X 31 [(0, rr G 1 i 0), (1, iv v1), (2, iv v2), (3, iv v3), (4, iv v4)] [iv w0] M := by
  show Ex G zX4_reasonInDuty 3 0 K X 0 31 [(0, rr G 1 i 0), (1, iv v1), (2, iv v2), (3, iv v3), (4, iv v4)] [iv w0] M
  refine ev_istore dX4_reasonInDuty_31 (by decide) rfl ?_
  refine ev_iload (j := 5) dX4_reasonInDuty_33 rfl ?_
  refine ev_aload_n (j := 1) dX4_reasonInDuty_35 rfl rfl ?_
  refine ev_get frX4_28 dX4_reasonInDuty_36 (dom1 hi0 hi1 (by decide) (by decide)) en1_0 rfl ?_
  refine ev_get frX4_103 dX4_reasonInDuty_39 (dom1 hi0 hi1 (by decide) (by decide)) en1_11 rfl ?_
  refine ev_iload_n (j := 4) dX4_reasonInDuty_42 rfl rfl ?_
  obtain ⟨s1, s2, h3⟩ := h
  refine ev_iald dX4_reasonInDuty_43 (dom1 hi0 hi1 (by decide) (by decide)) ar1_13 (by decide) s1 s2 ?_
  obtain ⟨s4, s5, h6⟩ := h3
  obtain ⟨h7, h8⟩ := h6
  refine ev_icmp_ge 62 dX4_reasonInDuty_44 (by decide) s4 s5 (fun c9 => ?_) (fun c9 => ?_)
  · have h10 := h7 c9
    refine ev_iconst dX4_reasonInDuty_62 ?_
    exact ev_sub [1, 2, 3, 4, 0] rfl h10
  · have h11 := h8 c9
    refine ev_aload_n (j := 1) dX4_reasonInDuty_47 rfl rfl ?_
    refine ev_get frX4_28 dX4_reasonInDuty_48 (dom1 hi0 hi1 (by decide) (by decide)) en1_0 rfl ?_
    refine ev_get frX4_106 dX4_reasonInDuty_51 (dom1 hi0 hi1 (by decide) (by decide)) en1_11 rfl ?_
    refine ev_iload_n (j := 4) dX4_reasonInDuty_54 rfl rfl ?_
    refine ev_aald (t := 4) (q := ad G 1 i (15 + v3)) (Or.inr rfl) dX4_reasonInDuty_55 (dom1 hi0 hi1 (by decide) (by decide)) rfl (by decide) s1 s2 (by first | rfl | (show some (ad G _ _ (_ + ((v3 : Int).toNat : Int))) = _; rw [Int.toNat_of_nonneg (by omega)]; first | done | rfl)) ?_
    refine ev_iload (j := 5) dX4_reasonInDuty_56 rfl ?_
    obtain ⟨s12, s13, h14⟩ := h11
    refine ev_iald dX4_reasonInDuty_58 (dom1 hi0 hi1 (by omega) (by omega)) (row1_15 (by omega) (by omega)) (by decide) s12 s13 ?_
    refine ev_goto 63 dX4_reasonInDuty_59 (by decide) ?_
    exact ev_sub [1, 2, 3, 4, 0] rfl h14
set_option maxRecDepth 20000 in
set_option maxHeartbeats 4000000 in
theorem bX4_reasonInDuty_63 {G : GT} {K : List Value → Mem → Prop} {X : String → Mem → Prop} {M : Mem} {i : Int} (hi0 : 0 ≤ i) (hi1 : i < 12) {v1 v2 v3 v5 w0 : Int} (h : I32 w0 ∧ ((w0 = (-1) → eX4_reasonInDuty G K X 95 [(0, rr G 1 i 0), (1, iv v1), (2, iv v2), (3, iv v3), (5, iv v5), (6, iv w0)] [] M) ∧ (¬ w0 = (-1) → 0 ≤ w0 ∧ w0 < 30 ∧ 0 ≤ v1 ∧ v1 < 30 ∧ I32 (M 1 i 9 w0) ∧ I32 (M 1 i 9 v1) ∧ ((¬ (M 1 i 9 w0) = (M 1 i 9 v1) → eX4_reasonInDuty G K X 95 [(0, rr G 1 i 0), (1, iv v1), (2, iv v2), (3, iv v3), (5, iv v5), (6, iv w0)] [] M) ∧ ((M 1 i 9 w0) = (M 1 i 9 v1) → K [iv 3] M))))) : eX4_reasonInDuty G K X 63 [(0, rr G 1 i 0), (1, iv v1), (2, iv v2), (3, iv v3), (5, iv v5)] [iv w0] M := by
  show Ex G zX4_reasonInDuty 3 0 K X 0 63 [(0, rr G 1 i 0), (1, iv v1), (2, iv v2), (3, iv v3), (5, iv v5)] [iv w0] M
  refine ev_istore dX4_reasonInDuty_63 (by decide) rfl ?_
  refine ev_iload (j := 0) dX4_reasonInDuty_65 rfl ?_
  refine ev_iconst dX4_reasonInDuty_67 ?_
  obtain ⟨s1, h2⟩ := h
  obtain ⟨h3, h4⟩ := h2
  refine ev_icmp_eq 95 dX4_reasonInDuty_68 (by decide) s1 ⟨by decide, by decide⟩ (fun c5 => ?_) (fun c5 => ?_)
  · have h6 := h3 c5
    exact ev_sub [1, 2, 3, 4, 5, 0] rfl h6
  · have h7 := h4 c5
    refine ev_aload_n (j := 1) dX4_reasonInDuty_71 rfl rfl ?_
    refine ev_get frX4_21 dX4_reasonInDuty_72 (dom1 hi0 hi1 (by decide) (by decide)) en1_0 rfl ?_
    refine ev_get frX4_67 dX4_reasonInDuty_75 (dom1 hi0 hi1 (by decide) (by decide)) en1_6 rfl ?_
    refine ev_iload (j := 0) dX4_reasonInDuty_78 rfl ?_
    obtain ⟨s8, s9, h10⟩ := h7
    refine ev_iald dX4_reasonInDuty_80 (dom1 hi0 hi1 (by decide) (by decide)) ar1_9 (by decide) s8 s9 ?_
    refine ev_aload_n (j := 1) dX4_reasonInDuty_81 rfl rfl ?_
    refine ev_get frX4_21 dX4_reasonInDuty_82 (dom1 hi0 hi1 (by decide) (by decide)) en1_0 rfl ?_
    refine ev_get frX4_67 dX4_reasonInDuty_85 (dom1 hi0 hi1 (by decide) (by decide)) en1_6 rfl ?_
    refine ev_iload_n (j := 2) dX4_reasonInDuty_88 rfl rfl ?_
    obtain ⟨s11, s12, h13⟩ := h10
    refine ev_iald dX4_reasonInDuty_89 (dom1 hi0 hi1 (by decide) (by decide)) ar1_9 (by decide) s11 s12 ?_
    obtain ⟨s14, s15, h16⟩ := h13
    obtain ⟨h17, h18⟩ := h16
    refine ev_icmp_ne 95 dX4_reasonInDuty_90 (by decide) s14 s15 (fun c19 => ?_) (fun c19 => ?_)
    · have h20 := h17 c19
      exact ev_sub [1, 2, 3, 4, 5, 0] rfl h20
    · have h21 := h18 c19
      refine ev_iconst dX4_reasonInDuty_93 ?_
      exact ev_iret dX4_reasonInDuty_94 (by decide) rfl h21
set_option maxRecDepth 20000 in
set_option maxHeartbeats 4000000 in
theorem bX4_reasonInDuty_95 {G : GT} {K : List Value → Mem → Prop} {X : String → Mem → Prop} {M : Mem} {i : Int} (hi0 : 0 ≤ i) (hi1 : i < 12) {v1 v2 v3 v5 v6 : Int} (h : I32 v5 ∧ ((v5 = (-1) → eX4_reasonInDuty G K X 113 [(0, rr G 1 i 0), (1, iv v1), (2, iv v2), (3, iv v3), (5, iv v5), (6, iv v6)] [] M) ∧ (¬ v5 = (-1) → Call G 2 0 zX4_canFollow [rr G 1 i 0, iv v1, iv v5] M (kI (fun x10 M8 => I32 x10 ∧ ((¬ x10 = 0 → eX4_reasonInDuty G K X 113 [(0, rr G 1 i 0), (1, iv v1), (2, iv v2), (3, iv v3), (5, iv v5), (6, iv v6)] [] M8) ∧ (x10 = 0 → K [iv 4] M8)))) noX))) : eX4_reasonInDuty G K X 95 [(0, rr G 1 i 0), (1, iv v1), (2, iv v2), (3, iv v3), (5, iv v5), (6, iv v6)] [] M := by
  show Ex G zX4_reasonInDuty 3 0 K X 0 95 [(0, rr G 1 i 0), (1, iv v1), (2, iv v2), (3, iv v3), (5, iv v5), (6, iv v6)] [] M
  refine ev_iload (j := 4) dX4_reasonInDuty_95 rfl ?_
  refine ev_iconst dX4_reasonInDuty_97 ?_
  obtain ⟨s1, h2⟩ := h
  obtain ⟨h3, h4⟩ := h2
  refine ev_icmp_eq 113 dX4_reasonInDuty_98 (by decide) s1 ⟨by decide, by decide⟩ (fun c5 => ?_) (fun c5 => ?_)
  · have h6 := h3 c5
    exact ev_sub [0, 1, 2, 3, 4, 5] rfl h6
  · have h7 := h4 c5
    refine ev_aload_n (j := 0) dX4_reasonInDuty_101 rfl rfl ?_
    refine ev_iload_n (j := 1) dX4_reasonInDuty_102 rfl rfl ?_
    refine ev_iload (j := 4) dX4_reasonInDuty_103 rfl ?_
    refine ev_callVI (As := [iv v1, iv v5]) (st := []) mfX4_canFollow mlX4_88 dX4_reasonInDuty_105 rfl (dom1 hi0 hi1 (by decide) (by decide)) en1_0 rfl rfl rfl (by decide) (by decide) (by decide) (Nat.le_of_ble_eq_true rfl) (fun _ _ z => z.elim) h7 (fun x10 M8 h9 => ?_)
    obtain ⟨s11, h12⟩ := h9
    obtain ⟨h13, h14⟩ := h12
    refine ev_if_ne 113 dX4_reasonInDuty_108 (by decide) s11 (fun c15 => ?_) (fun c15 => ?_)
    · have h16 := h13 c15
      exact ev_sub [0, 1, 2, 3, 4, 5] rfl h16
    · have h17 := h14 c15
      refine ev_iconst dX4_reasonInDuty_111 ?_
      exact ev_iret dX4_reasonInDuty_112 (by decide) rfl h17
set_option maxRecDepth 20000 in
set_option maxHeartbeats 4000000 in
theorem bX4_reasonInDuty_113 {G : GT} {K : List Value → Mem → Prop} {X : String → Mem → Prop} {M : Mem} {i : Int} (hi0 : 0 ≤ i) (hi1 : i < 12) {v1 v2 v3 v5 v6 : Int} (h : I32 v6 ∧ ((v6 = (-1) → eX4_reasonInDuty G K X 131 [(0, rr G 1 i 0), (1, iv v1), (3, iv v3), (5, iv v5)] [] M) ∧ (¬ v6 = (-1) → Call G 2 0 zX4_canFollow [rr G 1 i 0, iv v6, iv v2] M (kI (fun x10 M8 => I32 x10 ∧ ((¬ x10 = 0 → eX4_reasonInDuty G K X 131 [(0, rr G 1 i 0), (1, iv v1), (3, iv v3), (5, iv v5)] [] M8) ∧ (x10 = 0 → K [iv 5] M8)))) noX))) : eX4_reasonInDuty G K X 113 [(0, rr G 1 i 0), (1, iv v1), (2, iv v2), (3, iv v3), (5, iv v5), (6, iv v6)] [] M := by
  show Ex G zX4_reasonInDuty 3 0 K X 0 113 [(0, rr G 1 i 0), (1, iv v1), (2, iv v2), (3, iv v3), (5, iv v5), (6, iv v6)] [] M
  refine ev_iload (j := 5) dX4_reasonInDuty_113 rfl ?_
  refine ev_iconst dX4_reasonInDuty_115 ?_
  obtain ⟨s1, h2⟩ := h
  obtain ⟨h3, h4⟩ := h2
  refine ev_icmp_eq 131 dX4_reasonInDuty_116 (by decide) s1 ⟨by decide, by decide⟩ (fun c5 => ?_) (fun c5 => ?_)
  · have h6 := h3 c5
    exact ev_sub [0, 1, 3, 4] rfl h6
  · have h7 := h4 c5
    refine ev_aload_n (j := 0) dX4_reasonInDuty_119 rfl rfl ?_
    refine ev_iload (j := 5) dX4_reasonInDuty_120 rfl ?_
    refine ev_iload_n (j := 2) dX4_reasonInDuty_122 rfl rfl ?_
    refine ev_callVI (As := [iv v6, iv v2]) (st := []) mfX4_canFollow mlX4_88 dX4_reasonInDuty_123 rfl (dom1 hi0 hi1 (by decide) (by decide)) en1_0 rfl rfl rfl (by decide) (by decide) (by decide) (Nat.le_of_ble_eq_true rfl) (fun _ _ z => z.elim) h7 (fun x10 M8 h9 => ?_)
    obtain ⟨s11, h12⟩ := h9
    obtain ⟨h13, h14⟩ := h12
    refine ev_if_ne 131 dX4_reasonInDuty_126 (by decide) s11 (fun c15 => ?_) (fun c15 => ?_)
    · have h16 := h13 c15
      exact ev_sub [0, 1, 3, 4] rfl h16
    · have h17 := h14 c15
      refine ev_iconst dX4_reasonInDuty_129 ?_
      exact ev_iret dX4_reasonInDuty_130 (by decide) rfl h17
set_option maxRecDepth 20000 in
set_option maxHeartbeats 4000000 in
theorem bX4_reasonInDuty_131 {G : GT} {K : List Value → Mem → Prop} {X : String → Mem → Prop} {M : Mem} {i : Int} (hi0 : 0 ≤ i) (hi1 : i < 12) {v1 v3 v5 : Int} (h : I32 v5 ∧ ((¬ v5 = (-1) → eX4_reasonInDuty G K X 160 [] [] M) ∧ (v5 = (-1) → 0 ≤ v1 ∧ v1 < 30 ∧ Call G 0 0 zX2_homeStopOf [rr G 1 i 11, iv v3] M (kI (fun x13 M11 => I32 (M 1 i 7 v1) ∧ I32 x13 ∧ (((M 1 i 7 v1) = x13 → eX4_reasonInDuty G K X 160 [] [] M11) ∧ (¬ (M 1 i 7 v1) = x13 → K [iv 6] M11)))) noX))) : eX4_reasonInDuty G K X 131 [(0, rr G 1 i 0), (1, iv v1), (3, iv v3), (5, iv v5)] [] M := by
  show Ex G zX4_reasonInDuty 3 0 K X 0 131 [(0, rr G 1 i 0), (1, iv v1), (3, iv v3), (5, iv v5)] [] M
  refine ev_iload (j := 3) dX4_reasonInDuty_131 rfl ?_
  refine ev_iconst dX4_reasonInDuty_133 ?_
  obtain ⟨s1, h2⟩ := h
  obtain ⟨h3, h4⟩ := h2
  refine ev_icmp_ne 160 dX4_reasonInDuty_134 (by decide) s1 ⟨by decide, by decide⟩ (fun c5 => ?_) (fun c5 => ?_)
  · have h6 := h3 c5
    exact ev_sub [] rfl h6
  · have h7 := h4 c5
    refine ev_aload_n (j := 0) dX4_reasonInDuty_137 rfl rfl ?_
    refine ev_get frX4_21 dX4_reasonInDuty_138 (dom1 hi0 hi1 (by decide) (by decide)) en1_0 rfl ?_
    refine ev_get frX4_60 dX4_reasonInDuty_141 (dom1 hi0 hi1 (by decide) (by decide)) en1_6 rfl ?_
    refine ev_iload_n (j := 1) dX4_reasonInDuty_144 rfl rfl ?_
    obtain ⟨s8, s9, h10⟩ := h7
    refine ev_iald dX4_reasonInDuty_145 (dom1 hi0 hi1 (by decide) (by decide)) ar1_7 (by decide) s8 s9 ?_
    refine ev_aload_n (j := 0) dX4_reasonInDuty_146 rfl rfl ?_
    refine ev_get frX4_28 dX4_reasonInDuty_147 (dom1 hi0 hi1 (by decide) (by decide)) en1_0 rfl ?_
    refine ev_iload_n (j := 2) dX4_reasonInDuty_150 rfl rfl ?_
    refine ev_callVI (As := [iv v3]) (st := [iv (M 1 i 7 v1)]) mfX2_homeStopOf mlX4_100 dX4_reasonInDuty_151 rfl (dom1 hi0 hi1 (by decide) (by decide)) en1_11 rfl rfl rfl (by decide) (by decide) (by decide) (Nat.le_of_ble_eq_true rfl) (fun _ _ z => z.elim) h10 (fun x13 M11 h12 => ?_)
    obtain ⟨s14, s15, h16⟩ := h12
    obtain ⟨h17, h18⟩ := h16
    refine ev_icmp_eq 160 dX4_reasonInDuty_154 (by decide) s14 s15 (fun c19 => ?_) (fun c19 => ?_)
    · have h20 := h17 c19
      exact ev_sub [] rfl h20
    · have h21 := h18 c19
      refine ev_bipush dX4_reasonInDuty_157 (by decide) ?_
      exact ev_iret dX4_reasonInDuty_159 (by decide) rfl h21
set_option maxRecDepth 20000 in
set_option maxHeartbeats 4000000 in
theorem bX4_reasonInDuty_160 {G : GT} {K : List Value → Mem → Prop} {X : String → Mem → Prop} {M : Mem} {i : Int} (hi0 : 0 ≤ i) (hi1 : i < 12) (h : K [iv 0] M) : eX4_reasonInDuty G K X 160 [] [] M := by
  show Ex G zX4_reasonInDuty 3 0 K X 0 160 [] [] M
  refine ev_iconst dX4_reasonInDuty_160 ?_
  exact ev_iret dX4_reasonInDuty_161 (by decide) rfl h
def eX4_soonestBehind (G : GT) (K : List Value → Mem → Prop) (X : String → Mem → Prop) (pc : Nat) (lv : List (Nat × Value)) (st : List Value) (M : Mem) : Prop := Ex G zX4_soonestBehind 3 0 K X 0 pc lv st M
set_option maxRecDepth 20000 in
set_option maxHeartbeats 4000000 in
theorem bX4_soonestBehind {G : GT} {K : List Value → Mem → Prop} {X : String → Mem → Prop} {M : Mem} {i : Int} (hi0 : 0 ≤ i) (hi1 : i < 12) {v1 : Int} (h : eX4_soonestBehind G K X 4 [(0, rr G 1 i 0), (1, iv v1), (2, iv (-1)), (3, iv 0)] [] M) : Call G 3 0 zX4_soonestBehind [rr G 1 i 0, iv v1] M K X := by
  refine call_intro (lv := [(0, rr G 1 i 0), (1, iv v1)]) (by decide) rfl (Nat.le_of_ble_eq_true rfl) rfl ?_
  refine ev_iconst dX4_soonestBehind_0 ?_
  refine ev_istore_n dX4_soonestBehind_1 rfl (by decide) rfl ?_
  refine ev_iconst dX4_soonestBehind_2 ?_
  refine ev_istore_n dX4_soonestBehind_3 rfl (by decide) rfl ?_
  exact ev_sub [2, 3, 1, 0] rfl h
set_option maxRecDepth 20000 in
set_option maxHeartbeats 4000000 in
theorem bX4_soonestBehind_4 {G : GT} {K : List Value → Mem → Prop} {X : String → Mem → Prop} {M : Mem} {i : Int} (hi0 : 0 ≤ i) (hi1 : i < 12) {v1 v2 v3 : Int} (h : I32 v3 ∧ I32 (M 1 i 6 4) ∧ ((¬ v3 < (M 1 i 6 4) → K [iv v2] M) ∧ (v3 < (M 1 i 6 4) → 0 ≤ v3 ∧ v3 < 30 ∧ I32 (M 1 i 10 v3) ∧ ((¬ (M 1 i 10 v3) = 0 → eX4_soonestBehind G K X 4 [(0, rr G 1 i 0), (1, iv v1), (2, iv v2), (3, iv (v3 + 1))] [] M) ∧ ((M 1 i 10 v3) = 0 → Call G 2 0 zX4_canFollow [rr G 1 i 0, iv v3, iv v1] M (kI (fun x21 M19 => I32 x21 ∧ ((x21 = 0 → eX4_soonestBehind G K X 4 [(0, rr G 1 i 0), (1, iv v1), (2, iv v2), (3, iv (v3 + 1))] [] M19) ∧ (¬ x21 = 0 → I32 v2 ∧ ((v2 = (-1) → eX4_soonestBehind G K X 4 [(0, rr G 1 i 0), (1, iv v1), (2, iv v3), (3, iv (v3 + 1))] [] M19) ∧ (¬ v2 = (-1) → 0 ≤ v2 ∧ v2 < 30 ∧ I32 (M19 1 i 9 v3) ∧ I32 (M19 1 i 9 v2) ∧ ((¬ (M19 1 i 9 v3) < (M19 1 i 9 v2) → eX4_soonestBehind G K X 4 [(0, rr G 1 i 0), (1, iv v1), (2, iv v2), (3, iv (v3 + 1))] [] M19) ∧ ((M19 1 i 9 v3) < (M19 1 i 9 v2) → eX4_soonestBehind G K X 4 [(0, rr G 1 i 0), (1, iv v1), (2, iv v3), (3, iv (v3 + 1))] [] M19)))))))) noX))))) : eX4_soonestBehind G K X 4 [(0, rr G 1 i 0), (1, iv v1), (2, iv v2), (3, iv v3)] [] M := by
  show Ex G zX4_soonestBehind 3 0 K X 0 4 [(0, rr G 1 i 0), (1, iv v1), (2, iv v2), (3, iv v3)] [] M
  refine ev_iload_n (j := 3) dX4_soonestBehind_4 rfl rfl ?_
  refine ev_aload_n (j := 0) dX4_soonestBehind_5 rfl rfl ?_
  refine ev_get frX4_21 dX4_soonestBehind_6 (dom1 hi0 hi1 (by decide) (by decide)) en1_0 rfl ?_
  refine ev_get frX4_81 dX4_soonestBehind_9 (dom1 hi0 hi1 (by decide) (by decide)) en1_6 rfl ?_
  obtain ⟨s1, s2, h3⟩ := h
  obtain ⟨h4, h5⟩ := h3
  refine ev_icmp_ge 70 dX4_soonestBehind_12 (by decide) s1 s2 (fun c6 => ?_) (fun c6 => ?_)
  · have h7 := h4 c6
    refine ev_iload_n (j := 2) dX4_soonestBehind_70 rfl rfl ?_
    exact ev_iret dX4_soonestBehind_71 (by decide) rfl h7
  · have h8 := h5 c6
    refine ev_aload_n (j := 0) dX4_soonestBehind_15 rfl rfl ?_
    refine ev_get frX4_21 dX4_soonestBehind_16 (dom1 hi0 hi1 (by decide) (by decide)) en1_0 rfl ?_
    refine ev_get frX4_85 dX4_soonestBehind_19 (dom1 hi0 hi1 (by decide) (by decide)) en1_6 rfl ?_
    refine ev_iload_n (j := 3) dX4_soonestBehind_22 rfl rfl ?_
    obtain ⟨s9, s10, h11⟩ := h8
    refine ev_zald dX4_soonestBehind_23 (dom1 hi0 hi1 (by decide) (by decide)) ar1_10 (by decide) s9 s10 ?_
    obtain ⟨s12, h13⟩ := h11
    obtain ⟨h14, h15⟩ := h13
    refine ev_if_ne 64 dX4_soonestBehind_24 (by decide) s12 (fun c16 => ?_) (fun c16 => ?_)
    · have h17 := h14 c16
      refine ev_iinc (j := 3) dX4_soonestBehind_64 rfl (by decide) rfl ?_
      refine ev_goto 4 dX4_soonestBehind_67 (by decide) ?_
      exact ev_sub [1, 2, 3, 0] rfl h17
    · have h18 := h15 c16
      refine ev_aload_n (j := 0) dX4_soonestBehind_27 rfl rfl ?_
      refine ev_iload_n (j := 3) dX4_soonestBehind_28 rfl rfl ?_
      refine ev_iload_n (j := 1) dX4_soonestBehind_29 rfl rfl ?_
      refine ev_callVI (As := [iv v3, iv v1]) (st := []) mfX4_canFollow mlX4_88 dX4_soonestBehind_30 rfl (dom1 hi0 hi1 (by decide) (by decide)) en1_0 rfl rfl rfl (by decide) (by decide) (by decide) (Nat.le_of_ble_eq_true rfl) (fun _ _ z => z.elim) h18 (fun x21 M19 h20 => ?_)
      obtain ⟨s22, h23⟩ := h20
      obtain ⟨h24, h25⟩ := h23
      refine ev_if_eq 64 dX4_soonestBehind_33 (by decide) s22 (fun c26 => ?_) (fun c26 => ?_)
      · have h27 := h24 c26
        refine ev_iinc (j := 3) dX4_soonestBehind_64 rfl (by decide) rfl ?_
        refine ev_goto 4 dX4_soonestBehind_67 (by decide) ?_
        exact ev_sub [1, 2, 3, 0] rfl h27
      · have h28 := h25 c26
        refine ev_iload_n (j := 2) dX4_soonestBehind_36 rfl rfl ?_
        refine ev_iconst dX4_soonestBehind_37 ?_
        obtain ⟨s29, h30⟩ := h28
        obtain ⟨h31, h32⟩ := h30
        refine ev_icmp_eq 62 dX4_soonestBehind_38 (by decide) s29 ⟨by decide, by decide⟩ (fun c33 => ?_) (fun c33 => ?_)
        · have h34 := h31 c33
          refine ev_iload_n (j := 3) dX4_soonestBehind_62 rfl rfl ?_
          refine ev_istore_n dX4_soonestBehind_63 rfl (by decide) rfl ?_
          refine ev_iinc (j := 3) dX4_soonestBehind_64 rfl (by decide) rfl ?_
          refine ev_goto 4 dX4_soonestBehind_67 (by decide) ?_
          exact ev_sub [2, 3, 1, 0] rfl h34
        · have h35 := h32 c33
          refine ev_aload_n (j := 0) dX4_soonestBehind_41 rfl rfl ?_
          refine ev_get frX4_21 dX4_soonestBehind_42 (dom1 hi0 hi1 (by decide) (by decide)) en1_0 rfl ?_
          refine ev_get frX4_67 dX4_soonestBehind_45 (dom1 hi0 hi1 (by decide) (by decide)) en1_6 rfl ?_
          refine ev_iload_n (j := 3) dX4_soonestBehind_48 rfl rfl ?_
          refine ev_iald dX4_soonestBehind_49 (dom1 hi0 hi1 (by decide) (by decide)) ar1_9 (by decide) s9 s10 ?_
          refine ev_aload_n (j := 0) dX4_soonestBehind_50 rfl rfl ?_
          refine ev_get frX4_21 dX4_soonestBehind_51 (dom1 hi0 hi1 (by decide) (by decide)) en1_0 rfl ?_
          refine ev_get frX4_67 dX4_soonestBehind_54 (dom1 hi0 hi1 (by decide) (by decide)) en1_6 rfl ?_
          refine ev_iload_n (j := 2) dX4_soonestBehind_57 rfl rfl ?_
          obtain ⟨s36, s37, h38⟩ := h35
          refine ev_iald dX4_soonestBehind_58 (dom1 hi0 hi1 (by decide) (by decide)) ar1_9 (by decide) s36 s37 ?_
          obtain ⟨s39, s40, h41⟩ := h38
          obtain ⟨h42, h43⟩ := h41
          refine ev_icmp_ge 64 dX4_soonestBehind_59 (by decide) s39 s40 (fun c44 => ?_) (fun c44 => ?_)
          · have h45 := h42 c44
            refine ev_iinc (j := 3) dX4_soonestBehind_64 rfl (by decide) rfl ?_
            refine ev_goto 4 dX4_soonestBehind_67 (by decide) ?_
            exact ev_sub [1, 2, 3, 0] rfl h45
          · have h46 := h43 c44
            refine ev_iload_n (j := 3) dX4_soonestBehind_62 rfl rfl ?_
            refine ev_istore_n dX4_soonestBehind_63 rfl (by decide) rfl ?_
            refine ev_iinc (j := 3) dX4_soonestBehind_64 rfl (by decide) rfl ?_
            refine ev_goto 4 dX4_soonestBehind_67 (by decide) ?_
            exact ev_sub [2, 3, 1, 0] rfl h46
def eX4_timeAt (G : GT) (K : List Value → Mem → Prop) (X : String → Mem → Prop) (pc : Nat) (lv : List (Nat × Value)) (st : List Value) (M : Mem) : Prop := Ex G zX4_timeAt 1 0 K X 0 pc lv st M
set_option maxRecDepth 20000 in
set_option maxHeartbeats 4000000 in
theorem bX4_timeAt {G : GT} {K : List Value → Mem → Prop} {X : String → Mem → Prop} {M : Mem} {i : Int} (hi0 : 0 ≤ i) (hi1 : i < 12) {v1 v2 : Int} (h : 0 ≤ v1 ∧ v1 < 30 ∧ Call G 0 0 zX9_minutesFromTo [rr G 1 i 1, iv (M 1 i 7 v1), iv v2] M (kI (fun x6 M4 => K [iv ((M 1 i 9 v1) + x6)] M4)) noX) : Call G 1 0 zX4_timeAt [rr G 1 i 0, iv v1, iv v2] M K X := by
  refine call_intro (lv := [(0, rr G 1 i 0), (1, iv v1), (2, iv v2)]) (by decide) rfl (Nat.le_of_ble_eq_true rfl) rfl ?_
  refine ev_aload_n (j := 0) dX4_timeAt_0 rfl rfl ?_
  refine ev_get frX4_21 dX4_timeAt_1 (dom1 hi0 hi1 (by decide) (by decide)) en1_0 rfl ?_
  refine ev_get frX4_67 dX4_timeAt_4 (dom1 hi0 hi1 (by decide) (by decide)) en1_6 rfl ?_
  refine ev_iload_n (j := 1) dX4_timeAt_7 rfl rfl ?_
  obtain ⟨s1, s2, h3⟩ := h
  refine ev_iald dX4_timeAt_8 (dom1 hi0 hi1 (by decide) (by decide)) ar1_9 (by decide) s1 s2 ?_
  refine ev_aload_n (j := 0) dX4_timeAt_9 rfl rfl ?_
  refine ev_get frX4_12 dX4_timeAt_10 (dom1 hi0 hi1 (by decide) (by decide)) en1_0 rfl ?_
  refine ev_aload_n (j := 0) dX4_timeAt_13 rfl rfl ?_
  refine ev_get frX4_21 dX4_timeAt_14 (dom1 hi0 hi1 (by decide) (by decide)) en1_0 rfl ?_
  refine ev_get frX4_60 dX4_timeAt_17 (dom1 hi0 hi1 (by decide) (by decide)) en1_6 rfl ?_
  refine ev_iload_n (j := 1) dX4_timeAt_20 rfl rfl ?_
  refine ev_iald dX4_timeAt_21 (dom1 hi0 hi1 (by decide) (by decide)) ar1_7 (by decide) s1 s2 ?_
  refine ev_iload_n (j := 2) dX4_timeAt_22 rfl rfl ?_
  refine ev_callVI (As := [iv (M 1 i 7 v1), iv v2]) (st := [iv (M 1 i 9 v1)]) mfX9_minutesFromTo mlX4_70 dX4_timeAt_23 rfl (dom1 hi0 hi1 (by decide) (by decide)) en1_1 rfl rfl rfl (by decide) (by decide) (by decide) (Nat.le_of_ble_eq_true rfl) (fun _ _ z => z.elim) h3 (fun x6 M4 h5 => ?_)
  refine ev_iadd dX4_timeAt_26 ?_
  exact ev_iret dX4_timeAt_27 (by decide) rfl h5
def eX4_tripsBefore (G : GT) (K : List Value → Mem → Prop) (X : String → Mem → Prop) (pc : Nat) (lv : List (Nat × Value)) (st : List Value) (M : Mem) : Prop := Ex G zX4_tripsBefore 0 0 K X 0 pc lv st M
set_option maxRecDepth 20000 in
set_option maxHeartbeats 4000000 in
theorem bX4_tripsBefore {G : GT} {K : List Value → Mem → Prop} {X : String → Mem → Prop} {M : Mem} {i : Int} (hi0 : 0 ≤ i) (hi1 : i < 12) {v1 v2 : Int} (h : eX4_tripsBefore G K X 2 [(0, rr G 1 i 0), (1, iv v1), (2, iv v2), (3, iv 0)] [] M) : Call G 0 0 zX4_tripsBefore [rr G 1 i 0, iv v1, iv v2] M K X := by
  refine call_intro (lv := [(0, rr G 1 i 0), (1, iv v1), (2, iv v2)]) (by decide) rfl (Nat.le_of_ble_eq_true rfl) rfl ?_
  refine ev_iconst dX4_tripsBefore_0 ?_
  refine ev_istore_n dX4_tripsBefore_1 rfl (by decide) rfl ?_
  exact ev_sub [1, 2, 3, 0] rfl h
set_option maxRecDepth 20000 in
set_option maxHeartbeats 4000000 in
theorem bX4_tripsBefore_2 {G : GT} {K : List Value → Mem → Prop} {X : String → Mem → Prop} {M : Mem} {i : Int} (hi0 : 0 ≤ i) (hi1 : i < 12) {v1 v2 v3 : Int} (h : 0 ≤ v2 ∧ v2 < 10 ∧ I32 v3 ∧ I32 (M 1 i 13 v2) ∧ ((¬ v3 < (M 1 i 13 v2) → K [iv v3] M) ∧ (v3 < (M 1 i 13 v2) → 0 ≤ v3 ∧ v3 < 30 ∧ 0 ≤ M 1 i (15 + v2) v3 ∧ M 1 i (15 + v2) v3 < 30 ∧ I32 (M 1 i 9 (M 1 i (15 + v2) v3)) ∧ I32 v1 ∧ ((¬ (M 1 i 9 (M 1 i (15 + v2) v3)) < v1 → K [iv v3] M) ∧ ((M 1 i 9 (M 1 i (15 + v2) v3)) < v1 → eX4_tripsBefore G K X 2 [(0, rr G 1 i 0), (1, iv v1), (2, iv v2), (3, iv (v3 + 1))] [] M))))) : eX4_tripsBefore G K X 2 [(0, rr G 1 i 0), (1, iv v1), (2, iv v2), (3, iv v3)] [] M := by
  show Ex G zX4_tripsBefore 0 0 K X 0 2 [(0, rr G 1 i 0), (1, iv v1), (2, iv v2), (3, iv v3)] [] M
  refine ev_iload_n (j := 3) dX4_tripsBefore_2 rfl rfl ?_
  refine ev_aload_n (j := 0) dX4_tripsBefore_3 rfl rfl ?_
  refine ev_get frX4_28 dX4_tripsBefore_4 (dom1 hi0 hi1 (by decide) (by decide)) en1_0 rfl ?_
  refine ev_get frX4_103 dX4_tripsBefore_7 (dom1 hi0 hi1 (by decide) (by decide)) en1_11 rfl ?_
  refine ev_iload_n (j := 2) dX4_tripsBefore_10 rfl rfl ?_
  obtain ⟨s1, s2, h3⟩ := h
  refine ev_iald dX4_tripsBefore_11 (dom1 hi0 hi1 (by decide) (by decide)) ar1_13 (by decide) s1 s2 ?_
  obtain ⟨s4, s5, h6⟩ := h3
  obtain ⟨h7, h8⟩ := h6
  refine ev_icmp_ge 44 dX4_tripsBefore_12 (by decide) s4 s5 (fun c9 => ?_) (fun c9 => ?_)
  · have h10 := h7 c9
    refine ev_iload_n (j := 3) dX4_tripsBefore_44 rfl rfl ?_
    exact ev_iret dX4_tripsBefore_45 (by decide) rfl h10
  · have h11 := h8 c9
    refine ev_aload_n (j := 0) dX4_tripsBefore_15 rfl rfl ?_
    refine ev_get frX4_21 dX4_tripsBefore_16 (dom1 hi0 hi1 (by decide) (by decide)) en1_0 rfl ?_
    refine ev_get frX4_67 dX4_tripsBefore_19 (dom1 hi0 hi1 (by decide) (by decide)) en1_6 rfl ?_
    refine ev_aload_n (j := 0) dX4_tripsBefore_22 rfl rfl ?_
    refine ev_get frX4_28 dX4_tripsBefore_23 (dom1 hi0 hi1 (by decide) (by decide)) en1_0 rfl ?_
    refine ev_get frX4_106 dX4_tripsBefore_26 (dom1 hi0 hi1 (by decide) (by decide)) en1_11 rfl ?_
    refine ev_iload_n (j := 2) dX4_tripsBefore_29 rfl rfl ?_
    refine ev_aald (t := 4) (q := ad G 1 i (15 + v2)) (Or.inr rfl) dX4_tripsBefore_30 (dom1 hi0 hi1 (by decide) (by decide)) rfl (by decide) s1 s2 (by first | rfl | (show some (ad G _ _ (_ + ((v2 : Int).toNat : Int))) = _; rw [Int.toNat_of_nonneg (by omega)]; first | done | rfl)) ?_
    refine ev_iload_n (j := 3) dX4_tripsBefore_31 rfl rfl ?_
    obtain ⟨s12, s13, h14⟩ := h11
    refine ev_iald dX4_tripsBefore_32 (dom1 hi0 hi1 (by omega) (by omega)) (row1_15 (by omega) (by omega)) (by decide) s12 s13 ?_
    obtain ⟨s15, s16, h17⟩ := h14
    refine ev_iald dX4_tripsBefore_33 (dom1 hi0 hi1 (by decide) (by decide)) ar1_9 (by decide) s15 s16 ?_
    refine ev_iload_n (j := 1) dX4_tripsBefore_34 rfl rfl ?_
    obtain ⟨s18, s19, h20⟩ := h17
    obtain ⟨h21, h22⟩ := h20
    refine ev_icmp_ge 44 dX4_tripsBefore_35 (by decide) s18 s19 (fun c23 => ?_) (fun c23 => ?_)
    · have h24 := h21 c23
      refine ev_iload_n (j := 3) dX4_tripsBefore_44 rfl rfl ?_
      exact ev_iret dX4_tripsBefore_45 (by decide) rfl h24
    · have h25 := h22 c23
      refine ev_iinc (j := 3) dX4_tripsBefore_38 rfl (by decide) rfl ?_
      refine ev_goto 2 dX4_tripsBefore_41 (by decide) ?_
      exact ev_sub [1, 2, 3, 0] rfl h25
