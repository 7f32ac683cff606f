/-! blocks of TramLines$Pairing TramLines$Planner TramLines$Sequence TramLines$Timetable TramLines$Track TramLines$TripText (by program) -/
def eX5_assign (G : GT) (K : List Value → Mem → Prop) (X : String → Mem → Prop) (pc : Nat) (lv : List (Nat × Value)) (st : List Value) (M : Mem) : Prop := Ex G zX5_assign 2 0 K X 0 pc lv st M
set_option maxRecDepth 20000 in
set_option maxHeartbeats 4000000 in
theorem bX5_assign {G : GT} {K : List Value → Mem → Prop} {X : String → Mem → Prop} {M : Mem} {v1 : Int} (h : Call G 1 0 zfill [rr G 6 0 37, iv 1000000] M (kV (fun M1 => eX5_assign G K X 11 [(0, rr G 6 0 0), (1, iv v1), (2, iv 0)] [] M1)) noX) : Call G 2 0 zX5_assign [rr G 6 0 0, iv v1] M K X := by
  refine call_intro (lv := [(0, rr G 6 0 0), (1, iv v1)]) (by decide) rfl (Nat.le_of_ble_eq_true rfl) rfl ?_
  refine ev_aload_n (j := 0) dX5_assign_0 rfl rfl ?_
  refine ev_get frX5_29 dX5_assign_1 dm6_0 en6_0 rfl ?_
  refine ev_ldc (v9 := 1000000) kcX5_92 dX5_assign_4 rfl ?_
  refine ev_callSV (As := [rr G 6 0 37, iv 1000000]) (st := []) mffill mlX5_82 dX5_assign_6 rfl rfl (by decide) (by decide) (by decide) (Nat.le_of_ble_eq_true rfl) (fun _ _ z => z.elim) h (fun M1 h2 => ?_)
  refine ev_iconst dX5_assign_9 ?_
  refine ev_istore_n dX5_assign_10 rfl (by decide) rfl ?_
  exact ev_sub [1, 2, 0] rfl h2
set_option maxRecDepth 20000 in
set_option maxHeartbeats 4000000 in
theorem bX5_assign_11 {G : GT} {K : List Value → Mem → Prop} {X : String → Mem → Prop} {M : Mem} {v1 v2 : Int} (h : I32 v2 ∧ I32 (M 6 0 0 7) ∧ (((M 6 0 0 7) < v2 → eX5_assign G K X 43 [(0, rr G 6 0 0), (2, iv 0), (3, iv 0)] [] (wr M 6 0 35 0 v1)) ∧ (¬ (M 6 0 0 7) < v2 → 0 ≤ v2 ∧ v2 < 31 ∧ eX5_assign G K X 11 [(0, rr G 6 0 0), (1, iv v1), (2, iv (v2 + 1))] [] (wr M 6 0 38 v2 0)))) : eX5_assign G K X 11 [(0, rr G 6 0 0), (1, iv v1), (2, iv v2)] [] M := by
  show Ex G zX5_assign 2 0 K X 0 11 [(0, rr G 6 0 0), (1, iv v1), (2, iv v2)] [] M
  refine ev_iload_n (j := 2) dX5_assign_11 rfl rfl ?_
  refine ev_aload_n (j := 0) dX5_assign_12 rfl rfl ?_
  refine ev_get frX5_48 dX5_assign_13 dm6_0 en6_0 rfl ?_
  obtain ⟨s1, s2, h3⟩ := h
  obtain ⟨h4, h5⟩ := h3
  refine ev_icmp_gt 32 dX5_assign_16 (by decide) s1 s2 (fun c6 => ?_) (fun c6 => ?_)
  · have h7 := h4 c6
    refine ev_aload_n (j := 0) dX5_assign_32 rfl rfl ?_
    refine ev_get frX5_23 dX5_assign_33 dm6_0 en6_0 rfl ?_
    refine ev_iconst dX5_assign_36 ?_
    refine ev_iload_n (j := 1) dX5_assign_37 rfl rfl ?_
    refine ev_iast dX5_assign_38 dm6_35 ar6_35 (by decide) (by decide) (by decide) ?_
    refine ev_iconst dX5_assign_39 ?_
    refine ev_istore_n dX5_assign_40 rfl (by decide) rfl ?_
    refine ev_iconst dX5_assign_41 ?_
    refine ev_istore_n dX5_assign_42 rfl (by decide) rfl ?_
    exact ev_sub [2, 1, 0] rfl h7
  · have h8 := h5 c6
    refine ev_aload_n (j := 0) dX5_assign_19 rfl rfl ?_
    refine ev_get frX5_32 dX5_assign_20 dm6_0 en6_0 rfl ?_
    refine ev_iload_n (j := 2) dX5_assign_23 rfl rfl ?_
    refine ev_iconst dX5_assign_24 ?_
    obtain ⟨s9, s10, h11⟩ := h8
    refine ev_zast dX5_assign_25 dm6_38 ar6_38 (by decide) s9 s10 (by decide) ?_
    refine ev_iinc (j := 2) dX5_assign_26 rfl (by decide) rfl ?_
    refine ev_goto 11 dX5_assign_29 (by decide) ?_
    exact ev_sub [1, 2, 0] rfl h11
set_option maxRecDepth 20000 in
set_option maxHeartbeats 4000000 in
theorem bX5_assign_43 {G : GT} {K : List Value → Mem → Prop} {X : String → Mem → Prop} {M : Mem} {v2 v3 : Int} (h : I32 v3 ∧ I32 (M 6 0 0 7) ∧ (((M 6 0 0 7) < v3 → eX5_assign G K X 74 [(0, rr G 6 0 0), (2, iv v2), (3, iv 0)] [] M) ∧ (¬ (M 6 0 0 7) < v3 → 0 ≤ v2 ∧ v2 < 31 ∧ I32 (M 6 0 35 v2) ∧ (((M 6 0 35 v2) = 0 → eX5_assign G K X 74 [(0, rr G 6 0 0), (2, iv v2), (3, iv 0)] [] M) ∧ (¬ (M 6 0 35 v2) = 0 → Call G 1 0 zX5_reachFrom [rr G 6 0 0, iv v2] M (kI (fun x21 M19 => eX5_assign G K X 43 [(0, rr G 6 0 0), (2, iv x21), (3, iv (v3 + 1))] [] M19)) noX))))) : eX5_assign G K X 43 [(0, rr G 6 0 0), (2, iv v2), (3, iv v3)] [] M := by
  show Ex G zX5_assign 2 0 K X 0 43 [(0, rr G 6 0 0), (2, iv v2), (3, iv v3)] [] M
  refine ev_iload_n (j := 2) dX5_assign_43 rfl rfl ?_
  refine ev_aload_n (j := 0) dX5_assign_44 rfl rfl ?_
  refine ev_get frX5_48 dX5_assign_45 dm6_0 en6_0 rfl ?_
  obtain ⟨s1, s2, h3⟩ := h
  obtain ⟨h4, h5⟩ := h3
  refine ev_icmp_gt 72 dX5_assign_48 (by decide) s1 s2 (fun c6 => ?_) (fun c6 => ?_)
  · have h7 := h4 c6
    refine ev_iconst dX5_assign_72 ?_
    refine ev_istore_n dX5_assign_73 rfl (by decide) rfl ?_
    exact ev_sub [1, 2, 0] rfl h7
  · have h8 := h5 c6
    refine ev_aload_n (j := 0) dX5_assign_51 rfl rfl ?_
    refine ev_get frX5_23 dX5_assign_52 dm6_0 en6_0 rfl ?_
    refine ev_iload_n (j := 1) dX5_assign_55 rfl rfl ?_
    obtain ⟨s9, s10, h11⟩ := h8
    refine ev_iald dX5_assign_56 dm6_35 ar6_35 (by decide) s9 s10 ?_
    obtain ⟨s12, h13⟩ := h11
    obtain ⟨h14, h15⟩ := h13
    refine ev_if_eq 72 dX5_assign_57 (by decide) s12 (fun c16 => ?_) (fun c16 => ?_)
    · have h17 := h14 c16
      refine ev_iconst dX5_assign_72 ?_
      refine ev_istore_n dX5_assign_73 rfl (by decide) rfl ?_
      exact ev_sub [1, 2, 0] rfl h17
    · have h18 := h15 c16
      refine ev_aload_n (j := 0) dX5_assign_60 rfl rfl ?_
      refine ev_iload_n (j := 1) dX5_assign_61 rfl rfl ?_
      refine ev_callVI (As := [iv v2]) (st := []) mfX5_reachFrom mlX5_93 dX5_assign_62 rfl dm6_0 en6_0 rfl rfl rfl (by decide) (by decide) (by decide) (Nat.le_of_ble_eq_true rfl) (fun _ _ z => z.elim) h18 (fun x21 M19 h20 => ?_)
      refine ev_istore_n dX5_assign_65 rfl (by decide) rfl ?_
      refine ev_iinc (j := 2) dX5_assign_66 rfl (by decide) rfl ?_
      refine ev_goto 43 dX5_assign_69 (by decide) ?_
      exact ev_sub [2, 1, 0] rfl h20
set_option maxRecDepth 20000 in
set_option maxHeartbeats 4000000 in
theorem bX5_assign_74 {G : GT} {K : List Value → Mem → Prop} {X : String → Mem → Prop} {M : Mem} {v2 v3 : Int} (h : I32 v3 ∧ I32 (M 6 0 0 7) ∧ (((M 6 0 0 7) < v3 → K [] M) ∧ (¬ (M 6 0 0 7) < v3 → I32 v2 ∧ ((v2 = 0 → K [] M) ∧ (¬ v2 = 0 → 0 ≤ v2 ∧ v2 < 31 ∧ 0 ≤ M 6 0 36 v2 ∧ M 6 0 36 v2 < 31 ∧ eX5_assign G K X 74 [(0, rr G 6 0 0), (2, iv (M 6 0 36 v2)), (3, iv (v3 + 1))] [] (wr M 6 0 35 v2 (M 6 0 35 (M 6 0 36 v2)))))))) : eX5_assign G K X 74 [(0, rr G 6 0 0), (2, iv v2), (3, iv v3)] [] M := by
  show Ex G zX5_assign 2 0 K X 0 74 [(0, rr G 6 0 0), (2, iv v2), (3, iv v3)] [] M
  refine ev_iload_n (j := 2) dX5_assign_74 rfl rfl ?_
  refine ev_aload_n (j := 0) dX5_assign_75 rfl rfl ?_
  refine ev_get frX5_48 dX5_assign_76 dm6_0 en6_0 rfl ?_
  obtain ⟨s1, s2, h3⟩ := h
  obtain ⟨h4, h5⟩ := h3
  refine ev_icmp_gt 116 dX5_assign_79 (by decide) s1 s2 (fun c6 => ?_) (fun c6 => ?_)
  · have h7 := h4 c6
    exact ev_vret dX5_assign_116 (by decide) rfl h7
  · have h8 := h5 c6
    refine ev_iload_n (j := 1) dX5_assign_82 rfl rfl ?_
    obtain ⟨s9, h10⟩ := h8
    obtain ⟨h11, h12⟩ := h10
    refine ev_if_eq 116 dX5_assign_83 (by decide) s9 (fun c13 => ?_) (fun c13 => ?_)
    · have h14 := h11 c13
      exact ev_vret dX5_assign_116 (by decide) rfl h14
    · have h15 := h12 c13
      refine ev_aload_n (j := 0) dX5_assign_86 rfl rfl ?_
      refine ev_get frX5_26 dX5_assign_87 dm6_0 en6_0 rfl ?_
      refine ev_iload_n (j := 1) dX5_assign_90 rfl rfl ?_
      obtain ⟨s16, s17, h18⟩ := h15
      refine ev_iald dX5_assign_91 dm6_36 ar6_36 (by decide) s16 s17 ?_
      refine ev_istore dX5_assign_92 (by decide) rfl ?_
      refine ev_aload_n (j := 1) dX5_assign_94 rfl rfl ?_
      refine ev_get frX5_23 dX5_assign_95 dm6_0 en6_0 rfl ?_
      refine ev_iload_n (j := 2) dX5_assign_98 rfl rfl ?_
      refine ev_aload_n (j := 1) dX5_assign_99 rfl rfl ?_
      refine ev_get frX5_23 dX5_assign_100 dm6_0 en6_0 rfl ?_
      refine ev_iload (j := 0) dX5_assign_103 rfl ?_
      obtain ⟨s19, s20, h21⟩ := h18
      refine ev_iald dX5_assign_105 dm6_35 ar6_35 (by decide) s19 s20 ?_
      refine ev_iast dX5_assign_106 dm6_35 ar6_35 (by decide) s16 s17 ?_
      refine ev_iload (j := 0) dX5_assign_107 rfl ?_
      refine ev_istore_n dX5_assign_109 rfl (by decide) rfl ?_
      refine ev_iinc (j := 3) dX5_assign_110 rfl (by decide) rfl ?_
      refine ev_goto 74 dX5_assign_113 (by decide) ?_
      exact ev_sub [3, 1, 0] rfl h21
def eX5_changePrices (G : GT) (K : List Value → Mem → Prop) (X : String → Mem → Prop) (pc : Nat) (lv : List (Nat × Value)) (st : List Value) (M : Mem) : Prop := Ex G zX5_changePrices 0 0 K X 0 pc lv st M
set_option maxRecDepth 20000 in
set_option maxHeartbeats 4000000 in
theorem bX5_changePrices {G : GT} {K : List Value → Mem → Prop} {X : String → Mem → Prop} {M : Mem} {v1 : Int} (h : eX5_changePrices G K X 2 [(0, rr G 6 0 0), (1, iv v1), (2, iv 0)] [] M) : Call G 0 0 zX5_changePrices [rr G 6 0 0, iv v1] M K X := by
  refine call_intro (lv := [(0, rr G 6 0 0), (1, iv v1)]) (by decide) rfl (Nat.le_of_ble_eq_true rfl) rfl ?_
  refine ev_iconst dX5_changePrices_0 ?_
  refine ev_istore_n dX5_changePrices_1 rfl (by decide) rfl ?_
  exact ev_sub [1, 2, 0] rfl h
set_option maxRecDepth 20000 in
set_option maxHeartbeats 4000000 in
theorem bX5_changePrices_2 {G : GT} {K : List Value → Mem → Prop} {X : String → Mem → Prop} {M : Mem} {v1 v2 : Int} (h : I32 v2 ∧ I32 (M 6 0 0 7) ∧ (((M 6 0 0 7) < v2 → K [] M) ∧ (¬ (M 6 0 0 7) < v2 → 0 ≤ v2 ∧ v2 < 31 ∧ I32 (M 6 0 38 v2) ∧ (((M 6 0 38 v2) = 0 → eX5_changePrices G K X 2 [(0, rr G 6 0 0), (1, iv v1), (2, iv (v2 + 1))] [] (wr M 6 0 37 v2 ((M 6 0 37 v2) - v1))) ∧ (¬ (M 6 0 38 v2) = 0 → 0 ≤ M 6 0 35 v2 ∧ M 6 0 35 v2 < 31 ∧ ∀ M22 : Mem, M22 = wr (wr M 6 0 33 (M 6 0 35 v2) ((M 6 0 33 (M 6 0 35 v2)) + v1)) 6 0 34 v2 ((M 6 0 34 v2) - v1) → eX5_changePrices G K X 2 [(0, rr G 6 0 0), (1, iv v1), (2, iv (v2 + 1))] [] M22))))) : eX5_changePrices G K X 2 [(0, rr G 6 0 0), (1, iv v1), (2, iv v2)] [] M := by
  show Ex G zX5_changePrices 0 0 K X 0 2 [(0, rr G 6 0 0), (1, iv v1), (2, iv v2)] [] M
  refine ev_iload_n (j := 2) dX5_changePrices_2 rfl rfl ?_
  refine ev_aload_n (j := 0) dX5_changePrices_3 rfl rfl ?_
  refine ev_get frX5_48 dX5_changePrices_4 dm6_0 en6_0 rfl ?_
  obtain ⟨s1, s2, h3⟩ := h
  obtain ⟨h4, h5⟩ := h3
  refine ev_icmp_gt 63 dX5_changePrices_7 (by decide) s1 s2 (fun c6 => ?_) (fun c6 => ?_)
  · have h7 := h4 c6
    exact ev_vret dX5_changePrices_63 (by decide) rfl h7
  · have h8 := h5 c6
    refine ev_aload_n (j := 0) dX5_changePrices_10 rfl rfl ?_
    refine ev_get frX5_32 dX5_changePrices_11 dm6_0 en6_0 rfl ?_
    refine ev_iload_n (j := 2) dX5_changePrices_14 rfl rfl ?_
    obtain ⟨s9, s10, h11⟩ := h8
    refine ev_zald dX5_changePrices_15 dm6_38 ar6_38 (by decide) s9 s10 ?_
    obtain ⟨s12, h13⟩ := h11
    obtain ⟨h14, h15⟩ := h13
    refine ev_if_eq 47 dX5_changePrices_16 (by decide) s12 (fun c16 => ?_) (fun c16 => ?_)
    · have h17 := h14 c16
      refine ev_aload_n (j := 0) dX5_changePrices_47 rfl rfl ?_
      refine ev_get frX5_29 dX5_changePrices_48 dm6_0 en6_0 rfl ?_
      refine ev_iload_n (j := 2) dX5_changePrices_51 rfl rfl ?_
      refine ev_dup2 dX5_changePrices_52 rfl rfl ?_
      refine ev_iald dX5_changePrices_53 dm6_37 ar6_37 (by decide) s9 s10 ?_
      refine ev_iload_n (j := 1) dX5_changePrices_54 rfl rfl ?_
      refine ev_isub dX5_changePrices_55 ?_
      refine ev_iast dX5_changePrices_56 dm6_37 ar6_37 (by decide) s9 s10 ?_
      refine ev_iinc (j := 2) dX5_changePrices_57 rfl (by decide) rfl ?_
      refine ev_goto 2 dX5_changePrices_60 (by decide) ?_
      exact ev_sub [1, 2, 0] rfl h17
    · have h18 := h15 c16
      refine ev_aload_n (j := 0) dX5_changePrices_19 rfl rfl ?_
      refine ev_get frX5_16 dX5_changePrices_20 dm6_0 en6_0 rfl ?_
      refine ev_aload_n (j := 0) dX5_changePrices_23 rfl rfl ?_
      refine ev_get frX5_23 dX5_changePrices_24 dm6_0 en6_0 rfl ?_
      refine ev_iload_n (j := 2) dX5_changePrices_27 rfl rfl ?_
      refine ev_iald dX5_changePrices_28 dm6_35 ar6_35 (by decide) s9 s10 ?_
      refine ev_dup2 dX5_changePrices_29 rfl rfl ?_
      obtain ⟨s19, s20, h21⟩ := h18
      refine ev_iald dX5_changePrices_30 dm6_33 ar6_33 (by decide) s19 s20 ?_
      refine ev_iload_n (j := 1) dX5_changePrices_31 rfl rfl ?_
      refine ev_iadd dX5_changePrices_32 ?_
      refine ev_iast dX5_changePrices_33 dm6_33 ar6_33 (by decide) s19 s20 ?_
      refine ev_aload_n (j := 0) dX5_changePrices_34 rfl rfl ?_
      refine ev_get frX5_20 dX5_changePrices_35 dm6_0 en6_0 rfl ?_
      refine ev_iload_n (j := 2) dX5_changePrices_38 rfl rfl ?_
      refine ev_dup2 dX5_changePrices_39 rfl rfl ?_
      refine ev_iald dX5_changePrices_40 dm6_34 ar6_34 (by decide) s9 s10 ?_
      refine ev_topI (b := M 6 0 34 v2) rfl ?_
      refine ev_iload_n (j := 1) dX5_changePrices_41 rfl rfl ?_
      refine ev_isub dX5_changePrices_42 ?_
      refine ev_iast dX5_changePrices_43 dm6_34 ar6_34 (by decide) s9 s10 ?_
      obtain ⟨M22, e24⟩ : ∃ M22 : Mem, M22 = wr (wr M 6 0 33 (M 6 0 35 v2) ((M 6 0 33 (M 6 0 35 v2)) + v1)) 6 0 34 v2 ((M 6 0 34 v2) - v1) := ⟨_, rfl⟩
      have h23 := h21 _ e24
      refine ev_mem e24 ?_
      refine ev_goto 57 dX5_changePrices_44 (by decide) ?_
      refine ev_iinc (j := 2) dX5_changePrices_57 rfl (by decide) rfl ?_
      refine ev_goto 2 dX5_changePrices_60 (by decide) ?_
      exact ev_sub [1, 2, 0] rfl h23
def eX5_isPair (G : GT) (K : List Value → Mem → Prop) (X : String → Mem → Prop) (pc : Nat) (lv : List (Nat × Value)) (st : List Value) (M : Mem) : Prop := Ex G zX5_isPair 3 0 K X 0 pc lv st M
set_option maxRecDepth 20000 in
set_option maxHeartbeats 4000000 in
theorem bX5_isPair {G : GT} {K : List Value → Mem → Prop} {X : String → Mem → Prop} {M : Mem} {j : Int} (hj0 : 0 ≤ j) (hj1 : j < 12) {v1 v2 : Int} (h : 0 ≤ v1 ∧ v1 < 30 ∧ I32 (M 1 j 10 v1) ∧ ((¬ (M 1 j 10 v1) = 0 → K [iv 0] M) ∧ ((M 1 j 10 v1) = 0 → 0 ≤ v2 ∧ v2 < 30 ∧ I32 (M 1 j 10 v2) ∧ ((¬ (M 1 j 10 v2) = 0 → K [iv 0] M) ∧ ((M 1 j 10 v2) = 0 → Call G 2 0 zX4_canFollow [rr G 1 j 0, iv v2, iv v1] M (kI (fun x23 M21 => I32 x23 ∧ ((x23 = 0 → K [iv 0] M21) ∧ (¬ x23 = 0 → K [iv 1] M21)))) noX))))) : Call G 3 0 zX5_isPair [rr G 1 j 0, iv v1, iv v2] M K X := by
  refine call_intro (lv := [(0, rr G 1 j 0), (1, iv v1), (2, iv v2)]) (by decide) rfl (Nat.le_of_ble_eq_true rfl) rfl ?_
  refine ev_aload_n (j := 0) dX5_isPair_0 rfl rfl ?_
  refine ev_get frX5_36 dX5_isPair_1 (dom1 hj0 hj1 (by decide) (by decide)) en1_0 rfl ?_
  refine ev_get frX5_75 dX5_isPair_4 (dom1 hj0 hj1 (by decide) (by decide)) en1_6 rfl ?_
  refine ev_iload_n (j := 1) dX5_isPair_7 rfl rfl ?_
  obtain ⟨s1, s2, h3⟩ := h
  refine ev_zald dX5_isPair_8 (dom1 hj0 hj1 (by decide) (by decide)) ar1_10 (by decide) s1 s2 ?_
  obtain ⟨s4, h5⟩ := h3
  obtain ⟨h6, h7⟩ := h5
  refine ev_if_ne 37 dX5_isPair_9 (by decide) s4 (fun c8 => ?_) (fun c8 => ?_)
  · have h9 := h6 c8
    refine ev_iconst dX5_isPair_37 ?_
    exact ev_zret dX5_isPair_38 (by decide) rfl (by decide) h9
  · have h10 := h7 c8
    refine ev_aload_n (j := 0) dX5_isPair_12 rfl rfl ?_
    refine ev_get frX5_36 dX5_isPair_13 (dom1 hj0 hj1 (by decide) (by decide)) en1_0 rfl ?_
    refine ev_get frX5_75 dX5_isPair_16 (dom1 hj0 hj1 (by decide) (by decide)) en1_6 rfl ?_
    refine ev_iload_n (j := 2) dX5_isPair_19 rfl rfl ?_
    obtain ⟨s11, s12, h13⟩ := h10
    refine ev_zald dX5_isPair_20 (dom1 hj0 hj1 (by decide) (by decide)) ar1_10 (by decide) s11 s12 ?_
    obtain ⟨s14, h15⟩ := h13
    obtain ⟨h16, h17⟩ := h15
    refine ev_if_ne 37 dX5_isPair_21 (by decide) s14 (fun c18 => ?_) (fun c18 => ?_)
    · have h19 := h16 c18
      refine ev_iconst dX5_isPair_37 ?_
      exact ev_zret dX5_isPair_38 (by decide) rfl (by decide) h19
    · have h20 := h17 c18
      refine ev_aload_n (j := 0) dX5_isPair_24 rfl rfl ?_
      refine ev_iload_n (j := 2) dX5_isPair_25 rfl rfl ?_
      refine ev_iload_n (j := 1) dX5_isPair_26 rfl rfl ?_
      refine ev_callVI (As := [iv v2, iv v1]) (st := []) mfX4_canFollow mlX5_78 dX5_isPair_27 rfl (dom1 hj0 hj1 (by decide) (by decide)) en1_0 rfl rfl rfl (by decide) (by decide) (by decide) (Nat.le_of_ble_eq_true rfl) (fun _ _ z => z.elim) h20 (fun x23 M21 h22 => ?_)
      obtain ⟨s24, h25⟩ := h22
      obtain ⟨h26, h27⟩ := h25
      refine ev_if_eq 37 dX5_isPair_30 (by decide) s24 (fun c28 => ?_) (fun c28 => ?_)
      · have h29 := h26 c28
        refine ev_iconst dX5_isPair_37 ?_
        exact ev_zret dX5_isPair_38 (by decide) rfl (by decide) h29
      · have h30 := h27 c28
        refine ev_iconst dX5_isPair_33 ?_
        refine ev_goto 38 dX5_isPair_34 (by decide) ?_
        exact ev_zret dX5_isPair_38 (by decide) rfl (by decide) h30
def eX5_leastCostAt (G : GT) (K : List Value → Mem → Prop) (X : String → Mem → Prop) (pc : Nat) (lv : List (Nat × Value)) (st : List Value) (M : Mem) : Prop := Ex G zX5_leastCostAt 4 0 K X 0 pc lv st M
set_option maxRecDepth 20000 in
set_option maxHeartbeats 4000000 in
theorem bX5_leastCostAt {G : GT} {K : List Value → Mem → Prop} {X : String → Mem → Prop} {M : Mem} {j : Int} (hj0 : 0 ≤ j) (hj1 : j < 12) {v1 : Int} (h : eX5_leastCostAt G K X 13 [(0, rr G 6 0 0), (1, iv v1), (2, rr G 1 j 0), (3, iv 1)] [] (wr M 6 0 0 7 (M 1 j 6 4))) : Call G 4 0 zX5_leastCostAt [rr G 6 0 0, iv v1, rr G 1 j 0] M K X := by
  refine call_intro (lv := [(0, rr G 6 0 0), (1, iv v1), (2, rr G 1 j 0)]) (by decide) rfl (Nat.le_of_ble_eq_true rfl) rfl ?_
  refine ev_aload_n (j := 0) dX5_leastCostAt_0 rfl rfl ?_
  refine ev_aload_n (j := 2) dX5_leastCostAt_1 rfl rfl ?_
  refine ev_get frX5_36 dX5_leastCostAt_2 (dom1 hj0 hj1 (by decide) (by decide)) en1_0 rfl ?_
  refine ev_get frX5_42 dX5_leastCostAt_5 (dom1 hj0 hj1 (by decide) (by decide)) en1_6 rfl ?_
  refine ev_put fwX5_48 dX5_leastCostAt_8 dm6_0 en6_0 rfl rfl rfl (Nat.le_of_ble_eq_true rfl) ?_
  refine ev_iconst dX5_leastCostAt_11 ?_
  refine ev_istore_n dX5_leastCostAt_12 rfl (by decide) rfl ?_
  exact ev_sub [1, 2, 3, 0] rfl h
set_option maxRecDepth 20000 in
set_option maxHeartbeats 4000000 in
theorem bX5_leastCostAt_13 {G : GT} {K : List Value → Mem → Prop} {X : String → Mem → Prop} {M : Mem} {j : Int} (hj0 : 0 ≤ j) (hj1 : j < 12) {v1 v3 : Int} (h : I32 v3 ∧ I32 (M 6 0 0 7) ∧ (((M 6 0 0 7) < v3 → Call G 0 0 zX8_activeCount [rr G 1 j 6] M (kI (fun x10 M8 => Call G 3 0 zX5_leastValue [rr G 6 0 0] M8 (kI (fun x13 M11 => K [iv ((v1 * x10) + x13)] M11)) noX)) noX) ∧ (¬ (M 6 0 0 7) < v3 → eX5_leastCostAt G K X 24 [(0, rr G 6 0 0), (1, iv v1), (2, rr G 1 j 0), (3, iv v3), (4, iv 1)] [] M))) : eX5_leastCostAt G K X 13 [(0, rr G 6 0 0), (1, iv v1), (2, rr G 1 j 0), (3, iv v3)] [] M := by
  show Ex G zX5_leastCostAt 4 0 K X 0 13 [(0, rr G 6 0 0), (1, iv v1), (2, rr G 1 j 0), (3, iv v3)] [] M
  refine ev_iload_n (j := 3) dX5_leastCostAt_13 rfl rfl ?_
  refine ev_aload_n (j := 0) dX5_leastCostAt_14 rfl rfl ?_
  refine ev_get frX5_48 dX5_leastCostAt_15 dm6_0 en6_0 rfl ?_
  obtain ⟨s1, s2, h3⟩ := h
  obtain ⟨h4, h5⟩ := h3
  refine ev_icmp_gt 107 dX5_leastCostAt_18 (by decide) s1 s2 (fun c6 => ?_) (fun c6 => ?_)
  · have h7 := h4 c6
    refine ev_iload_n (j := 1) dX5_leastCostAt_107 rfl rfl ?_
    refine ev_aload_n (j := 2) dX5_leastCostAt_108 rfl rfl ?_
    refine ev_get frX5_36 dX5_leastCostAt_109 (dom1 hj0 hj1 (by decide) (by decide)) en1_0 rfl ?_
    refine ev_callVI (As := []) (st := [iv v1]) mfX8_activeCount mlX5_72 dX5_leastCostAt_112 rfl (dom1 hj0 hj1 (by decide) (by decide)) en1_6 rfl rfl rfl (by decide) (by decide) (by decide) (Nat.le_of_ble_eq_true rfl) (fun _ _ z => z.elim) h7 (fun x10 M8 h9 => ?_)
    refine ev_imul dX5_leastCostAt_115 ?_
    refine ev_aload_n (j := 0) dX5_leastCostAt_116 rfl rfl ?_
    refine ev_callVI (As := []) (st := [iv (v1 * x10)]) mfX5_leastValue mlX5_55 dX5_leastCostAt_117 rfl dm6_0 en6_0 rfl rfl rfl (by decide) (by decide) (by decide) (Nat.le_of_ble_eq_true rfl) (fun _ _ z => z.elim) h9 (fun x13 M11 h12 => ?_)
    refine ev_iadd dX5_leastCostAt_120 ?_
    exact ev_iret dX5_leastCostAt_121 (by decide) rfl h12
  · have h14 := h5 c6
    refine ev_iconst dX5_leastCostAt_21 ?_
    refine ev_istore dX5_leastCostAt_22 (by decide) rfl ?_
    exact ev_sub [1, 2, 3, 4, 0] rfl h14
set_option maxRecDepth 20000 in
set_option maxHeartbeats 4000000 in
theorem bX5_leastCostAt_24 {G : GT} {K : List Value → Mem → Prop} {X : String → Mem → Prop} {M : Mem} {j : Int} (hj0 : 0 ≤ j) (hj1 : j < 12) {v1 v3 v4 : Int} (h : I32 v4 ∧ I32 (M 6 0 0 7) ∧ (((M 6 0 0 7) < v4 → eX5_leastCostAt G K X 13 [(0, rr G 6 0 0), (1, iv v1), (2, rr G 1 j 0), (3, iv (v3 + 1))] [] M) ∧ (¬ (M 6 0 0 7) < v4 → 0 ≤ v4 - 1 ∧ v4 - 1 < 30 ∧ Call G 1 0 zX4_arrivalOf [rr G 1 j 0, iv (v3 - 1)] M (kI (fun x14 M12 => 0 ≤ v3 ∧ v3 < 31 ∧ Call G 3 0 zX5_isPair [rr G 1 j 0, iv (v3 - 1), iv (v4 - 1)] M12 (kI (fun x20 M18 => I32 x20 ∧ ((x20 = 0 → 0 ≤ v4 ∧ v4 < 31 ∧ eX5_leastCostAt G K X 24 [(0, rr G 6 0 0), (1, iv v1), (2, rr G 1 j 0), (3, iv v3), (4, iv (v4 + 1))] [] (wr M18 6 0 (2 + v3) v4 0)) ∧ (¬ x20 = 0 → I32 (((M 1 j 9 (v4 - 1)) - x14) - v1) ∧ 0 ≤ v4 ∧ v4 < 31 ∧ ∀ M36 : Mem, M36 = wr M18 6 0 (2 + v3) v4 (min (((M 1 j 9 (v4 - 1)) - x14) - v1) 0) → eX5_leastCostAt G K X 24 [(0, rr G 6 0 0), (1, iv v1), (2, rr G 1 j 0), (3, iv v3), (4, iv (v4 + 1))] [] M36)))) noX)) noX))) : eX5_leastCostAt G K X 24 [(0, rr G 6 0 0), (1, iv v1), (2, rr G 1 j 0), (3, iv v3), (4, iv v4)] [] M := by
  show Ex G zX5_leastCostAt 4 0 K X 0 24 [(0, rr G 6 0 0), (1, iv v1), (2, rr G 1 j 0), (3, iv v3), (4, iv v4)] [] M
  refine ev_iload (j := 4) dX5_leastCostAt_24 rfl ?_
  refine ev_aload_n (j := 0) dX5_leastCostAt_26 rfl rfl ?_
  refine ev_get frX5_48 dX5_leastCostAt_27 dm6_0 en6_0 rfl ?_
  obtain ⟨s1, s2, h3⟩ := h
  obtain ⟨h4, h5⟩ := h3
  refine ev_icmp_gt 101 dX5_leastCostAt_30 (by decide) s1 s2 (fun c6 => ?_) (fun c6 => ?_)
  · have h7 := h4 c6
    refine ev_iinc (j := 3) dX5_leastCostAt_101 rfl (by decide) rfl ?_
    refine ev_goto 13 dX5_leastCostAt_104 (by decide) ?_
    exact ev_sub [1, 2, 3, 0] rfl h7
  · have h8 := h5 c6
    refine ev_iload_n (j := 3) dX5_leastCostAt_33 rfl rfl ?_
    refine ev_iconst dX5_leastCostAt_34 ?_
    refine ev_isub dX5_leastCostAt_35 ?_
    refine ev_istore dX5_leastCostAt_36 (by decide) rfl ?_
    refine ev_iload (j := 5) dX5_leastCostAt_38 rfl ?_
    refine ev_iconst dX5_leastCostAt_40 ?_
    refine ev_isub dX5_leastCostAt_41 ?_
    refine ev_istore dX5_leastCostAt_42 (by decide) rfl ?_
    refine ev_aload_n (j := 4) dX5_leastCostAt_44 rfl rfl ?_
    refine ev_get frX5_36 dX5_leastCostAt_45 (dom1 hj0 hj1 (by decide) (by decide)) en1_0 rfl ?_
    refine ev_get frX5_59 dX5_leastCostAt_48 (dom1 hj0 hj1 (by decide) (by decide)) en1_6 rfl ?_
    refine ev_iload (j := 0) dX5_leastCostAt_51 rfl ?_
    obtain ⟨s9, s10, h11⟩ := h8
    refine ev_iald dX5_leastCostAt_53 (dom1 hj0 hj1 (by decide) (by decide)) ar1_9 (by decide) s9 s10 ?_
    refine ev_aload_n (j := 4) dX5_leastCostAt_54 rfl rfl ?_
    refine ev_iload (j := 1) dX5_leastCostAt_55 rfl ?_
    refine ev_callVI (As := [iv (v3 - 1)]) (st := [iv (M 1 j 9 (v4 - 1))]) mfX4_arrivalOf mlX5_62 dX5_leastCostAt_57 rfl (dom1 hj0 hj1 (by decide) (by decide)) en1_0 rfl rfl rfl (by decide) (by decide) (by decide) (Nat.le_of_ble_eq_true rfl) (fun _ _ z => z.elim) h11 (fun x14 M12 h13 => ?_)
    refine ev_isub dX5_leastCostAt_60 ?_
    refine ev_iload_n (j := 3) dX5_leastCostAt_61 rfl rfl ?_
    refine ev_isub dX5_leastCostAt_62 ?_
    refine ev_istore dX5_leastCostAt_63 (by decide) rfl ?_
    refine ev_aload_n (j := 3) dX5_leastCostAt_65 rfl rfl ?_
    refine ev_get frX5_11 dX5_leastCostAt_66 dm6_0 en6_0 rfl ?_
    refine ev_iload_n (j := 6) dX5_leastCostAt_69 rfl rfl ?_
    obtain ⟨s15, s16, h17⟩ := h13
    refine ev_aald (t := 4) (q := ad G 6 0 (2 + v3)) (Or.inr rfl) dX5_leastCostAt_70 dm6_1 rfl (by decide) s15 s16 (by first | rfl | (show some (ad G _ _ (_ + ((v3 : Int).toNat : Int))) = _; rw [Int.toNat_of_nonneg (by omega)]; first | done | rfl)) ?_
    refine ev_iload (j := 7) dX5_leastCostAt_71 rfl ?_
    refine ev_aload_n (j := 5) dX5_leastCostAt_73 rfl rfl ?_
    refine ev_iload (j := 2) dX5_leastCostAt_74 rfl ?_
    refine ev_iload (j := 1) dX5_leastCostAt_76 rfl ?_
    refine ev_callSI (As := [rr G 1 j 0, iv (v3 - 1), iv (v4 - 1)]) (st := [iv v4, rr G 6 0 (2 + v3)]) mfX5_isPair mlX5_51 dX5_leastCostAt_78 rfl rfl (by decide) (by decide) (by decide) (Nat.le_of_ble_eq_true rfl) (fun _ _ z => z.elim) h17 (fun x20 M18 h19 => ?_)
    obtain ⟨s21, h22⟩ := h19
    obtain ⟨h23, h24⟩ := h22
    refine ev_if_eq 93 dX5_leastCostAt_81 (by decide) s21 (fun c25 => ?_) (fun c25 => ?_)
    · have h26 := h23 c25
      refine ev_iconst dX5_leastCostAt_93 ?_
      obtain ⟨s27, s28, h29⟩ := h26
      refine ev_iast dX5_leastCostAt_94 (dom6 (by omega) (by omega)) (row6_2 (by omega) (by omega)) (by decide) s27 s28 ?_
      refine ev_iinc (j := 7) dX5_leastCostAt_95 rfl (by decide) rfl ?_
      refine ev_goto 24 dX5_leastCostAt_98 (by decide) ?_
      exact ev_sub [4, 5, 6, 7, 0] rfl h29
    · have h30 := h24 c25
      refine ev_iload (j := 0) dX5_leastCostAt_84 rfl ?_
      refine ev_iconst dX5_leastCostAt_86 ?_
      obtain ⟨s31, h32⟩ := h30
      refine ev_min mlX5_66 wm_min_st wm_math wm_min_cd dX5_leastCostAt_87 (by decide) (by decide) (Nat.le_of_ble_eq_true rfl) s31 ⟨by decide, by decide⟩ ?_
      refine ev_goto 94 dX5_leastCostAt_90 (by decide) ?_
      obtain ⟨s33, s34, h35⟩ := h32
      refine ev_iast dX5_leastCostAt_94 (dom6 (by omega) (by omega)) (row6_2 (by omega) (by omega)) (by decide) s33 s34 ?_
      obtain ⟨M36, e38⟩ : ∃ M36 : Mem, M36 = wr M18 6 0 (2 + v3) v4 (min (((M 1 j 9 (v4 - 1)) - x14) - v1) 0) := ⟨_, rfl⟩
      have h37 := h35 _ e38
      refine ev_mem e38 ?_
      refine ev_iinc (j := 7) dX5_leastCostAt_95 rfl (by decide) rfl ?_
      refine ev_goto 24 dX5_leastCostAt_98 (by decide) ?_
      exact ev_sub [4, 5, 6, 7, 0] rfl h37
def eX5_leastValue (G : GT) (K : List Value → Mem → Prop) (X : String → Mem → Prop) (pc : Nat) (lv : List (Nat × Value)) (st : List Value) (M : Mem) : Prop := Ex G zX5_leastValue 3 0 K X 0 pc lv st M
set_option maxRecDepth 20000 in
set_option maxHeartbeats 4000000 in
theorem bX5_leastValue {G : GT} {K : List Value → Mem → Prop} {X : String → Mem → Prop} {M : Mem} (h : Call G 1 0 zfill [rr G 6 0 33, iv 0] M (kV (fun M1 => Call G 1 0 zfill [rr G 6 0 34, iv 0] M1 (kV (fun M4 => Call G 1 0 zfill [rr G 6 0 35, iv 0] M4 (kV (fun M7 => eX5_leastValue G K X 26 [(0, rr G 6 0 0), (1, iv 1)] [] M7)) noX)) noX)) noX) : Call G 3 0 zX5_leastValue [rr G 6 0 0] M K X := by
  refine call_intro (lv := [(0, rr G 6 0 0)]) (by decide) rfl (Nat.le_of_ble_eq_true rfl) rfl ?_
  refine ev_aload_n (j := 0) dX5_leastValue_0 rfl rfl ?_
  refine ev_get frX5_16 dX5_leastValue_1 dm6_0 en6_0 rfl ?_
  refine ev_iconst dX5_leastValue_4 ?_
  refine ev_callSV (As := [rr G 6 0 33, iv 0]) (st := []) mffill mlX5_82 dX5_leastValue_5 rfl rfl (by decide) (by decide) (by decide) (Nat.le_of_ble_eq_true rfl) (fun _ _ z => z.elim) h (fun M1 h2 => ?_)
  refine ev_aload_n (j := 0) dX5_leastValue_8 rfl rfl ?_
  refine ev_get frX5_20 dX5_leastValue_9 dm6_0 en6_0 rfl ?_
  refine ev_iconst dX5_leastValue_12 ?_
  refine ev_callSV (As := [rr G 6 0 34, iv 0]) (st := []) mffill mlX5_82 dX5_leastValue_13 rfl rfl (by decide) (by decide) (by decide) (Nat.le_of_ble_eq_true rfl) (fun _ _ z => z.elim) h2 (fun M4 h5 => ?_)
  refine ev_aload_n (j := 0) dX5_leastValue_16 rfl rfl ?_
  refine ev_get frX5_23 dX5_leastValue_17 dm6_0 en6_0 rfl ?_
  refine ev_iconst dX5_leastValue_20 ?_
  refine ev_callSV (As := [rr G 6 0 35, iv 0]) (st := []) mffill mlX5_82 dX5_leastValue_21 rfl rfl (by decide) (by decide) (by decide) (Nat.le_of_ble_eq_true rfl) (fun _ _ z => z.elim) h5 (fun M7 h8 => ?_)
  refine ev_iconst dX5_leastValue_24 ?_
  refine ev_istore_n dX5_leastValue_25 rfl (by decide) rfl ?_
  exact ev_sub [1, 0] rfl h8
set_option maxRecDepth 20000 in
set_option maxHeartbeats 4000000 in
theorem bX5_leastValue_26 {G : GT} {K : List Value → Mem → Prop} {X : String → Mem → Prop} {M : Mem} {v1 : Int} (h : I32 v1 ∧ I32 (M 6 0 0 7) ∧ (((M 6 0 0 7) < v1 → eX5_leastValue G K X 49 [(0, rr G 6 0 0), (1, iv 0), (2, iv 1)] [] M) ∧ (¬ (M 6 0 0 7) < v1 → Call G 2 0 zX5_assign [rr G 6 0 0, iv v1] M (kV (fun M9 => eX5_leastValue G K X 26 [(0, rr G 6 0 0), (1, iv (v1 + 1))] [] M9)) noX))) : eX5_leastValue G K X 26 [(0, rr G 6 0 0), (1, iv v1)] [] M := by
  show Ex G zX5_leastValue 3 0 K X 0 26 [(0, rr G 6 0 0), (1, iv v1)] [] M
  refine ev_iload_n (j := 1) dX5_leastValue_26 rfl rfl ?_
  refine ev_aload_n (j := 0) dX5_leastValue_27 rfl rfl ?_
  refine ev_get frX5_48 dX5_leastValue_28 dm6_0 en6_0 rfl ?_
  obtain ⟨s1, s2, h3⟩ := h
  obtain ⟨h4, h5⟩ := h3
  refine ev_icmp_gt 45 dX5_leastValue_31 (by decide) s1 s2 (fun c6 => ?_) (fun c6 => ?_)
  · have h7 := h4 c6
    refine ev_iconst dX5_leastValue_45 ?_
    refine ev_istore_n dX5_leastValue_46 rfl (by decide) rfl ?_
    refine ev_iconst dX5_leastValue_47 ?_
    refine ev_istore_n dX5_leastValue_48 rfl (by decide) rfl ?_
    exact ev_sub [2, 1, 0] rfl h7
  · have h8 := h5 c6
    refine ev_aload_n (j := 0) dX5_leastValue_34 rfl rfl ?_
    refine ev_iload_n (j := 1) dX5_leastValue_35 rfl rfl ?_
    refine ev_callVV (As := [iv v1]) (st := []) mfX5_assign mlX5_88 dX5_leastValue_36 rfl dm6_0 en6_0 rfl rfl rfl (by decide) (by decide) (by decide) (Nat.le_of_ble_eq_true rfl) (fun _ _ z => z.elim) h8 (fun M9 h10 => ?_)
    refine ev_iinc (j := 1) dX5_leastValue_39 rfl (by decide) rfl ?_
    refine ev_goto 26 dX5_leastValue_42 (by decide) ?_
    exact ev_sub [1, 0] rfl h10
set_option maxRecDepth 20000 in
set_option maxHeartbeats 4000000 in
theorem bX5_leastValue_49 {G : GT} {K : List Value → Mem → Prop} {X : String → Mem → Prop} {M : Mem} {v1 v2 : Int} (h : I32 v2 ∧ I32 (M 6 0 0 7) ∧ (((M 6 0 0 7) < v2 → K [iv v1] M) ∧ (¬ (M 6 0 0 7) < v2 → 0 ≤ v2 ∧ v2 < 31 ∧ 0 ≤ M 6 0 35 v2 ∧ M 6 0 35 v2 < 31 ∧ eX5_leastValue G K X 49 [(0, rr G 6 0 0), (1, iv (v1 + (M 6 0 (2 + (M 6 0 35 v2)) v2))), (2, iv (v2 + 1))] [] M))) : eX5_leastValue G K X 49 [(0, rr G 6 0 0), (1, iv v1), (2, iv v2)] [] M := by
  show Ex G zX5_leastValue 3 0 K X 0 49 [(0, rr G 6 0 0), (1, iv v1), (2, iv v2)] [] M
  refine ev_iload_n (j := 2) dX5_leastValue_49 rfl rfl ?_
  refine ev_aload_n (j := 0) dX5_leastValue_50 rfl rfl ?_
  refine ev_get frX5_48 dX5_leastValue_51 dm6_0 en6_0 rfl ?_
  obtain ⟨s1, s2, h3⟩ := h
  obtain ⟨h4, h5⟩ := h3
  refine ev_icmp_gt 79 dX5_leastValue_54 (by decide) s1 s2 (fun c6 => ?_) (fun c6 => ?_)
  · have h7 := h4 c6
    refine ev_iload_n (j := 1) dX5_leastValue_79 rfl rfl ?_
    exact ev_iret dX5_leastValue_80 (by decide) rfl h7
  · have h8 := h5 c6
    refine ev_iload_n (j := 1) dX5_leastValue_57 rfl rfl ?_
    refine ev_aload_n (j := 0) dX5_leastValue_58 rfl rfl ?_
    refine ev_get frX5_11 dX5_leastValue_59 dm6_0 en6_0 rfl ?_
    refine ev_aload_n (j := 0) dX5_leastValue_62 rfl rfl ?_
    refine ev_get frX5_23 dX5_leastValue_63 dm6_0 en6_0 rfl ?_
    refine ev_iload_n (j := 2) dX5_leastValue_66 rfl rfl ?_
    obtain ⟨s9, s10, h11⟩ := h8
    refine ev_iald dX5_leastValue_67 dm6_35 ar6_35 (by decide) s9 s10 ?_
    obtain ⟨s12, s13, h14⟩ := h11
    refine ev_aald (t := 4) (q := ad G 6 0 (2 + (M 6 0 35 v2))) (Or.inr rfl) dX5_leastValue_68 dm6_1 rfl (by decide) s12 s13 (by first | rfl | (show some (ad G _ _ (_ + ((M 6 0 35 v2 : Int).toNat : Int))) = _; rw [Int.toNat_of_nonneg (by omega)]; first | done | rfl)) ?_
    refine ev_iload_n (j := 2) dX5_leastValue_69 rfl rfl ?_
    refine ev_iald dX5_leastValue_70 (dom6 (by omega) (by omega)) (row6_2 (by omega) (by omega)) (by decide) s9 s10 ?_
    refine ev_iadd dX5_leastValue_71 ?_
    refine ev_istore_n dX5_leastValue_72 rfl (by decide) rfl ?_
    refine ev_iinc (j := 2) dX5_leastValue_73 rfl (by decide) rfl ?_
    refine ev_goto 49 dX5_leastValue_76 (by decide) ?_
    exact ev_sub [2, 1, 0] rfl h14
def eX5_mostPairs (G : GT) (K : List Value → Mem → Prop) (X : String → Mem → Prop) (pc : Nat) (lv : List (Nat × Value)) (st : List Value) (M : Mem) : Prop := Ex G zX5_mostPairs 4 0 K X 0 pc lv st M
set_option maxRecDepth 20000 in
set_option maxHeartbeats 4000000 in
theorem bX5_mostPairs {G : GT} {K : List Value → Mem → Prop} {X : String → Mem → Prop} {M : Mem} {j : Int} (hj0 : 0 ≤ j) (hj1 : j < 12) (h : eX5_mostPairs G K X 13 [(0, rr G 6 0 0), (1, rr G 1 j 0), (2, iv 1)] [] (wr M 6 0 0 7 (M 1 j 6 4))) : Call G 4 0 zX5_mostPairs [rr G 6 0 0, rr G 1 j 0] M K X := by
  refine call_intro (lv := [(0, rr G 6 0 0), (1, rr G 1 j 0)]) (by decide) rfl (Nat.le_of_ble_eq_true rfl) rfl ?_
  refine ev_aload_n (j := 0) dX5_mostPairs_0 rfl rfl ?_
  refine ev_aload_n (j := 1) dX5_mostPairs_1 rfl rfl ?_
  refine ev_get frX5_36 dX5_mostPairs_2 (dom1 hj0 hj1 (by decide) (by decide)) en1_0 rfl ?_
  refine ev_get frX5_42 dX5_mostPairs_5 (dom1 hj0 hj1 (by decide) (by decide)) en1_6 rfl ?_
  refine ev_put fwX5_48 dX5_mostPairs_8 dm6_0 en6_0 rfl rfl rfl (Nat.le_of_ble_eq_true rfl) ?_
  refine ev_iconst dX5_mostPairs_11 ?_
  refine ev_istore_n dX5_mostPairs_12 rfl (by decide) rfl ?_
  exact ev_sub [1, 2, 0] rfl h
set_option maxRecDepth 20000 in
set_option maxHeartbeats 4000000 in
theorem bX5_mostPairs_13 {G : GT} {K : List Value → Mem → Prop} {X : String → Mem → Prop} {M : Mem} {j : Int} (hj0 : 0 ≤ j) (hj1 : j < 12) {v2 : Int} (h : I32 v2 ∧ I32 (M 6 0 0 7) ∧ (((M 6 0 0 7) < v2 → Call G 3 0 zX5_leastValue [rr G 6 0 0] M (kI (fun x10 M8 => K [iv (-x10)] M8)) noX) ∧ (¬ (M 6 0 0 7) < v2 → eX5_mostPairs G K X 23 [(0, rr G 6 0 0), (1, rr G 1 j 0), (2, iv v2), (3, iv 1)] [] M))) : eX5_mostPairs G K X 13 [(0, rr G 6 0 0), (1, rr G 1 j 0), (2, iv v2)] [] M := by
  show Ex G zX5_mostPairs 4 0 K X 0 13 [(0, rr G 6 0 0), (1, rr G 1 j 0), (2, iv v2)] [] M
  refine ev_iload_n (j := 2) dX5_mostPairs_13 rfl rfl ?_
  refine ev_aload_n (j := 0) dX5_mostPairs_14 rfl rfl ?_
  refine ev_get frX5_48 dX5_mostPairs_15 dm6_0 en6_0 rfl ?_
  obtain ⟨s1, s2, h3⟩ := h
  obtain ⟨h4, h5⟩ := h3
  refine ev_icmp_gt 69 dX5_mostPairs_18 (by decide) s1 s2 (fun c6 => ?_) (fun c6 => ?_)
  · have h7 := h4 c6
    refine ev_aload_n (j := 0) dX5_mostPairs_69 rfl rfl ?_
    refine ev_callVI (As := []) (st := []) mfX5_leastValue mlX5_55 dX5_mostPairs_70 rfl dm6_0 en6_0 rfl rfl rfl (by decide) (by decide) (by decide) (Nat.le_of_ble_eq_true rfl) (fun _ _ z => z.elim) h7 (fun x10 M8 h9 => ?_)
    refine ev_ineg dX5_mostPairs_73 ?_
    exact ev_iret dX5_mostPairs_74 (by decide) rfl h9
  · have h11 := h5 c6
    refine ev_iconst dX5_mostPairs_21 ?_
    refine ev_istore_n dX5_mostPairs_22 rfl (by decide) rfl ?_
    exact ev_sub [1, 2, 3, 0] rfl h11
set_option maxRecDepth 20000 in
set_option maxHeartbeats 4000000 in
theorem bX5_mostPairs_23 {G : GT} {K : List Value → Mem → Prop} {X : String → Mem → Prop} {M : Mem} {j : Int} (hj0 : 0 ≤ j) (hj1 : j < 12) {v2 v3 : Int} (h : I32 v3 ∧ I32 (M 6 0 0 7) ∧ (((M 6 0 0 7) < v3 → eX5_mostPairs G K X 13 [(0, rr G 6 0 0), (1, rr G 1 j 0), (2, iv (v2 + 1))] [] M) ∧ (¬ (M 6 0 0 7) < v3 → 0 ≤ v2 ∧ v2 < 31 ∧ Call G 3 0 zX5_isPair [rr G 1 j 0, iv (v2 - 1), iv (v3 - 1)] M (kI (fun x14 M12 => I32 x14 ∧ ((x14 = 0 → 0 ≤ v3 ∧ v3 < 31 ∧ eX5_mostPairs G K X 23 [(0, rr G 6 0 0), (1, rr G 1 j 0), (2, iv v2), (3, iv (v3 + 1))] [] (wr M12 6 0 (2 + v2) v3 0)) ∧ (¬ x14 = 0 → 0 ≤ v3 ∧ v3 < 31 ∧ eX5_mostPairs G K X 23 [(0, rr G 6 0 0), (1, rr G 1 j 0), (2, iv v2), (3, iv (v3 + 1))] [] (wr M12 6 0 (2 + v2) v3 (-1)))))) noX))) : eX5_mostPairs G K X 23 [(0, rr G 6 0 0), (1, rr G 1 j 0), (2, iv v2), (3, iv v3)] [] M := by
  show Ex G zX5_mostPairs 4 0 K X 0 23 [(0, rr G 6 0 0), (1, rr G 1 j 0), (2, iv v2), (3, iv v3)] [] M
  refine ev_iload_n (j := 3) dX5_mostPairs_23 rfl rfl ?_
  refine ev_aload_n (j := 0) dX5_mostPairs_24 rfl rfl ?_
  refine ev_get frX5_48 dX5_mostPairs_25 dm6_0 en6_0 rfl ?_
  obtain ⟨s1, s2, h3⟩ := h
  obtain ⟨h4, h5⟩ := h3
  refine ev_icmp_gt 63 dX5_mostPairs_28 (by decide) s1 s2 (fun c6 => ?_) (fun c6 => ?_)
  · have h7 := h4 c6
    refine ev_iinc (j := 2) dX5_mostPairs_63 rfl (by decide) rfl ?_
    refine ev_goto 13 dX5_mostPairs_66 (by decide) ?_
    exact ev_sub [1, 2, 0] rfl h7
  · have h8 := h5 c6
    refine ev_aload_n (j := 0) dX5_mostPairs_31 rfl rfl ?_
    refine ev_get frX5_11 dX5_mostPairs_32 dm6_0 en6_0 rfl ?_
    refine ev_iload_n (j := 2) dX5_mostPairs_35 rfl rfl ?_
    obtain ⟨s9, s10, h11⟩ := h8
    refine ev_aald (t := 4) (q := ad G 6 0 (2 + v2)) (Or.inr rfl) dX5_mostPairs_36 dm6_1 rfl (by decide) s9 s10 (by first | rfl | (show some (ad G _ _ (_ + ((v2 : Int).toNat : Int))) = _; rw [Int.toNat_of_nonneg (by omega)]; first | done | rfl)) ?_
    refine ev_iload_n (j := 3) dX5_mostPairs_37 rfl rfl ?_
    refine ev_aload_n (j := 1) dX5_mostPairs_38 rfl rfl ?_
    refine ev_iload_n (j := 2) dX5_mostPairs_39 rfl rfl ?_
    refine ev_iconst dX5_mostPairs_40 ?_
    refine ev_isub dX5_mostPairs_41 ?_
    refine ev_iload_n (j := 3) dX5_mostPairs_42 rfl rfl ?_
    refine ev_iconst dX5_mostPairs_43 ?_
    refine ev_isub dX5_mostPairs_44 ?_
    refine ev_callSI (As := [rr G 1 j 0, iv (v2 - 1), iv (v3 - 1)]) (st := [iv v3, rr G 6 0 (2 + v2)]) mfX5_isPair mlX5_51 dX5_mostPairs_45 rfl rfl (by decide) (by decide) (by decide) (Nat.le_of_ble_eq_true rfl) (fun _ _ z => z.elim) h11 (fun x14 M12 h13 => ?_)
    obtain ⟨s15, h16⟩ := h13
    obtain ⟨h17, h18⟩ := h16
    refine ev_if_eq 55 dX5_mostPairs_48 (by decide) s15 (fun c19 => ?_) (fun c19 => ?_)
    · have h20 := h17 c19
      refine ev_iconst dX5_mostPairs_55 ?_
      obtain ⟨s21, s22, h23⟩ := h20
      refine ev_iast dX5_mostPairs_56 (dom6 (by omega) (by omega)) (row6_2 (by omega) (by omega)) (by decide) s21 s22 ?_
      refine ev_iinc (j := 3) dX5_mostPairs_57 rfl (by decide) rfl ?_
      refine ev_goto 23 dX5_mostPairs_60 (by decide) ?_
      exact ev_sub [1, 2, 3, 0] rfl h23
    · have h24 := h18 c19
      refine ev_iconst dX5_mostPairs_51 ?_
      refine ev_goto 56 dX5_mostPairs_52 (by decide) ?_
      obtain ⟨s25, s26, h27⟩ := h24
      refine ev_iast dX5_mostPairs_56 (dom6 (by omega) (by omega)) (row6_2 (by omega) (by omega)) (by decide) s25 s26 ?_
      refine ev_iinc (j := 3) dX5_mostPairs_57 rfl (by decide) rfl ?_
      refine ev_goto 23 dX5_mostPairs_60 (by decide) ?_
      exact ev_sub [1, 2, 3, 0] rfl h27
def eX5_reachFrom (G : GT) (K : List Value → Mem → Prop) (X : String → Mem → Prop) (pc : Nat) (lv : List (Nat × Value)) (st : List Value) (M : Mem) : Prop := Ex G zX5_reachFrom 1 0 K X 0 pc lv st M
set_option maxRecDepth 20000 in
set_option maxHeartbeats 4000000 in
theorem bX5_reachFrom {G : GT} {K : List Value → Mem → Prop} {X : String → Mem → Prop} {M : Mem} {v1 : Int} (h : 0 ≤ v1 ∧ v1 < 31 ∧ eX5_reachFrom G K X 19 [(0, rr G 6 0 0), (1, iv v1), (2, iv (M 6 0 35 v1)), (3, iv 0), (4, iv 1)] [] (wr M 6 0 38 v1 1)) : Call G 1 0 zX5_reachFrom [rr G 6 0 0, iv v1] M K X := by
  refine call_intro (lv := [(0, rr G 6 0 0), (1, iv v1)]) (by decide) rfl (Nat.le_of_ble_eq_true rfl) rfl ?_
  refine ev_aload_n (j := 0) dX5_reachFrom_0 rfl rfl ?_
  refine ev_get frX5_32 dX5_reachFrom_1 dm6_0 en6_0 rfl ?_
  refine ev_iload_n (j := 1) dX5_reachFrom_4 rfl rfl ?_
  refine ev_iconst dX5_reachFrom_5 ?_
  obtain ⟨s1, s2, h3⟩ := h
  refine ev_zast dX5_reachFrom_6 dm6_38 ar6_38 (by decide) s1 s2 (by decide) ?_
  refine ev_aload_n (j := 0) dX5_reachFrom_7 rfl rfl ?_
  refine ev_get frX5_23 dX5_reachFrom_8 dm6_0 en6_0 rfl ?_
  refine ev_iload_n (j := 1) dX5_reachFrom_11 rfl rfl ?_
  refine ev_iald dX5_reachFrom_12 dm6_35 ar6_35 (by decide) s1 s2 ?_
  refine ev_topI (b := M 6 0 35 v1) rfl ?_
  refine ev_istore_n dX5_reachFrom_13 rfl (by decide) rfl ?_
  refine ev_iconst dX5_reachFrom_14 ?_
  refine ev_istore_n dX5_reachFrom_15 rfl (by decide) rfl ?_
  refine ev_iconst dX5_reachFrom_16 ?_
  refine ev_istore dX5_reachFrom_17 (by decide) rfl ?_
  exact ev_sub [3, 4, 2, 1, 0] rfl h3
set_option maxRecDepth 20000 in
set_option maxHeartbeats 4000000 in
theorem bX5_reachFrom_19 {G : GT} {K : List Value → Mem → Prop} {X : String → Mem → Prop} {M : Mem} {v1 v2 v3 v4 : Int} (h : I32 v4 ∧ I32 (M 6 0 0 7) ∧ (((M 6 0 0 7) < v4 → I32 v3 ∧ ((¬ v3 = 0 → 0 ≤ v3 ∧ v3 < 31 ∧ Call G 0 0 zX5_changePrices [rr G 6 0 0, iv (M 6 0 37 v3)] M (kV (fun M17 => K [iv v3] M17)) noX) ∧ (v3 = 0 → Call G 0 0 zX5_changePrices [rr G 6 0 0, iv 0] M (kV (fun M21 => K [iv v3] M21)) noX))) ∧ (¬ (M 6 0 0 7) < v4 → 0 ≤ v4 ∧ v4 < 31 ∧ I32 (M 6 0 38 v4) ∧ ((¬ (M 6 0 38 v4) = 0 → eX5_reachFrom G K X 19 [(0, rr G 6 0 0), (1, iv v1), (2, iv v2), (3, iv v3), (4, iv (v4 + 1))] [] M) ∧ ((M 6 0 38 v4) = 0 → 0 ≤ v2 ∧ v2 < 31 ∧ I32 (((M 6 0 (2 + v2) v4) - (M 6 0 33 v2)) - (M 6 0 34 v4)) ∧ I32 (M 6 0 37 v4) ∧ ((¬ (((M 6 0 (2 + v2) v4) - (M 6 0 33 v2)) - (M 6 0 34 v4)) < (M 6 0 37 v4) → I32 v3 ∧ ((v3 = 0 → eX5_reachFrom G K X 19 [(0, rr G 6 0 0), (1, iv v1), (2, iv v2), (3, iv v4), (4, iv (v4 + 1))] [] M) ∧ (¬ v3 = 0 → 0 ≤ v3 ∧ v3 < 31 ∧ I32 (M 6 0 37 v3) ∧ ((¬ (M 6 0 37 v4) < (M 6 0 37 v3) → eX5_reachFrom G K X 19 [(0, rr G 6 0 0), (1, iv v1), (2, iv v2), (3, iv v3), (4, iv (v4 + 1))] [] M) ∧ ((M 6 0 37 v4) < (M 6 0 37 v3) → eX5_reachFrom G K X 19 [(0, rr G 6 0 0), (1, iv v1), (2, iv v2), (3, iv v4), (4, iv (v4 + 1))] [] M))))) ∧ ((((M 6 0 (2 + v2) v4) - (M 6 0 33 v2)) - (M 6 0 34 v4)) < (M 6 0 37 v4) → ∀ M63 : Mem, M63 = wr M 6 0 37 v4 (((M 6 0 (2 + v2) v4) - (M 6 0 33 v2)) - (M 6 0 34 v4)) → I32 v3 ∧ ((v3 = 0 → eX5_reachFrom G K X 19 [(0, rr G 6 0 0), (1, iv v1), (2, iv v2), (3, iv v4), (4, iv (v4 + 1))] [] (wr M63 6 0 36 v4 v1)) ∧ (¬ v3 = 0 → 0 ≤ v3 ∧ v3 < 31 ∧ I32 (M63 6 0 37 v4) ∧ I32 (M63 6 0 37 v3) ∧ ((¬ (M63 6 0 37 v4) < (M63 6 0 37 v3) → eX5_reachFrom G K X 19 [(0, rr G 6 0 0), (1, iv v1), (2, iv v2), (3, iv v3), (4, iv (v4 + 1))] [] (wr M63 6 0 36 v4 v1)) ∧ ((M63 6 0 37 v4) < (M63 6 0 37 v3) → eX5_reachFrom G K X 19 [(0, rr G 6 0 0), (1, iv v1), (2, iv v2), (3, iv v4), (4, iv (v4 + 1))] [] (wr M63 6 0 36 v4 v1)))))))))))) : eX5_reachFrom G K X 19 [(0, rr G 6 0 0), (1, iv v1), (2, iv v2), (3, iv v3), (4, iv v4)] [] M := by
  show Ex G zX5_reachFrom 1 0 K X 0 19 [(0, rr G 6 0 0), (1, iv v1), (2, iv v2), (3, iv v3), (4, iv v4)] [] M
  refine ev_iload (j := 4) dX5_reachFrom_19 rfl ?_
  refine ev_aload_n (j := 0) dX5_reachFrom_21 rfl rfl ?_
  refine ev_get frX5_48 dX5_reachFrom_22 dm6_0 en6_0 rfl ?_
  obtain ⟨s1, s2, h3⟩ := h
  obtain ⟨h4, h5⟩ := h3
  refine ev_icmp_gt 122 dX5_reachFrom_25 (by decide) s1 s2 (fun c6 => ?_) (fun c6 => ?_)
  · have h7 := h4 c6
    refine ev_aload_n (j := 0) dX5_reachFrom_122 rfl rfl ?_
    refine ev_iload_n (j := 3) dX5_reachFrom_123 rfl rfl ?_
    obtain ⟨s8, h9⟩ := h7
    obtain ⟨h10, h11⟩ := h9
    refine ev_if_ne 131 dX5_reachFrom_124 (by decide) s8 (fun c12 => ?_) (fun c12 => ?_)
    · have h13 := h10 c12
      refine ev_aload_n (j := 0) dX5_reachFrom_131 rfl rfl ?_
      refine ev_get frX5_29 dX5_reachFrom_132 dm6_0 en6_0 rfl ?_
      refine ev_iload_n (j := 3) dX5_reachFrom_135 rfl rfl ?_
      obtain ⟨s14, s15, h16⟩ := h13
      refine ev_iald dX5_reachFrom_136 dm6_37 ar6_37 (by decide) s14 s15 ?_
      refine ev_callVV (As := [iv (M 6 0 37 v3)]) (st := []) mfX5_changePrices mlX5_96 dX5_reachFrom_137 rfl dm6_0 en6_0 rfl rfl rfl (by decide) (by decide) (by decide) (Nat.le_of_ble_eq_true rfl) (fun _ _ z => z.elim) h16 (fun M17 h18 => ?_)
      refine ev_iload_n (j := 3) dX5_reachFrom_140 rfl rfl ?_
      exact ev_iret dX5_reachFrom_141 (by decide) rfl h18
    · have h20 := h11 c12
      refine ev_iconst dX5_reachFrom_127 ?_
      refine ev_goto 137 dX5_reachFrom_128 (by decide) ?_
      refine ev_callVV (As := [iv 0]) (st := []) mfX5_changePrices mlX5_96 dX5_reachFrom_137 rfl dm6_0 en6_0 rfl rfl rfl (by decide) (by decide) (by decide) (Nat.le_of_ble_eq_true rfl) (fun _ _ z => z.elim) h20 (fun M21 h22 => ?_)
      refine ev_iload_n (j := 3) dX5_reachFrom_140 rfl rfl ?_
      exact ev_iret dX5_reachFrom_141 (by decide) rfl h22
  · have h24 := h5 c6
    refine ev_aload_n (j := 0) dX5_reachFrom_28 rfl rfl ?_
    refine ev_get frX5_32 dX5_reachFrom_29 dm6_0 en6_0 rfl ?_
    refine ev_iload (j := 4) dX5_reachFrom_32 rfl ?_
    obtain ⟨s25, s26, h27⟩ := h24
    refine ev_zald dX5_reachFrom_34 dm6_38 ar6_38 (by decide) s25 s26 ?_
    obtain ⟨s28, h29⟩ := h27
    obtain ⟨h30, h31⟩ := h29
    refine ev_if_ne 116 dX5_reachFrom_35 (by decide) s28 (fun c32 => ?_) (fun c32 => ?_)
    · have h33 := h30 c32
      refine ev_iinc (j := 4) dX5_reachFrom_116 rfl (by decide) rfl ?_
      refine ev_goto 19 dX5_reachFrom_119 (by decide) ?_
      exact ev_sub [1, 2, 3, 4, 0] rfl h33
    · have h34 := h31 c32
      refine ev_aload_n (j := 0) dX5_reachFrom_38 rfl rfl ?_
      refine ev_get frX5_11 dX5_reachFrom_39 dm6_0 en6_0 rfl ?_
      refine ev_iload_n (j := 2) dX5_reachFrom_42 rfl rfl ?_
      obtain ⟨s35, s36, h37⟩ := h34
      refine ev_aald (t := 4) (q := ad G 6 0 (2 + v2)) (Or.inr rfl) dX5_reachFrom_43 dm6_1 rfl (by decide) s35 s36 (by first | rfl | (show some (ad G _ _ (_ + ((v2 : Int).toNat : Int))) = _; rw [Int.toNat_of_nonneg (by omega)]; first | done | rfl)) ?_
      refine ev_iload (j := 4) dX5_reachFrom_44 rfl ?_
      refine ev_iald dX5_reachFrom_46 (dom6 (by omega) (by omega)) (row6_2 (by omega) (by omega)) (by decide) s25 s26 ?_
      refine ev_aload_n (j := 0) dX5_reachFrom_47 rfl rfl ?_
      refine ev_get frX5_16 dX5_reachFrom_48 dm6_0 en6_0 rfl ?_
      refine ev_iload_n (j := 2) dX5_reachFrom_51 rfl rfl ?_
      refine ev_iald dX5_reachFrom_52 dm6_33 ar6_33 (by decide) s35 s36 ?_
      refine ev_isub dX5_reachFrom_53 ?_
      refine ev_aload_n (j := 0) dX5_reachFrom_54 rfl rfl ?_
      refine ev_get frX5_20 dX5_reachFrom_55 dm6_0 en6_0 rfl ?_
      refine ev_iload (j := 4) dX5_reachFrom_58 rfl ?_
      refine ev_iald dX5_reachFrom_60 dm6_34 ar6_34 (by decide) s25 s26 ?_
      refine ev_isub dX5_reachFrom_61 ?_
      refine ev_istore dX5_reachFrom_62 (by decide) rfl ?_
      refine ev_iload (j := 0) dX5_reachFrom_64 rfl ?_
      refine ev_aload_n (j := 1) dX5_reachFrom_66 rfl rfl ?_
      refine ev_get frX5_29 dX5_reachFrom_67 dm6_0 en6_0 rfl ?_
      refine ev_iload (j := 5) dX5_reachFrom_70 rfl ?_
      refine ev_iald dX5_reachFrom_72 dm6_37 ar6_37 (by decide) s25 s26 ?_
      obtain ⟨s38, s39, h40⟩ := h37
      obtain ⟨h41, h42⟩ := h40
      refine ev_icmp_ge 93 dX5_reachFrom_73 (by decide) s38 s39 (fun c43 => ?_) (fun c43 => ?_)
      · have h44 := h41 c43
        refine ev_iload_n (j := 4) dX5_reachFrom_93 rfl rfl ?_
        obtain ⟨s45, h46⟩ := h44
        obtain ⟨h47, h48⟩ := h46
        refine ev_if_eq 113 dX5_reachFrom_94 (by decide) s45 (fun c49 => ?_) (fun c49 => ?_)
        · have h50 := h47 c49
          refine ev_iload (j := 5) dX5_reachFrom_113 rfl ?_
          refine ev_istore_n dX5_reachFrom_115 rfl (by decide) rfl ?_
          refine ev_iinc (j := 5) dX5_reachFrom_116 rfl (by decide) rfl ?_
          refine ev_goto 19 dX5_reachFrom_119 (by decide) ?_
          exact ev_sub [3, 4, 5, 1, 0] rfl h50
        · have h51 := h48 c49
          refine ev_aload_n (j := 1) dX5_reachFrom_97 rfl rfl ?_
          refine ev_get frX5_29 dX5_reachFrom_98 dm6_0 en6_0 rfl ?_
          refine ev_iload (j := 5) dX5_reachFrom_101 rfl ?_
          refine ev_iald dX5_reachFrom_103 dm6_37 ar6_37 (by decide) s25 s26 ?_
          refine ev_aload_n (j := 1) dX5_reachFrom_104 rfl rfl ?_
          refine ev_get frX5_29 dX5_reachFrom_105 dm6_0 en6_0 rfl ?_
          refine ev_iload_n (j := 4) dX5_reachFrom_108 rfl rfl ?_
          obtain ⟨s52, s53, h54⟩ := h51
          refine ev_iald dX5_reachFrom_109 dm6_37 ar6_37 (by decide) s52 s53 ?_
          obtain ⟨s55, h56⟩ := h54
          obtain ⟨h57, h58⟩ := h56
          refine ev_icmp_ge 116 dX5_reachFrom_110 (by decide) s39 s55 (fun c59 => ?_) (fun c59 => ?_)
          · have h60 := h57 c59
            refine ev_iinc (j := 5) dX5_reachFrom_116 rfl (by decide) rfl ?_
            refine ev_goto 19 dX5_reachFrom_119 (by decide) ?_
            exact ev_sub [2, 3, 4, 5, 0] rfl h60
          · have h61 := h58 c59
            refine ev_iload (j := 5) dX5_reachFrom_113 rfl ?_
            refine ev_istore_n dX5_reachFrom_115 rfl (by decide) rfl ?_
            refine ev_iinc (j := 5) dX5_reachFrom_116 rfl (by decide) rfl ?_
            refine ev_goto 19 dX5_reachFrom_119 (by decide) ?_
            exact ev_sub [3, 4, 5, 1, 0] rfl h61
      · have h62 := h42 c43
        refine ev_aload_n (j := 1) dX5_reachFrom_76 rfl rfl ?_
        refine ev_get frX5_29 dX5_reachFrom_77 dm6_0 en6_0 rfl ?_
        refine ev_iload (j := 5) dX5_reachFrom_80 rfl ?_
        refine ev_iload (j := 0) dX5_reachFrom_82 rfl ?_
        refine ev_iast dX5_reachFrom_84 dm6_37 ar6_37 (by decide) s25 s26 ?_
        obtain ⟨M63, e65⟩ : ∃ M63 : Mem, M63 = wr M 6 0 37 v4 (((M 6 0 (2 + v2) v4) - (M 6 0 33 v2)) - (M 6 0 34 v4)) := ⟨_, rfl⟩
        have h64 := h62 _ e65
        refine ev_mem e65 ?_
        refine ev_aload_n (j := 1) dX5_reachFrom_85 rfl rfl ?_
        refine ev_get frX5_26 dX5_reachFrom_86 dm6_0 en6_0 rfl ?_
        refine ev_iload (j := 5) dX5_reachFrom_89 rfl ?_
        refine ev_iload_n (j := 2) dX5_reachFrom_91 rfl rfl ?_
        refine ev_iast dX5_reachFrom_92 dm6_36 ar6_36 (by decide) s25 s26 ?_
        refine ev_iload_n (j := 4) dX5_reachFrom_93 rfl rfl ?_
        obtain ⟨s66, h67⟩ := h64
        obtain ⟨h68, h69⟩ := h67
        refine ev_if_eq 113 dX5_reachFrom_94 (by decide) s66 (fun c70 => ?_) (fun c70 => ?_)
        · have h71 := h68 c70
          refine ev_iload (j := 5) dX5_reachFrom_113 rfl ?_
          refine ev_istore_n dX5_reachFrom_115 rfl (by decide) rfl ?_
          refine ev_iinc (j := 5) dX5_reachFrom_116 rfl (by decide) rfl ?_
          refine ev_goto 19 dX5_reachFrom_119 (by decide) ?_
          exact ev_sub [3, 4, 5, 1, 0] rfl h71
        · have h72 := h69 c70
          refine ev_aload_n (j := 1) dX5_reachFrom_97 rfl rfl ?_
          refine ev_get frX5_29 dX5_reachFrom_98 dm6_0 en6_0 rfl ?_
          refine ev_iload (j := 5) dX5_reachFrom_101 rfl ?_
          refine ev_iald dX5_reachFrom_103 dm6_37 ar6_37 (by decide) s25 s26 ?_
          refine ev_topI (b := M63 6 0 37 v4) rfl ?_
          refine ev_aload_n (j := 1) dX5_reachFrom_104 rfl rfl ?_
          refine ev_get frX5_29 dX5_reachFrom_105 dm6_0 en6_0 rfl ?_
          refine ev_iload_n (j := 4) dX5_reachFrom_108 rfl rfl ?_
          obtain ⟨s73, s74, h75⟩ := h72
          refine ev_iald dX5_reachFrom_109 dm6_37 ar6_37 (by decide) s73 s74 ?_
          refine ev_topI (b := M63 6 0 37 v3) rfl ?_
          obtain ⟨s76, s77, h78⟩ := h75
          obtain ⟨h79, h80⟩ := h78
          refine ev_icmp_ge 116 dX5_reachFrom_110 (by decide) s76 s77 (fun c81 => ?_) (fun c81 => ?_)
          · have h82 := h79 c81
            refine ev_iinc (j := 5) dX5_reachFrom_116 rfl (by decide) rfl ?_
            refine ev_goto 19 dX5_reachFrom_119 (by decide) ?_
            exact ev_sub [2, 3, 4, 5, 0] rfl h82
          · have h83 := h80 c81
            refine ev_iload (j := 5) dX5_reachFrom_113 rfl ?_
            refine ev_istore_n dX5_reachFrom_115 rfl (by decide) rfl ?_
            refine ev_iinc (j := 5) dX5_reachFrom_116 rfl (by decide) rfl ?_
            refine ev_goto 19 dX5_reachFrom_119 (by decide) ?_
            exact ev_sub [3, 4, 5, 1, 0] rfl h83
def eX6_linkAnew (G : GT) (K : List Value → Mem → Prop) (X : String → Mem → Prop) (pc : Nat) (lv : List (Nat × Value)) (st : List Value) (M : Mem) : Prop := Ex G zX6_linkAnew 5 0 K X 0 pc lv st M
set_option maxRecDepth 20000 in
set_option maxHeartbeats 4000000 in
theorem bX6_linkAnew {G : GT} {K : List Value → Mem → Prop} {X : String → Mem → Prop} {M : Mem} {j : Int} (hj0 : 0 ≤ j) (hj1 : j < 12) (h : Call G 2 0 zX2_emptyDuties [rr G 1 j 11] M (kV (fun M1 => Call G 1 0 zX8_listActive [rr G 1 j 6, rr G 5 1 0] M1 (kV (fun M4 => eX6_linkAnew G K X 22 [(0, rr G 4 0 0), (1, rr G 1 j 0), (2, iv 0), (3, iv 0)] [] M4)) noX)) noX) : Call G 5 0 zX6_linkAnew [rr G 4 0 0, rr G 1 j 0] M K X := by
  refine call_intro (lv := [(0, rr G 4 0 0), (1, rr G 1 j 0)]) (by decide) rfl (Nat.le_of_ble_eq_true rfl) rfl ?_
  refine ev_aload_n (j := 1) dX6_linkAnew_0 rfl rfl ?_
  refine ev_get frX6_76 dX6_linkAnew_1 (dom1 hj0 hj1 (by decide) (by decide)) en1_0 rfl ?_
  refine ev_callVV (As := []) (st := []) mfX2_emptyDuties mlX6_80 dX6_linkAnew_4 rfl (dom1 hj0 hj1 (by decide) (by decide)) en1_11 rfl rfl rfl (by decide) (by decide) (by decide) (Nat.le_of_ble_eq_true rfl) (fun _ _ z => z.elim) h (fun M1 h2 => ?_)
  refine ev_aload_n (j := 1) dX6_linkAnew_7 rfl rfl ?_
  refine ev_get frX6_32 dX6_linkAnew_8 (dom1 hj0 hj1 (by decide) (by decide)) en1_0 rfl ?_
  refine ev_aload_n (j := 0) dX6_linkAnew_11 rfl rfl ?_
  refine ev_get frX6_12 dX6_linkAnew_12 dm4_0 en4_0 rfl ?_
  refine ev_callVV (As := [rr G 5 1 0]) (st := []) mfX8_listActive mlX6_38 dX6_linkAnew_15 rfl (dom1 hj0 hj1 (by decide) (by decide)) en1_6 rfl rfl rfl (by decide) (by decide) (by decide) (Nat.le_of_ble_eq_true rfl) (fun _ _ z => z.elim) h2 (fun M4 h5 => ?_)
  refine ev_iconst dX6_linkAnew_18 ?_
  refine ev_istore_n dX6_linkAnew_19 rfl (by decide) rfl ?_
  refine ev_iconst dX6_linkAnew_20 ?_
  refine ev_istore_n dX6_linkAnew_21 rfl (by decide) rfl ?_
  exact ev_sub [2, 3, 1, 0] rfl h5
set_option maxRecDepth 20000 in
set_option maxHeartbeats 4000000 in
theorem bX6_linkAnew_22 {G : GT} {K : List Value → Mem → Prop} {X : String → Mem → Prop} {M : Mem} {j : Int} (hj0 : 0 ≤ j) (hj1 : j < 12) {v2 v3 : Int} (h : I32 v3 ∧ I32 (M 5 1 0 2) ∧ ((¬ v3 < (M 5 1 0 2) → K [iv v2] M) ∧ (v3 < (M 5 1 0 2) → 0 ≤ v3 ∧ v3 < 30 ∧ Call G 4 0 zX6_vehicleFor [rr G 4 0 0, iv (M 5 1 2 v3), rr G 1 j 0] M (kI (fun x14 M12 => I32 x14 ∧ ((¬ x14 = (-1) → Call G 1 0 zX4_positionFor [rr G 1 j 0, iv (M 5 1 2 v3), iv x14] M12 (kI (fun x23 M21 => Call G 0 0 zX2_insert [rr G 1 j 11, iv x14, iv x23, iv (M 5 1 2 v3)] M21 (kV (fun M24 => eX6_linkAnew G K X 22 [(0, rr G 4 0 0), (1, rr G 1 j 0), (2, iv v2), (3, iv (v3 + 1))] [] M24)) noX)) noX) ∧ (x14 = (-1) → eX6_linkAnew G K X 22 [(0, rr G 4 0 0), (1, rr G 1 j 0), (2, iv (v2 + 1)), (3, iv (v3 + 1))] [] M12)))) noX))) : eX6_linkAnew G K X 22 [(0, rr G 4 0 0), (1, rr G 1 j 0), (2, iv v2), (3, iv v3)] [] M := by
  show Ex G zX6_linkAnew 5 0 K X 0 22 [(0, rr G 4 0 0), (1, rr G 1 j 0), (2, iv v2), (3, iv v3)] [] M
  refine ev_iload_n (j := 3) dX6_linkAnew_22 rfl rfl ?_
  refine ev_aload_n (j := 0) dX6_linkAnew_23 rfl rfl ?_
  refine ev_get frX6_12 dX6_linkAnew_24 dm4_0 en4_0 rfl ?_
  refine ev_get frX6_44 dX6_linkAnew_27 (dom5 (by decide) (by decide) (by decide) (by decide)) en5_0 rfl ?_
  obtain ⟨s1, s2, h3⟩ := h
  obtain ⟨h4, h5⟩ := h3
  refine ev_icmp_ge 90 dX6_linkAnew_30 (by decide) s1 s2 (fun c6 => ?_) (fun c6 => ?_)
  · have h7 := h4 c6
    refine ev_iload_n (j := 2) dX6_linkAnew_90 rfl rfl ?_
    exact ev_iret dX6_linkAnew_91 (by decide) rfl h7
  · have h8 := h5 c6
    refine ev_aload_n (j := 0) dX6_linkAnew_33 rfl rfl ?_
    refine ev_get frX6_12 dX6_linkAnew_34 dm4_0 en4_0 rfl ?_
    refine ev_get frX6_47 dX6_linkAnew_37 (dom5 (by decide) (by decide) (by decide) (by decide)) en5_0 rfl ?_
    refine ev_iload_n (j := 3) dX6_linkAnew_40 rfl rfl ?_
    obtain ⟨s9, s10, h11⟩ := h8
    refine ev_iald dX6_linkAnew_41 (dom5 (by decide) (by decide) (by decide) (by decide)) ar5_2 (by decide) s9 s10 ?_
    refine ev_istore dX6_linkAnew_42 (by decide) rfl ?_
    refine ev_aload_n (j := 1) dX6_linkAnew_44 rfl rfl ?_
    refine ev_iload (j := 0) dX6_linkAnew_45 rfl ?_
    refine ev_aload_n (j := 2) dX6_linkAnew_47 rfl rfl ?_
    refine ev_callVI (As := [iv (M 5 1 2 v3), rr G 1 j 0]) (st := []) mfX6_vehicleFor mlX6_85 dX6_linkAnew_48 rfl dm4_0 en4_0 rfl rfl rfl (by decide) (by decide) (by decide) (Nat.le_of_ble_eq_true rfl) (fun _ _ z => z.elim) h11 (fun x14 M12 h13 => ?_)
    refine ev_istore dX6_linkAnew_51 (by decide) rfl ?_
    refine ev_iload (j := 0) dX6_linkAnew_53 rfl ?_
    refine ev_iconst dX6_linkAnew_55 ?_
    obtain ⟨s15, h16⟩ := h13
    obtain ⟨h17, h18⟩ := h16
    refine ev_icmp_ne 65 dX6_linkAnew_56 (by decide) s15 ⟨by decide, by decide⟩ (fun c19 => ?_) (fun c19 => ?_)
    · have h20 := h17 c19
      refine ev_aload_n (j := 3) dX6_linkAnew_65 rfl rfl ?_
      refine ev_get frX6_76 dX6_linkAnew_66 (dom1 hj0 hj1 (by decide) (by decide)) en1_0 rfl ?_
      refine ev_iload (j := 0) dX6_linkAnew_69 rfl ?_
      refine ev_aload_n (j := 3) dX6_linkAnew_71 rfl rfl ?_
      refine ev_iload (j := 1) dX6_linkAnew_72 rfl ?_
      refine ev_iload (j := 0) dX6_linkAnew_74 rfl ?_
      refine ev_callVI (As := [iv (M 5 1 2 v3), iv x14]) (st := [iv x14, rr G 1 j 11]) mfX4_positionFor mlX6_89 dX6_linkAnew_76 rfl (dom1 hj0 hj1 (by decide) (by decide)) en1_0 rfl rfl rfl (by decide) (by decide) (by decide) (Nat.le_of_ble_eq_true rfl) (fun _ _ z => z.elim) h20 (fun x23 M21 h22 => ?_)
      refine ev_iload (j := 1) dX6_linkAnew_79 rfl ?_
      refine ev_callVV (As := [iv x14, iv x23, iv (M 5 1 2 v3)]) (st := []) mfX2_insert mlX6_92 dX6_linkAnew_81 rfl (dom1 hj0 hj1 (by decide) (by decide)) en1_11 rfl rfl rfl (by decide) (by decide) (by decide) (Nat.le_of_ble_eq_true rfl) (fun _ _ z => z.elim) h22 (fun M24 h25 => ?_)
      refine ev_iinc (j := 5) dX6_linkAnew_84 rfl (by decide) rfl ?_
      refine ev_goto 22 dX6_linkAnew_87 (by decide) ?_
      exact ev_sub [3, 4, 5, 0] rfl h25
    · have h27 := h18 c19
      refine ev_iinc (j := 4) dX6_linkAnew_59 rfl (by decide) rfl ?_
      refine ev_goto 84 dX6_linkAnew_62 (by decide) ?_
      refine ev_iinc (j := 5) dX6_linkAnew_84 rfl (by decide) rfl ?_
      refine ev_goto 22 dX6_linkAnew_87 (by decide) ?_
      exact ev_sub [4, 5, 1, 0] rfl h27
def eX6_listWithDuty (G : GT) (K : List Value → Mem → Prop) (X : String → Mem → Prop) (pc : Nat) (lv : List (Nat × Value)) (st : List Value) (M : Mem) : Prop := Ex G zX6_listWithDuty 2 0 K X 0 pc lv st M
set_option maxRecDepth 20000 in
set_option maxHeartbeats 4000000 in
theorem bX6_listWithDuty {G : GT} {K : List Value → Mem → Prop} {X : String → Mem → Prop} {M : Mem} {j : Int} (hj0 : 0 ≤ j) (hj1 : j < 12) (h : Call G 0 0 zX7_clear [rr G 5 2 0] M (kV (fun M1 => eX6_listWithDuty G K X 9 [(0, rr G 4 0 0), (1, rr G 1 j 0), (2, iv 0)] [] M1)) noX) : Call G 2 0 zX6_listWithDuty [rr G 4 0 0, rr G 1 j 0] M K X := by
  refine call_intro (lv := [(0, rr G 4 0 0), (1, rr G 1 j 0)]) (by decide) rfl (Nat.le_of_ble_eq_true rfl) rfl ?_
  refine ev_aload_n (j := 0) dX6_listWithDuty_0 rfl rfl ?_
  refine ev_get frX6_18 dX6_listWithDuty_1 dm4_0 en4_0 rfl ?_
  refine ev_callVV (As := []) (st := []) mfX7_clear mlX6_110 dX6_listWithDuty_4 rfl (dom5 (by decide) (by decide) (by decide) (by decide)) en5_0 rfl rfl rfl (by decide) (by decide) (by decide) (Nat.le_of_ble_eq_true rfl) (fun _ _ z => z.elim) h (fun M1 h2 => ?_)
  refine ev_iconst dX6_listWithDuty_7 ?_
  refine ev_istore_n dX6_listWithDuty_8 rfl (by decide) rfl ?_
  exact ev_sub [1, 2, 0] rfl h2
set_option maxRecDepth 20000 in
set_option maxHeartbeats 4000000 in
theorem bX6_listWithDuty_9 {G : GT} {K : List Value → Mem → Prop} {X : String → Mem → Prop} {M : Mem} {j : Int} (hj0 : 0 ≤ j) (hj1 : j < 12) {v2 : Int} (h : I32 v2 ∧ I32 (M 1 j 11 3) ∧ ((¬ v2 < (M 1 j 11 3) → K [] M) ∧ (v2 < (M 1 j 11 3) → Call G 0 0 zX2_lastTripOf [rr G 1 j 11, iv v2] M (kI (fun x11 M9 => I32 x11 ∧ ((x11 = (-1) → eX6_listWithDuty G K X 9 [(0, rr G 4 0 0), (1, rr G 1 j 0), (2, iv (v2 + 1))] [] M9) ∧ (¬ x11 = (-1) → Call G 1 0 zX4_arrivalOf [rr G 1 j 0, iv x11] M9 (kI (fun x21 M19 => Call G 0 0 zX7_put [rr G 5 2 0, iv x21, iv v2] M19 (kV (fun M22 => eX6_listWithDuty G K X 9 [(0, rr G 4 0 0), (1, rr G 1 j 0), (2, iv (v2 + 1))] [] M22)) noX)) noX)))) noX))) : eX6_listWithDuty G K X 9 [(0, rr G 4 0 0), (1, rr G 1 j 0), (2, iv v2)] [] M := by
  show Ex G zX6_listWithDuty 2 0 K X 0 9 [(0, rr G 4 0 0), (1, rr G 1 j 0), (2, iv v2)] [] M
  refine ev_iload_n (j := 2) dX6_listWithDuty_9 rfl rfl ?_
  refine ev_aload_n (j := 1) dX6_listWithDuty_10 rfl rfl ?_
  refine ev_get frX6_76 dX6_listWithDuty_11 (dom1 hj0 hj1 (by decide) (by decide)) en1_0 rfl ?_
  refine ev_get frX6_104 dX6_listWithDuty_14 (dom1 hj0 hj1 (by decide) (by decide)) en1_11 rfl ?_
  obtain ⟨s1, s2, h3⟩ := h
  obtain ⟨h4, h5⟩ := h3
  refine ev_icmp_ge 53 dX6_listWithDuty_17 (by decide) s1 s2 (fun c6 => ?_) (fun c6 => ?_)
  · have h7 := h4 c6
    exact ev_vret dX6_listWithDuty_53 (by decide) rfl h7
  · have h8 := h5 c6
    refine ev_aload_n (j := 1) dX6_listWithDuty_20 rfl rfl ?_
    refine ev_get frX6_76 dX6_listWithDuty_21 (dom1 hj0 hj1 (by decide) (by decide)) en1_0 rfl ?_
    refine ev_iload_n (j := 2) dX6_listWithDuty_24 rfl rfl ?_
    refine ev_callVI (As := [iv v2]) (st := []) mfX2_lastTripOf mlX6_113 dX6_listWithDuty_25 rfl (dom1 hj0 hj1 (by decide) (by decide)) en1_11 rfl rfl rfl (by decide) (by decide) (by decide) (Nat.le_of_ble_eq_true rfl) (fun _ _ z => z.elim) h8 (fun x11 M9 h10 => ?_)
    refine ev_istore_n dX6_listWithDuty_28 rfl (by decide) rfl ?_
    refine ev_iload_n (j := 0) dX6_listWithDuty_29 rfl rfl ?_
    refine ev_iconst dX6_listWithDuty_30 ?_
    obtain ⟨s12, h13⟩ := h10
    obtain ⟨h14, h15⟩ := h13
    refine ev_icmp_eq 47 dX6_listWithDuty_31 (by decide) s12 ⟨by decide, by decide⟩ (fun c16 => ?_) (fun c16 => ?_)
    · have h17 := h14 c16
      refine ev_iinc (j := 3) dX6_listWithDuty_47 rfl (by decide) rfl ?_
      refine ev_goto 9 dX6_listWithDuty_50 (by decide) ?_
      exact ev_sub [2, 3, 0] rfl h17
    · have h18 := h15 c16
      refine ev_aload_n (j := 1) dX6_listWithDuty_34 rfl rfl ?_
      refine ev_get frX6_18 dX6_listWithDuty_35 dm4_0 en4_0 rfl ?_
      refine ev_aload_n (j := 2) dX6_listWithDuty_38 rfl rfl ?_
      refine ev_iload_n (j := 0) dX6_listWithDuty_39 rfl rfl ?_
      refine ev_callVI (As := [iv x11]) (st := [rr G 5 2 0]) mfX4_arrivalOf mlX6_72 dX6_listWithDuty_40 rfl (dom1 hj0 hj1 (by decide) (by decide)) en1_0 rfl rfl rfl (by decide) (by decide) (by decide) (Nat.le_of_ble_eq_true rfl) (fun _ _ z => z.elim) h18 (fun x21 M19 h20 => ?_)
      refine ev_iload_n (j := 3) dX6_listWithDuty_43 rfl rfl ?_
      refine ev_callVV (As := [iv x21, iv v2]) (st := []) mfX7_put mlX6_116 dX6_listWithDuty_44 rfl (dom5 (by decide) (by decide) (by decide) (by decide)) en5_0 rfl rfl rfl (by decide) (by decide) (by decide) (Nat.le_of_ble_eq_true rfl) (fun _ _ z => z.elim) h20 (fun M22 h23 => ?_)
      refine ev_iinc (j := 3) dX6_listWithDuty_47 rfl (by decide) rfl ?_
      refine ev_goto 9 dX6_listWithDuty_50 (by decide) ?_
      exact ev_sub [2, 3, 0] rfl h23
def eX6_longestWaiting (G : GT) (K : List Value → Mem → Prop) (X : String → Mem → Prop) (pc : Nat) (lv : List (Nat × Value)) (st : List Value) (M : Mem) : Prop := Ex G zX6_longestWaiting 0 0 K X 0 pc lv st M
set_option maxRecDepth 20000 in
set_option maxHeartbeats 4000000 in
theorem bX6_longestWaiting {G : GT} {K : List Value → Mem → Prop} {X : String → Mem → Prop} {M : Mem} {v1 v2 : Int} (h : eX6_longestWaiting G K X 5 [(0, rr G 4 0 0), (1, iv v1), (2, iv v2), (3, iv (-1)), (4, iv 0)] [] M) : Call G 0 0 zX6_longestWaiting [rr G 4 0 0, iv v1, iv v2] M K X := by
  refine call_intro (lv := [(0, rr G 4 0 0), (1, iv v1), (2, iv v2)]) (by decide) rfl (Nat.le_of_ble_eq_true rfl) rfl ?_
  refine ev_iconst dX6_longestWaiting_0 ?_
  refine ev_istore_n dX6_longestWaiting_1 rfl (by decide) rfl ?_
  refine ev_iconst dX6_longestWaiting_2 ?_
  refine ev_istore dX6_longestWaiting_3 (by decide) rfl ?_
  exact ev_sub [2, 3, 4, 1, 0] rfl h
set_option maxRecDepth 20000 in
set_option maxHeartbeats 4000000 in
theorem bX6_longestWaiting_5 {G : GT} {K : List Value → Mem → Prop} {X : String → Mem → Prop} {M : Mem} {v1 v2 v3 v4 : Int} (h : I32 v4 ∧ I32 (M 4 0 0 4) ∧ ((¬ v4 < (M 4 0 0 4) → K [iv v3] M) ∧ (v4 < (M 4 0 0 4) → ((¬ v4 < 30 → K [iv v3] M) ∧ (v4 < 30 → 0 ≤ v4 ∧ I32 (M 4 0 1 v4) ∧ I32 v1 ∧ ((¬ (M 4 0 1 v4) = v1 → eX6_longestWaiting G K X 5 [(0, rr G 4 0 0), (1, iv v1), (2, iv v2), (3, iv v3), (4, iv (v4 + 1))] [] M) ∧ ((M 4 0 1 v4) = v1 → I32 (M 4 0 2 v4) ∧ I32 v2 ∧ ((v2 < (M 4 0 2 v4) → eX6_longestWaiting G K X 5 [(0, rr G 4 0 0), (1, iv v1), (2, iv v2), (3, iv v3), (4, iv (v4 + 1))] [] M) ∧ (¬ v2 < (M 4 0 2 v4) → I32 v3 ∧ ((v3 = (-1) → eX6_longestWaiting G K X 5 [(0, rr G 4 0 0), (1, iv v1), (2, iv v2), (3, iv v4), (4, iv (v4 + 1))] [] M) ∧ (¬ v3 = (-1) → 0 ≤ v3 ∧ v3 < 30 ∧ I32 (M 4 0 2 v3) ∧ ((¬ (M 4 0 2 v4) < (M 4 0 2 v3) → eX6_longestWaiting G K X 5 [(0, rr G 4 0 0), (1, iv v1), (2, iv v2), (3, iv v3), (4, iv (v4 + 1))] [] M) ∧ ((M 4 0 2 v4) < (M 4 0 2 v3) → eX6_longestWaiting G K X 5 [(0, rr G 4 0 0), (1, iv v1), (2, iv v2), (3, iv v4), (4, iv (v4 + 1))] [] M))))))))))))) : eX6_longestWaiting G K X 5 [(0, rr G 4 0 0), (1, iv v1), (2, iv v2), (3, iv v3), (4, iv v4)] [] M := by
  show Ex G zX6_longestWaiting 0 0 K X 0 5 [(0, rr G 4 0 0), (1, iv v1), (2, iv v2), (3, iv v3), (4, iv v4)] [] M
  refine ev_iload (j := 4) dX6_longestWaiting_5 rfl ?_
  refine ev_aload_n (j := 0) dX6_longestWaiting_7 rfl rfl ?_
  refine ev_get frX6_28 dX6_longestWaiting_8 dm4_0 en4_0 rfl ?_
  obtain ⟨s1, s2, h3⟩ := h
  obtain ⟨h4, h5⟩ := h3
  refine ev_icmp_ge 73 dX6_longestWaiting_11 (by decide) s1 s2 (fun c6 => ?_) (fun c6 => ?_)
  · have h7 := h4 c6
    refine ev_iload_n (j := 3) dX6_longestWaiting_73 rfl rfl ?_
    exact ev_iret dX6_longestWaiting_74 (by decide) rfl h7
  · have h8 := h5 c6
    refine ev_iload (j := 4) dX6_longestWaiting_14 rfl ?_
    refine ev_bipush dX6_longestWaiting_16 (by decide) ?_
    obtain ⟨h9, h10⟩ := h8
    refine ev_icmp_ge 73 dX6_longestWaiting_18 (by decide) s1 ⟨by decide, by decide⟩ (fun c11 => ?_) (fun c11 => ?_)
    · have h12 := h9 c11
      refine ev_iload_n (j := 3) dX6_longestWaiting_73 rfl rfl ?_
      exact ev_iret dX6_longestWaiting_74 (by decide) rfl h12
    · have h13 := h10 c11
      refine ev_aload_n (j := 0) dX6_longestWaiting_21 rfl rfl ?_
      refine ev_get frX6_21 dX6_longestWaiting_22 dm4_0 en4_0 rfl ?_
      refine ev_iload (j := 4) dX6_longestWaiting_25 rfl ?_
      obtain ⟨s14, h15⟩ := h13
      refine ev_iald dX6_longestWaiting_27 dm4_1 ar4_1 (by decide) s14 c11 ?_
      refine ev_iload_n (j := 1) dX6_longestWaiting_28 rfl rfl ?_
      obtain ⟨s16, s17, h18⟩ := h15
      obtain ⟨h19, h20⟩ := h18
      refine ev_icmp_ne 67 dX6_longestWaiting_29 (by decide) s16 s17 (fun c21 => ?_) (fun c21 => ?_)
      · have h22 := h19 c21
        refine ev_iinc (j := 4) dX6_longestWaiting_67 rfl (by decide) rfl ?_
        refine ev_goto 5 dX6_longestWaiting_70 (by decide) ?_
        exact ev_sub [1, 2, 3, 4, 0] rfl h22
      · have h23 := h20 c21
        refine ev_aload_n (j := 0) dX6_longestWaiting_32 rfl rfl ?_
        refine ev_get frX6_25 dX6_longestWaiting_33 dm4_0 en4_0 rfl ?_
        refine ev_iload (j := 4) dX6_longestWaiting_36 rfl ?_
        refine ev_iald dX6_longestWaiting_38 dm4_2 ar4_2 (by decide) s14 c11 ?_
        refine ev_iload_n (j := 2) dX6_longestWaiting_39 rfl rfl ?_
        obtain ⟨s24, s25, h26⟩ := h23
        obtain ⟨h27, h28⟩ := h26
        refine ev_icmp_gt 67 dX6_longestWaiting_40 (by decide) s24 s25 (fun c29 => ?_) (fun c29 => ?_)
        · have h30 := h27 c29
          refine ev_iinc (j := 4) dX6_longestWaiting_67 rfl (by decide) rfl ?_
          refine ev_goto 5 dX6_longestWaiting_70 (by decide) ?_
          exact ev_sub [1, 2, 3, 4, 0] rfl h30
        · have h31 := h28 c29
          refine ev_iload_n (j := 3) dX6_longestWaiting_43 rfl rfl ?_
          refine ev_iconst dX6_longestWaiting_44 ?_
          obtain ⟨s32, h33⟩ := h31
          obtain ⟨h34, h35⟩ := h33
          refine ev_icmp_eq 64 dX6_longestWaiting_45 (by decide) s32 ⟨by decide, by decide⟩ (fun c36 => ?_) (fun c36 => ?_)
          · have h37 := h34 c36
            refine ev_iload (j := 4) dX6_longestWaiting_64 rfl ?_
            refine ev_istore_n dX6_longestWaiting_66 rfl (by decide) rfl ?_
            refine ev_iinc (j := 4) dX6_longestWaiting_67 rfl (by decide) rfl ?_
            refine ev_goto 5 dX6_longestWaiting_70 (by decide) ?_
            exact ev_sub [2, 3, 4, 1, 0] rfl h37
          · have h38 := h35 c36
            refine ev_aload_n (j := 0) dX6_longestWaiting_48 rfl rfl ?_
            refine ev_get frX6_25 dX6_longestWaiting_49 dm4_0 en4_0 rfl ?_
            refine ev_iload (j := 4) dX6_longestWaiting_52 rfl ?_
            refine ev_iald dX6_longestWaiting_54 dm4_2 ar4_2 (by decide) s14 c11 ?_
            refine ev_aload_n (j := 0) dX6_longestWaiting_55 rfl rfl ?_
            refine ev_get frX6_25 dX6_longestWaiting_56 dm4_0 en4_0 rfl ?_
            refine ev_iload_n (j := 3) dX6_longestWaiting_59 rfl rfl ?_
            obtain ⟨s39, s40, h41⟩ := h38
            refine ev_iald dX6_longestWaiting_60 dm4_2 ar4_2 (by decide) s39 s40 ?_
            obtain ⟨s42, h43⟩ := h41
            obtain ⟨h44, h45⟩ := h43
            refine ev_icmp_ge 67 dX6_longestWaiting_61 (by decide) s24 s42 (fun c46 => ?_) (fun c46 => ?_)
            · have h47 := h44 c46
              refine ev_iinc (j := 4) dX6_longestWaiting_67 rfl (by decide) rfl ?_
              refine ev_goto 5 dX6_longestWaiting_70 (by decide) ?_
              exact ev_sub [1, 2, 3, 4, 0] rfl h47
            · have h48 := h45 c46
              refine ev_iload (j := 4) dX6_longestWaiting_64 rfl ?_
              refine ev_istore_n dX6_longestWaiting_66 rfl (by decide) rfl ?_
              refine ev_iinc (j := 4) dX6_longestWaiting_67 rfl (by decide) rfl ?_
              refine ev_goto 5 dX6_longestWaiting_70 (by decide) ?_
              exact ev_sub [2, 3, 4, 1, 0] rfl h48
def eX6_vehicleFor (G : GT) (K : List Value → Mem → Prop) (X : String → Mem → Prop) (pc : Nat) (lv : List (Nat × Value)) (st : List Value) (M : Mem) : Prop := Ex G zX6_vehicleFor 4 0 K X 0 pc lv st M
set_option maxRecDepth 20000 in
set_option maxHeartbeats 4000000 in
theorem bX6_vehicleFor {G : GT} {K : List Value → Mem → Prop} {X : String → Mem → Prop} {M : Mem} {j : Int} (hj0 : 0 ≤ j) (hj1 : j < 12) {v1 : Int} (h : Call G 2 0 zX6_listWithDuty [rr G 4 0 0, rr G 1 j 0] M (kV (fun M1 => eX6_vehicleFor G K X 7 [(0, rr G 4 0 0), (1, iv v1), (2, rr G 1 j 0), (3, iv 0)] [] M1)) noX) : Call G 4 0 zX6_vehicleFor [rr G 4 0 0, iv v1, rr G 1 j 0] M K X := by
  refine call_intro (lv := [(0, rr G 4 0 0), (1, iv v1), (2, rr G 1 j 0)]) (by decide) rfl (Nat.le_of_ble_eq_true rfl) rfl ?_
  refine ev_aload_n (j := 0) dX6_vehicleFor_0 rfl rfl ?_
  refine ev_aload_n (j := 2) dX6_vehicleFor_1 rfl rfl ?_
  refine ev_callVV (As := [rr G 1 j 0]) (st := []) mfX6_listWithDuty mlX6_96 dX6_vehicleFor_2 rfl dm4_0 en4_0 rfl rfl rfl (by decide) (by decide) (by decide) (Nat.le_of_ble_eq_true rfl) (fun _ _ z => z.elim) h (fun M1 h2 => ?_)
  refine ev_iconst dX6_vehicleFor_5 ?_
  refine ev_istore_n dX6_vehicleFor_6 rfl (by decide) rfl ?_
  exact ev_sub [1, 2, 3, 0] rfl h2
set_option maxRecDepth 20000 in
set_option maxHeartbeats 4000000 in
theorem bX6_vehicleFor_7 {G : GT} {K : List Value → Mem → Prop} {X : String → Mem → Prop} {M : Mem} {j : Int} (hj0 : 0 ≤ j) (hj1 : j < 12) {v1 v3 : Int} (h : I32 v3 ∧ I32 (M 5 2 0 2) ∧ ((¬ v3 < (M 5 2 0 2) → eX6_vehicleFor G K X 62 [(1, iv v1), (2, rr G 1 j 0), (3, iv ((M 1 j 11 3) - 1))] [] M) ∧ (v3 < (M 5 2 0 2) → 0 ≤ v3 ∧ v3 < 30 ∧ Call G 3 0 zX4_reasonInDuty [rr G 1 j 0, iv v1, iv v1, iv (M 5 2 2 v3)] M (kI (fun x14 M12 => I32 x14 ∧ ((¬ x14 = 0 → eX6_vehicleFor G K X 7 [(0, rr G 4 0 0), (1, iv v1), (2, rr G 1 j 0), (3, iv (v3 + 1))] [] M12) ∧ (x14 = 0 → K [iv (M12 5 2 2 v3)] M12)))) noX))) : eX6_vehicleFor G K X 7 [(0, rr G 4 0 0), (1, iv v1), (2, rr G 1 j 0), (3, iv v3)] [] M := by
  show Ex G zX6_vehicleFor 4 0 K X 0 7 [(0, rr G 4 0 0), (1, iv v1), (2, rr G 1 j 0), (3, iv v3)] [] M
  refine ev_iload_n (j := 3) dX6_vehicleFor_7 rfl rfl ?_
  refine ev_aload_n (j := 0) dX6_vehicleFor_8 rfl rfl ?_
  refine ev_get frX6_18 dX6_vehicleFor_9 dm4_0 en4_0 rfl ?_
  refine ev_get frX6_44 dX6_vehicleFor_12 (dom5 (by decide) (by decide) (by decide) (by decide)) en5_0 rfl ?_
  obtain ⟨s1, s2, h3⟩ := h
  obtain ⟨h4, h5⟩ := h3
  refine ev_icmp_ge 52 dX6_vehicleFor_15 (by decide) s1 s2 (fun c6 => ?_) (fun c6 => ?_)
  · have h7 := h4 c6
    refine ev_aload_n (j := 2) dX6_vehicleFor_52 rfl rfl ?_
    refine ev_get frX6_76 dX6_vehicleFor_53 (dom1 hj0 hj1 (by decide) (by decide)) en1_0 rfl ?_
    refine ev_get frX6_104 dX6_vehicleFor_56 (dom1 hj0 hj1 (by decide) (by decide)) en1_11 rfl ?_
    refine ev_iconst dX6_vehicleFor_59 ?_
    refine ev_isub dX6_vehicleFor_60 ?_
    refine ev_istore_n dX6_vehicleFor_61 rfl (by decide) rfl ?_
    exact ev_sub [2, 3, 0] rfl h7
  · have h8 := h5 c6
    refine ev_aload_n (j := 2) dX6_vehicleFor_18 rfl rfl ?_
    refine ev_iload_n (j := 1) dX6_vehicleFor_19 rfl rfl ?_
    refine ev_iload_n (j := 1) dX6_vehicleFor_20 rfl rfl ?_
    refine ev_aload_n (j := 0) dX6_vehicleFor_21 rfl rfl ?_
    refine ev_get frX6_18 dX6_vehicleFor_22 dm4_0 en4_0 rfl ?_
    refine ev_get frX6_47 dX6_vehicleFor_25 (dom5 (by decide) (by decide) (by decide) (by decide)) en5_0 rfl ?_
    refine ev_iload_n (j := 3) dX6_vehicleFor_28 rfl rfl ?_
    obtain ⟨s9, s10, h11⟩ := h8
    refine ev_iald dX6_vehicleFor_29 (dom5 (by decide) (by decide) (by decide) (by decide)) ar5_2 (by decide) s9 s10 ?_
    refine ev_callVI (As := [iv v1, iv v1, iv (M 5 2 2 v3)]) (st := []) mfX4_reasonInDuty mlX6_100 dX6_vehicleFor_30 rfl (dom1 hj0 hj1 (by decide) (by decide)) en1_0 rfl rfl rfl (by decide) (by decide) (by decide) (Nat.le_of_ble_eq_true rfl) (fun _ _ z => z.elim) h11 (fun x14 M12 h13 => ?_)
    obtain ⟨s15, h16⟩ := h13
    obtain ⟨h17, h18⟩ := h16
    refine ev_if_ne 46 dX6_vehicleFor_33 (by decide) s15 (fun c19 => ?_) (fun c19 => ?_)
    · have h20 := h17 c19
      refine ev_iinc (j := 3) dX6_vehicleFor_46 rfl (by decide) rfl ?_
      refine ev_goto 7 dX6_vehicleFor_49 (by decide) ?_
      exact ev_sub [1, 2, 3, 0] rfl h20
    · have h21 := h18 c19
      refine ev_aload_n (j := 0) dX6_vehicleFor_36 rfl rfl ?_
      refine ev_get frX6_18 dX6_vehicleFor_37 dm4_0 en4_0 rfl ?_
      refine ev_get frX6_47 dX6_vehicleFor_40 (dom5 (by decide) (by decide) (by decide) (by decide)) en5_0 rfl ?_
      refine ev_iload_n (j := 3) dX6_vehicleFor_43 rfl rfl ?_
      refine ev_iald dX6_vehicleFor_44 (dom5 (by decide) (by decide) (by decide) (by decide)) ar5_2 (by decide) s9 s10 ?_
      exact ev_iret dX6_vehicleFor_45 (by decide) rfl h21
set_option maxRecDepth 20000 in
set_option maxHeartbeats 4000000 in
theorem bX6_vehicleFor_62 {G : GT} {K : List Value → Mem → Prop} {X : String → Mem → Prop} {M : Mem} {j : Int} (hj0 : 0 ≤ j) (hj1 : j < 12) {v1 v3 : Int} (h : I32 v3 ∧ ((v3 < 0 → K [iv (-1)] M) ∧ (¬ v3 < 0 → 0 ≤ v3 ∧ v3 < 10 ∧ I32 (M 1 j 13 v3) ∧ ((¬ (M 1 j 13 v3) = 0 → eX6_vehicleFor G K X 62 [(1, iv v1), (2, rr G 1 j 0), (3, iv (v3 + (-1)))] [] M) ∧ ((M 1 j 13 v3) = 0 → Call G 3 0 zX4_reasonInDuty [rr G 1 j 0, iv v1, iv v1, iv v3] M (kI (fun x20 M18 => I32 x20 ∧ ((¬ x20 = 0 → eX6_vehicleFor G K X 62 [(1, iv v1), (2, rr G 1 j 0), (3, iv (v3 + (-1)))] [] M18) ∧ (x20 = 0 → K [iv v3] M18)))) noX))))) : eX6_vehicleFor G K X 62 [(1, iv v1), (2, rr G 1 j 0), (3, iv v3)] [] M := by
  show Ex G zX6_vehicleFor 4 0 K X 0 62 [(1, iv v1), (2, rr G 1 j 0), (3, iv v3)] [] M
  refine ev_iload_n (j := 2) dX6_vehicleFor_62 rfl rfl ?_
  obtain ⟨s1, h2⟩ := h
  obtain ⟨h3, h4⟩ := h2
  refine ev_if_lt 96 dX6_vehicleFor_63 (by decide) s1 (fun c5 => ?_) (fun c5 => ?_)
  · have h6 := h3 c5
    refine ev_iconst dX6_vehicleFor_96 ?_
    exact ev_iret dX6_vehicleFor_97 (by decide) rfl h6
  · have h7 := h4 c5
    refine ev_aload_n (j := 1) dX6_vehicleFor_66 rfl rfl ?_
    refine ev_get frX6_76 dX6_vehicleFor_67 (dom1 hj0 hj1 (by decide) (by decide)) en1_0 rfl ?_
    refine ev_get frX6_107 dX6_vehicleFor_70 (dom1 hj0 hj1 (by decide) (by decide)) en1_11 rfl ?_
    refine ev_iload_n (j := 2) dX6_vehicleFor_73 rfl rfl ?_
    obtain ⟨s8, s9, h10⟩ := h7
    refine ev_iald dX6_vehicleFor_74 (dom1 hj0 hj1 (by decide) (by decide)) ar1_13 (by decide) s8 s9 ?_
    obtain ⟨s11, h12⟩ := h10
    obtain ⟨h13, h14⟩ := h12
    refine ev_if_ne 90 dX6_vehicleFor_75 (by decide) s11 (fun c15 => ?_) (fun c15 => ?_)
    · have h16 := h13 c15
      refine ev_iinc (j := 2) dX6_vehicleFor_90 rfl (by decide) rfl ?_
      refine ev_goto 62 dX6_vehicleFor_93 (by decide) ?_
      exact ev_sub [1, 2, 0] rfl h16
    · have h17 := h14 c15
      refine ev_aload_n (j := 1) dX6_vehicleFor_78 rfl rfl ?_
      refine ev_iload_n (j := 0) dX6_vehicleFor_79 rfl rfl ?_
      refine ev_iload_n (j := 0) dX6_vehicleFor_80 rfl rfl ?_
      refine ev_iload_n (j := 2) dX6_vehicleFor_81 rfl rfl ?_
      refine ev_callVI (As := [iv v1, iv v1, iv v3]) (st := []) mfX4_reasonInDuty mlX6_100 dX6_vehicleFor_82 rfl (dom1 hj0 hj1 (by decide) (by decide)) en1_0 rfl rfl rfl (by decide) (by decide) (by decide) (Nat.le_of_ble_eq_true rfl) (fun _ _ z => z.elim) h17 (fun x20 M18 h19 => ?_)
      obtain ⟨s21, h22⟩ := h19
      obtain ⟨h23, h24⟩ := h22
      refine ev_if_ne 90 dX6_vehicleFor_85 (by decide) s21 (fun c25 => ?_) (fun c25 => ?_)
      · have h26 := h23 c25
        refine ev_iinc (j := 2) dX6_vehicleFor_90 rfl (by decide) rfl ?_
        refine ev_goto 62 dX6_vehicleFor_93 (by decide) ?_
        exact ev_sub [1, 2, 0] rfl h26
      · have h27 := h24 c25
        refine ev_iload_n (j := 2) dX6_vehicleFor_88 rfl rfl ?_
        exact ev_iret dX6_vehicleFor_89 (by decide) rfl h27
def eX6_vehiclesByWaiting (G : GT) (K : List Value → Mem → Prop) (X : String → Mem → Prop) (pc : Nat) (lv : List (Nat × Value)) (st : List Value) (M : Mem) : Prop := Ex G zX6_vehiclesByWaiting 2 0 K X 0 pc lv st M
set_option maxRecDepth 20000 in
set_option maxHeartbeats 4000000 in
theorem bX6_vehiclesByWaiting {G : GT} {K : List Value → Mem → Prop} {X : String → Mem → Prop} {M : Mem} {j : Int} (hj0 : 0 ≤ j) (hj1 : j < 12) (h : Call G 1 0 zX8_listActive [rr G 1 j 6, rr G 5 1 0] (wr M 4 0 0 4 0) (kV (fun M1 => eX6_vehiclesByWaiting G K X 18 [(0, rr G 4 0 0), (1, rr G 1 j 0), (2, iv 0)] [] M1)) noX) : Call G 2 0 zX6_vehiclesByWaiting [rr G 4 0 0, rr G 1 j 0] M K X := by
  refine call_intro (lv := [(0, rr G 4 0 0), (1, rr G 1 j 0)]) (by decide) rfl (Nat.le_of_ble_eq_true rfl) rfl ?_
  refine ev_aload_n (j := 0) dX6_vehiclesByWaiting_0 rfl rfl ?_
  refine ev_iconst dX6_vehiclesByWaiting_1 ?_
  refine ev_put fwX6_28 dX6_vehiclesByWaiting_2 dm4_0 en4_0 rfl rfl rfl (Nat.le_of_ble_eq_true rfl) ?_
  refine ev_aload_n (j := 1) dX6_vehiclesByWaiting_5 rfl rfl ?_
  refine ev_get frX6_32 dX6_vehiclesByWaiting_6 (dom1 hj0 hj1 (by decide) (by decide)) en1_0 rfl ?_
  refine ev_aload_n (j := 0) dX6_vehiclesByWaiting_9 rfl rfl ?_
  refine ev_get frX6_12 dX6_vehiclesByWaiting_10 dm4_0 en4_0 rfl ?_
  refine ev_callVV (As := [rr G 5 1 0]) (st := []) mfX8_listActive mlX6_38 dX6_vehiclesByWaiting_13 rfl (dom1 hj0 hj1 (by decide) (by decide)) en1_6 rfl rfl rfl (by decide) (by decide) (by decide) (Nat.le_of_ble_eq_true rfl) (fun _ _ z => z.elim) h (fun M1 h2 => ?_)
  refine ev_iconst dX6_vehiclesByWaiting_16 ?_
  refine ev_istore_n dX6_vehiclesByWaiting_17 rfl (by decide) rfl ?_
  exact ev_sub [1, 2, 0] rfl h2
set_option maxRecDepth 20000 in
set_option maxHeartbeats 4000000 in
theorem bX6_vehiclesByWaiting_18 {G : GT} {K : List Value → Mem → Prop} {X : String → Mem → Prop} {M : Mem} {j : Int} (hj0 : 0 ≤ j) (hj1 : j < 12) {v2 : Int} (h : I32 v2 ∧ I32 (M 5 1 0 2) ∧ ((¬ v2 < (M 5 1 0 2) → K [iv (M 4 0 0 4)] M) ∧ (v2 < (M 5 1 0 2) → 0 ≤ v2 ∧ v2 < 30 ∧ 0 ≤ M 5 1 2 v2 ∧ M 5 1 2 v2 < 30 ∧ Call G 0 0 zX6_longestWaiting [rr G 4 0 0, iv (M 1 j 7 (M 5 1 2 v2)), iv ((M 1 j 9 (M 5 1 2 v2)) - (M 1 j 5 0))] M (kI (fun x17 M15 => I32 x17 ∧ ((¬ x17 = (-1) → ((¬ x17 < 30 → eX6_vehiclesByWaiting G K X 18 [(0, rr G 4 0 0), (1, rr G 1 j 0), (2, iv (v2 + 1))] [] M15) ∧ (x17 < 30 → 0 ≤ x17 ∧ Call G 1 0 zX4_arrivalOf [rr G 1 j 0, iv (M 5 1 2 v2)] (wr M15 4 0 1 x17 (M15 1 j 8 (M 5 1 2 v2))) (kI (fun x33 M31 => eX6_vehiclesByWaiting G K X 18 [(0, rr G 4 0 0), (1, rr G 1 j 0), (2, iv (v2 + 1))] [] (wr M31 4 0 2 x17 x33))) noX))) ∧ (x17 = (-1) → I32 (M15 4 0 0 4) ∧ ((¬ (M15 4 0 0 4) < 30 → eX6_vehiclesByWaiting G K X 18 [(0, rr G 4 0 0), (1, rr G 1 j 0), (2, iv (v2 + 1))] [] (wr M15 4 0 0 4 ((M15 4 0 0 4) + 1))) ∧ ((M15 4 0 0 4) < 30 → 0 ≤ M15 4 0 0 4 ∧ M15 4 0 0 4 < 30 ∧ ∀ M45 : Mem, M45 = wr (wr M15 4 0 0 4 ((M15 4 0 0 4) + 1)) 4 0 1 (M15 4 0 0 4) (M15 1 j 8 (M 5 1 2 v2)) → Call G 1 0 zX4_arrivalOf [rr G 1 j 0, iv (M 5 1 2 v2)] M45 (kI (fun x50 M48 => eX6_vehiclesByWaiting G K X 18 [(0, rr G 4 0 0), (1, rr G 1 j 0), (2, iv (v2 + 1))] [] (wr M48 4 0 2 (M15 4 0 0 4) x50))) noX)))))) noX))) : eX6_vehiclesByWaiting G K X 18 [(0, rr G 4 0 0), (1, rr G 1 j 0), (2, iv v2)] [] M := by
  show Ex G zX6_vehiclesByWaiting 2 0 K X 0 18 [(0, rr G 4 0 0), (1, rr G 1 j 0), (2, iv v2)] [] M
  refine ev_iload_n (j := 2) dX6_vehiclesByWaiting_18 rfl rfl ?_
  refine ev_aload_n (j := 0) dX6_vehiclesByWaiting_19 rfl rfl ?_
  refine ev_get frX6_12 dX6_vehiclesByWaiting_20 dm4_0 en4_0 rfl ?_
  refine ev_get frX6_44 dX6_vehiclesByWaiting_23 (dom5 (by decide) (by decide) (by decide) (by decide)) en5_0 rfl ?_
  obtain ⟨s1, s2, h3⟩ := h
  obtain ⟨h4, h5⟩ := h3
  refine ev_icmp_ge 140 dX6_vehiclesByWaiting_26 (by decide) s1 s2 (fun c6 => ?_) (fun c6 => ?_)
  · have h7 := h4 c6
    refine ev_aload_n (j := 0) dX6_vehiclesByWaiting_140 rfl rfl ?_
    refine ev_get frX6_28 dX6_vehiclesByWaiting_141 dm4_0 en4_0 rfl ?_
    exact ev_iret dX6_vehiclesByWaiting_144 (by decide) rfl h7
  · have h8 := h5 c6
    refine ev_aload_n (j := 0) dX6_vehiclesByWaiting_29 rfl rfl ?_
    refine ev_get frX6_12 dX6_vehiclesByWaiting_30 dm4_0 en4_0 rfl ?_
    refine ev_get frX6_47 dX6_vehiclesByWaiting_33 (dom5 (by decide) (by decide) (by decide) (by decide)) en5_0 rfl ?_
    refine ev_iload_n (j := 2) dX6_vehiclesByWaiting_36 rfl rfl ?_
    obtain ⟨s9, s10, h11⟩ := h8
    refine ev_iald dX6_vehiclesByWaiting_37 (dom5 (by decide) (by decide) (by decide) (by decide)) ar5_2 (by decide) s9 s10 ?_
    refine ev_istore_n dX6_vehiclesByWaiting_38 rfl (by decide) rfl ?_
    refine ev_aload_n (j := 2) dX6_vehiclesByWaiting_39 rfl rfl ?_
    refine ev_get frX6_32 dX6_vehiclesByWaiting_40 (dom1 hj0 hj1 (by decide) (by decide)) en1_0 rfl ?_
    refine ev_get frX6_50 dX6_vehiclesByWaiting_43 (dom1 hj0 hj1 (by decide) (by decide)) en1_6 rfl ?_
    refine ev_iload_n (j := 0) dX6_vehiclesByWaiting_46 rfl rfl ?_
    obtain ⟨s12, s13, h14⟩ := h11
    refine ev_iald dX6_vehiclesByWaiting_47 (dom1 hj0 hj1 (by decide) (by decide)) ar1_9 (by decide) s12 s13 ?_
    refine ev_aload_n (j := 2) dX6_vehiclesByWaiting_48 rfl rfl ?_
    refine ev_get frX6_53 dX6_vehiclesByWaiting_49 (dom1 hj0 hj1 (by decide) (by decide)) en1_0 rfl ?_
    refine ev_get frX6_57 dX6_vehiclesByWaiting_52 (dom1 hj0 hj1 (by decide) (by decide)) en1_1 rfl ?_
    refine ev_iconst dX6_vehiclesByWaiting_55 ?_
    refine ev_iald dX6_vehiclesByWaiting_56 (dom1 hj0 hj1 (by decide) (by decide)) ar1_5 (by decide) (by decide) (by decide) ?_
    refine ev_isub dX6_vehiclesByWaiting_57 ?_
    refine ev_istore dX6_vehiclesByWaiting_58 (by decide) rfl ?_
    refine ev_aload_n (j := 2) dX6_vehiclesByWaiting_60 rfl rfl ?_
    refine ev_aload_n (j := 3) dX6_vehiclesByWaiting_61 rfl rfl ?_
    refine ev_get frX6_32 dX6_vehiclesByWaiting_62 (dom1 hj0 hj1 (by decide) (by decide)) en1_0 rfl ?_
    refine ev_get frX6_62 dX6_vehiclesByWaiting_65 (dom1 hj0 hj1 (by decide) (by decide)) en1_6 rfl ?_
    refine ev_iload_n (j := 1) dX6_vehiclesByWaiting_68 rfl rfl ?_
    refine ev_iald dX6_vehiclesByWaiting_69 (dom1 hj0 hj1 (by decide) (by decide)) ar1_7 (by decide) s12 s13 ?_
    refine ev_iload (j := 0) dX6_vehiclesByWaiting_70 rfl ?_
    refine ev_callVI (As := [iv (M 1 j 7 (M 5 1 2 v2)), iv ((M 1 j 9 (M 5 1 2 v2)) - (M 1 j 5 0))]) (st := []) mfX6_longestWaiting mlX6_65 dX6_vehiclesByWaiting_72 rfl dm4_0 en4_0 rfl rfl rfl (by decide) (by decide) (by decide) (Nat.le_of_ble_eq_true rfl) (fun _ _ z => z.elim) h14 (fun x17 M15 h16 => ?_)
    refine ev_istore dX6_vehiclesByWaiting_75 (by decide) rfl ?_
    refine ev_iload (j := 0) dX6_vehiclesByWaiting_77 rfl ?_
    refine ev_iconst dX6_vehiclesByWaiting_79 ?_
    obtain ⟨s18, h19⟩ := h16
    obtain ⟨h20, h21⟩ := h19
    refine ev_icmp_ne 99 dX6_vehiclesByWaiting_80 (by decide) s18 ⟨by decide, by decide⟩ (fun c22 => ?_) (fun c22 => ?_)
    · have h23 := h20 c22
      refine ev_iload (j := 0) dX6_vehiclesByWaiting_99 rfl ?_
      refine ev_bipush dX6_vehiclesByWaiting_101 (by decide) ?_
      obtain ⟨h24, h25⟩ := h23
      refine ev_icmp_ge 134 dX6_vehiclesByWaiting_103 (by decide) s18 ⟨by decide, by decide⟩ (fun c26 => ?_) (fun c26 => ?_)
      · have h27 := h24 c26
        refine ev_iinc (j := 5) dX6_vehiclesByWaiting_134 rfl (by decide) rfl ?_
        refine ev_goto 18 dX6_vehiclesByWaiting_137 (by decide) ?_
        exact ev_sub [4, 5, 0] rfl h27
      · have h28 := h25 c26
        refine ev_aload_n (j := 3) dX6_vehiclesByWaiting_106 rfl rfl ?_
        refine ev_get frX6_21 dX6_vehiclesByWaiting_107 dm4_0 en4_0 rfl ?_
        refine ev_iload (j := 0) dX6_vehiclesByWaiting_110 rfl ?_
        refine ev_aload_n (j := 4) dX6_vehiclesByWaiting_112 rfl rfl ?_
        refine ev_get frX6_32 dX6_vehiclesByWaiting_113 (dom1 hj0 hj1 (by decide) (by decide)) en1_0 rfl ?_
        refine ev_get frX6_69 dX6_vehiclesByWaiting_116 (dom1 hj0 hj1 (by decide) (by decide)) en1_6 rfl ?_
        refine ev_iload_n (j := 2) dX6_vehiclesByWaiting_119 rfl rfl ?_
        refine ev_iald dX6_vehiclesByWaiting_120 (dom1 hj0 hj1 (by decide) (by decide)) ar1_8 (by decide) s12 s13 ?_
        obtain ⟨s29, h30⟩ := h28
        refine ev_iast dX6_vehiclesByWaiting_121 dm4_1 ar4_1 (by decide) s29 c26 ?_
        refine ev_aload_n (j := 3) dX6_vehiclesByWaiting_122 rfl rfl ?_
        refine ev_get frX6_25 dX6_vehiclesByWaiting_123 dm4_0 en4_0 rfl ?_
        refine ev_iload (j := 0) dX6_vehiclesByWaiting_126 rfl ?_
        refine ev_aload_n (j := 4) dX6_vehiclesByWaiting_128 rfl rfl ?_
        refine ev_iload_n (j := 2) dX6_vehiclesByWaiting_129 rfl rfl ?_
        refine ev_callVI (As := [iv (M 5 1 2 v2)]) (st := [iv x17, rr G 4 0 2]) mfX4_arrivalOf mlX6_72 dX6_vehiclesByWaiting_130 rfl (dom1 hj0 hj1 (by decide) (by decide)) en1_0 rfl rfl rfl (by decide) (by decide) (by decide) (Nat.le_of_ble_eq_true rfl) (fun _ _ z => z.elim) h30 (fun x33 M31 h32 => ?_)
        refine ev_iast dX6_vehiclesByWaiting_133 dm4_2 ar4_2 (by decide) s29 c26 ?_
        refine ev_iinc (j := 5) dX6_vehiclesByWaiting_134 rfl (by decide) rfl ?_
        refine ev_goto 18 dX6_vehiclesByWaiting_137 (by decide) ?_
        exact ev_sub [4, 5, 0] rfl h32
    · have h34 := h21 c22
      refine ev_aload_n (j := 3) dX6_vehiclesByWaiting_83 rfl rfl ?_
      refine ev_get frX6_28 dX6_vehiclesByWaiting_84 dm4_0 en4_0 rfl ?_
      refine ev_istore dX6_vehiclesByWaiting_87 (by decide) rfl ?_
      refine ev_aload_n (j := 3) dX6_vehiclesByWaiting_89 rfl rfl ?_
      refine ev_dup dX6_vehiclesByWaiting_90 rfl ?_
      refine ev_get frX6_28 dX6_vehiclesByWaiting_91 dm4_0 en4_0 rfl ?_
      refine ev_iconst dX6_vehiclesByWaiting_94 ?_
      refine ev_iadd dX6_vehiclesByWaiting_95 ?_
      refine ev_put fwX6_28 dX6_vehiclesByWaiting_96 dm4_0 en4_0 rfl rfl rfl (Nat.le_of_ble_eq_true rfl) ?_
      refine ev_iload (j := 0) dX6_vehiclesByWaiting_99 rfl ?_
      refine ev_bipush dX6_vehiclesByWaiting_101 (by decide) ?_
      obtain ⟨s35, h36⟩ := h34
      obtain ⟨h37, h38⟩ := h36
      refine ev_icmp_ge 134 dX6_vehiclesByWaiting_103 (by decide) s35 ⟨by decide, by decide⟩ (fun c39 => ?_) (fun c39 => ?_)
      · have h40 := h37 c39
        refine ev_iinc (j := 5) dX6_vehiclesByWaiting_134 rfl (by decide) rfl ?_
        refine ev_goto 18 dX6_vehiclesByWaiting_137 (by decide) ?_
        exact ev_sub [4, 5, 0] rfl h40
      · have h41 := h38 c39
        refine ev_aload_n (j := 3) dX6_vehiclesByWaiting_106 rfl rfl ?_
        refine ev_get frX6_21 dX6_vehiclesByWaiting_107 dm4_0 en4_0 rfl ?_
        refine ev_iload (j := 0) dX6_vehiclesByWaiting_110 rfl ?_
        refine ev_aload_n (j := 4) dX6_vehiclesByWaiting_112 rfl rfl ?_
        refine ev_get frX6_32 dX6_vehiclesByWaiting_113 (dom1 hj0 hj1 (by decide) (by decide)) en1_0 rfl ?_
        refine ev_get frX6_69 dX6_vehiclesByWaiting_116 (dom1 hj0 hj1 (by decide) (by decide)) en1_6 rfl ?_
        refine ev_iload_n (j := 2) dX6_vehiclesByWaiting_119 rfl rfl ?_
        refine ev_iald dX6_vehiclesByWaiting_120 (dom1 hj0 hj1 (by decide) (by decide)) ar1_8 (by decide) s12 s13 ?_
        refine ev_topI (b := M15 1 j 8 (M 5 1 2 v2)) rfl ?_
        obtain ⟨s42, s43, h44⟩ := h41
        refine ev_iast dX6_vehiclesByWaiting_121 dm4_1 ar4_1 (by decide) s42 s43 ?_
        obtain ⟨M45, e47⟩ : ∃ M45 : Mem, M45 = wr (wr M15 4 0 0 4 ((M15 4 0 0 4) + 1)) 4 0 1 (M15 4 0 0 4) (M15 1 j 8 (M 5 1 2 v2)) := ⟨_, rfl⟩
        have h46 := h44 _ e47
        refine ev_mem e47 ?_
        refine ev_aload_n (j := 3) dX6_vehiclesByWaiting_122 rfl rfl ?_
        refine ev_get frX6_25 dX6_vehiclesByWaiting_123 dm4_0 en4_0 rfl ?_
        refine ev_iload (j := 0) dX6_vehiclesByWaiting_126 rfl ?_
        refine ev_aload_n (j := 4) dX6_vehiclesByWaiting_128 rfl rfl ?_
        refine ev_iload_n (j := 2) dX6_vehiclesByWaiting_129 rfl rfl ?_
        refine ev_callVI (As := [iv (M 5 1 2 v2)]) (st := [iv (M15 4 0 0 4), rr G 4 0 2]) mfX4_arrivalOf mlX6_72 dX6_vehiclesByWaiting_130 rfl (dom1 hj0 hj1 (by decide) (by decide)) en1_0 rfl rfl rfl (by decide) (by decide) (by decide) (Nat.le_of_ble_eq_true rfl) (fun _ _ z => z.elim) h46 (fun x50 M48 h49 => ?_)
        refine ev_iast dX6_vehiclesByWaiting_133 dm4_2 ar4_2 (by decide) s42 s43 ?_
        refine ev_iinc (j := 5) dX6_vehiclesByWaiting_134 rfl (by decide) rfl ?_
        refine ev_goto 18 dX6_vehiclesByWaiting_137 (by decide) ?_
        exact ev_sub [4, 5, 0] rfl h49
def eX7_clear (G : GT) (K : List Value → Mem → Prop) (X : String → Mem → Prop) (pc : Nat) (lv : List (Nat × Value)) (st : List Value) (M : Mem) : Prop := Ex G zX7_clear 0 0 K X 0 pc lv st M
set_option maxRecDepth 20000 in
set_option maxHeartbeats 4000000 in
theorem bX7_clear {G : GT} {K : List Value → Mem → Prop} {X : String → Mem → Prop} {M : Mem} {q : Int} (hq0 : 0 ≤ q) (hq1 : q < 3) (h : K [] (wr M 5 q 0 2 0)) : Call G 0 0 zX7_clear [rr G 5 q 0] M K X := by
  refine call_intro (lv := [(0, rr G 5 q 0)]) (by decide) rfl (Nat.le_of_ble_eq_true rfl) rfl ?_
  refine ev_aload_n (j := 0) dX7_clear_0 rfl rfl ?_
  refine ev_iconst dX7_clear_1 ?_
  refine ev_put fwX7_18 dX7_clear_2 (dom5 hq0 hq1 (by decide) (by decide)) en5_0 rfl rfl rfl (Nat.le_of_ble_eq_true rfl) ?_
  exact ev_vret dX7_clear_5 (by decide) rfl h
def eX7_greatestHeadway (G : GT) (K : List Value → Mem → Prop) (X : String → Mem → Prop) (pc : Nat) (lv : List (Nat × Value)) (st : List Value) (M : Mem) : Prop := Ex G zX7_greatestHeadway 1 0 K X 0 pc lv st M
set_option maxRecDepth 20000 in
set_option maxHeartbeats 4000000 in
theorem bX7_greatestHeadway {G : GT} {K : List Value → Mem → Prop} {X : String → Mem → Prop} {M : Mem} {q : Int} (hq0 : 0 ≤ q) (hq1 : q < 3) (h : eX7_greatestHeadway G K X 4 [(0, rr G 5 q 0), (1, iv 0), (2, iv 1)] [] M) : Call G 1 0 zX7_greatestHeadway [rr G 5 q 0] M K X := by
  refine call_intro (lv := [(0, rr G 5 q 0)]) (by decide) rfl (Nat.le_of_ble_eq_true rfl) rfl ?_
  refine ev_iconst dX7_greatestHeadway_0 ?_
  refine ev_istore_n dX7_greatestHeadway_1 rfl (by decide) rfl ?_
  refine ev_iconst dX7_greatestHeadway_2 ?_
  refine ev_istore_n dX7_greatestHeadway_3 rfl (by decide) rfl ?_
  exact ev_sub [2, 1, 0] rfl h
set_option maxRecDepth 20000 in
set_option maxHeartbeats 4000000 in
theorem bX7_greatestHeadway_4 {G : GT} {K : List Value → Mem → Prop} {X : String → Mem → Prop} {M : Mem} {q : Int} (hq0 : 0 ≤ q) (hq1 : q < 3) {v1 v2 : Int} (h : I32 v2 ∧ I32 (M 5 q 0 2) ∧ ((¬ v2 < (M 5 q 0 2) → K [iv v1] M) ∧ (v2 < (M 5 q 0 2) → 0 ≤ v2 ∧ v2 < 30 ∧ 0 ≤ v2 - 1 ∧ v2 - 1 < 30 ∧ I32 v1 ∧ I32 ((M 5 q 1 v2) - (M 5 q 1 (v2 - 1))) ∧ eX7_greatestHeadway G K X 4 [(0, rr G 5 q 0), (1, iv (max v1 ((M 5 q 1 v2) - (M 5 q 1 (v2 - 1))))), (2, iv (v2 + 1))] [] M))) : eX7_greatestHeadway G K X 4 [(0, rr G 5 q 0), (1, iv v1), (2, iv v2)] [] M := by
  show Ex G zX7_greatestHeadway 1 0 K X 0 4 [(0, rr G 5 q 0), (1, iv v1), (2, iv v2)] [] M
  refine ev_iload_n (j := 2) dX7_greatestHeadway_4 rfl rfl ?_
  refine ev_aload_n (j := 0) dX7_greatestHeadway_5 rfl rfl ?_
  refine ev_get frX7_18 dX7_greatestHeadway_6 (dom5 hq0 hq1 (by decide) (by decide)) en5_0 rfl ?_
  obtain ⟨s1, s2, h3⟩ := h
  obtain ⟨h4, h5⟩ := h3
  refine ev_icmp_ge 38 dX7_greatestHeadway_9 (by decide) s1 s2 (fun c6 => ?_) (fun c6 => ?_)
  · have h7 := h4 c6
    refine ev_iload_n (j := 1) dX7_greatestHeadway_38 rfl rfl ?_
    exact ev_iret dX7_greatestHeadway_39 (by decide) rfl h7
  · have h8 := h5 c6
    refine ev_iload_n (j := 1) dX7_greatestHeadway_12 rfl rfl ?_
    refine ev_aload_n (j := 0) dX7_greatestHeadway_13 rfl rfl ?_
    refine ev_get frX7_9 dX7_greatestHeadway_14 (dom5 hq0 hq1 (by decide) (by decide)) en5_0 rfl ?_
    refine ev_iload_n (j := 2) dX7_greatestHeadway_17 rfl rfl ?_
    obtain ⟨s9, s10, h11⟩ := h8
    refine ev_iald dX7_greatestHeadway_18 (dom5 hq0 hq1 (by decide) (by decide)) ar5_1 (by decide) s9 s10 ?_
    refine ev_aload_n (j := 0) dX7_greatestHeadway_19 rfl rfl ?_
    refine ev_get frX7_9 dX7_greatestHeadway_20 (dom5 hq0 hq1 (by decide) (by decide)) en5_0 rfl ?_
    refine ev_iload_n (j := 2) dX7_greatestHeadway_23 rfl rfl ?_
    refine ev_iconst dX7_greatestHeadway_24 ?_
    refine ev_isub dX7_greatestHeadway_25 ?_
    obtain ⟨s12, s13, h14⟩ := h11
    refine ev_iald dX7_greatestHeadway_26 (dom5 hq0 hq1 (by decide) (by decide)) ar5_1 (by decide) s12 s13 ?_
    refine ev_isub dX7_greatestHeadway_27 ?_
    obtain ⟨s15, s16, h17⟩ := h14
    refine ev_max mlX7_32 wm_max_st wm_math wm_max_cd dX7_greatestHeadway_28 (by decide) (by decide) (Nat.le_of_ble_eq_true rfl) s15 s16 ?_
    refine ev_istore_n dX7_greatestHeadway_31 rfl (by decide) rfl ?_
    refine ev_iinc (j := 2) dX7_greatestHeadway_32 rfl (by decide) rfl ?_
    refine ev_goto 4 dX7_greatestHeadway_35 (by decide) ?_
    exact ev_sub [2, 1, 0] rfl h17
def eX7_headwaysBelow (G : GT) (K : List Value → Mem → Prop) (X : String → Mem → Prop) (pc : Nat) (lv : List (Nat × Value)) (st : List Value) (M : Mem) : Prop := Ex G zX7_headwaysBelow 0 0 K X 0 pc lv st M
set_option maxRecDepth 20000 in
set_option maxHeartbeats 4000000 in
theorem bX7_headwaysBelow {G : GT} {K : List Value → Mem → Prop} {X : String → Mem → Prop} {M : Mem} {q : Int} (hq0 : 0 ≤ q) (hq1 : q < 3) {v1 : Int} (h : eX7_headwaysBelow G K X 4 [(0, rr G 5 q 0), (1, iv v1), (2, iv 0), (3, iv 1)] [] M) : Call G 0 0 zX7_headwaysBelow [rr G 5 q 0, iv v1] M K X := by
  refine call_intro (lv := [(0, rr G 5 q 0), (1, iv v1)]) (by decide) rfl (Nat.le_of_ble_eq_true rfl) rfl ?_
  refine ev_iconst dX7_headwaysBelow_0 ?_
  refine ev_istore_n dX7_headwaysBelow_1 rfl (by decide) rfl ?_
  refine ev_iconst dX7_headwaysBelow_2 ?_
  refine ev_istore_n dX7_headwaysBelow_3 rfl (by decide) rfl ?_
  exact ev_sub [2, 3, 1, 0] rfl h
set_option maxRecDepth 20000 in
set_option maxHeartbeats 4000000 in
theorem bX7_headwaysBelow_4 {G : GT} {K : List Value → Mem → Prop} {X : String → Mem → Prop} {M : Mem} {q : Int} (hq0 : 0 ≤ q) (hq1 : q < 3) {v1 v2 v3 : Int} (h : I32 v3 ∧ I32 (M 5 q 0 2) ∧ ((¬ v3 < (M 5 q 0 2) → K [iv v2] M) ∧ (v3 < (M 5 q 0 2) → 0 ≤ v3 ∧ v3 < 30 ∧ 0 ≤ v3 - 1 ∧ v3 - 1 < 30 ∧ I32 ((M 5 q 1 v3) - (M 5 q 1 (v3 - 1))) ∧ I32 v1 ∧ ((¬ ((M 5 q 1 v3) - (M 5 q 1 (v3 - 1))) < v1 → eX7_headwaysBelow G K X 4 [(0, rr G 5 q 0), (1, iv v1), (2, iv v2), (3, iv (v3 + 1))] [] M) ∧ (((M 5 q 1 v3) - (M 5 q 1 (v3 - 1))) < v1 → eX7_headwaysBelow G K X 4 [(0, rr G 5 q 0), (1, iv v1), (2, iv (v2 + 1)), (3, iv (v3 + 1))] [] M))))) : eX7_headwaysBelow G K X 4 [(0, rr G 5 q 0), (1, iv v1), (2, iv v2), (3, iv v3)] [] M := by
  show Ex G zX7_headwaysBelow 0 0 K X 0 4 [(0, rr G 5 q 0), (1, iv v1), (2, iv v2), (3, iv v3)] [] M
  refine ev_iload_n (j := 3) dX7_headwaysBelow_4 rfl rfl ?_
  refine ev_aload_n (j := 0) dX7_headwaysBelow_5 rfl rfl ?_
  refine ev_get frX7_18 dX7_headwaysBelow_6 (dom5 hq0 hq1 (by decide) (by decide)) en5_0 rfl ?_
  obtain ⟨s1, s2, h3⟩ := h
  obtain ⟨h4, h5⟩ := h3
  refine ev_icmp_ge 40 dX7_headwaysBelow_9 (by decide) s1 s2 (fun c6 => ?_) (fun c6 => ?_)
  · have h7 := h4 c6
    refine ev_iload_n (j := 2) dX7_headwaysBelow_40 rfl rfl ?_
    exact ev_iret dX7_headwaysBelow_41 (by decide) rfl h7
  · have h8 := h5 c6
    refine ev_aload_n (j := 0) dX7_headwaysBelow_12 rfl rfl ?_
    refine ev_get frX7_9 dX7_headwaysBelow_13 (dom5 hq0 hq1 (by decide) (by decide)) en5_0 rfl ?_
    refine ev_iload_n (j := 3) dX7_headwaysBelow_16 rfl rfl ?_
    obtain ⟨s9, s10, h11⟩ := h8
    refine ev_iald dX7_headwaysBelow_17 (dom5 hq0 hq1 (by decide) (by decide)) ar5_1 (by decide) s9 s10 ?_
    refine ev_aload_n (j := 0) dX7_headwaysBelow_18 rfl rfl ?_
    refine ev_get frX7_9 dX7_headwaysBelow_19 (dom5 hq0 hq1 (by decide) (by decide)) en5_0 rfl ?_
    refine ev_iload_n (j := 3) dX7_headwaysBelow_22 rfl rfl ?_
    refine ev_iconst dX7_headwaysBelow_23 ?_
    refine ev_isub dX7_headwaysBelow_24 ?_
    obtain ⟨s12, s13, h14⟩ := h11
    refine ev_iald dX7_headwaysBelow_25 (dom5 hq0 hq1 (by decide) (by decide)) ar5_1 (by decide) s12 s13 ?_
    refine ev_isub dX7_headwaysBelow_26 ?_
    refine ev_iload_n (j := 1) dX7_headwaysBelow_27 rfl rfl ?_
    obtain ⟨s15, s16, h17⟩ := h14
    obtain ⟨h18, h19⟩ := h17
    refine ev_icmp_ge 34 dX7_headwaysBelow_28 (by decide) s15 s16 (fun c20 => ?_) (fun c20 => ?_)
    · have h21 := h18 c20
      refine ev_iinc (j := 3) dX7_headwaysBelow_34 rfl (by decide) rfl ?_
      refine ev_goto 4 dX7_headwaysBelow_37 (by decide) ?_
      exact ev_sub [1, 2, 3, 0] rfl h21
    · have h22 := h19 c20
      refine ev_iinc (j := 2) dX7_headwaysBelow_31 rfl (by decide) rfl ?_
      refine ev_iinc (j := 3) dX7_headwaysBelow_34 rfl (by decide) rfl ?_
      refine ev_goto 4 dX7_headwaysBelow_37 (by decide) ?_
      exact ev_sub [2, 3, 1, 0] rfl h22
def eX7_leastHeadway (G : GT) (K : List Value → Mem → Prop) (X : String → Mem → Prop) (pc : Nat) (lv : List (Nat × Value)) (st : List Value) (M : Mem) : Prop := Ex G zX7_leastHeadway 1 0 K X 0 pc lv st M
set_option maxRecDepth 20000 in
set_option maxHeartbeats 4000000 in
theorem bX7_leastHeadway {G : GT} {K : List Value → Mem → Prop} {X : String → Mem → Prop} {M : Mem} {q : Int} (hq0 : 0 ≤ q) (hq1 : q < 3) (h : Call G 0 0 zX7_span [rr G 5 q 0] M (kI (fun x3 M1 => eX7_leastHeadway G K X 7 [(0, rr G 5 q 0), (1, iv x3), (2, iv 1)] [] M1)) noX) : Call G 1 0 zX7_leastHeadway [rr G 5 q 0] M K X := by
  refine call_intro (lv := [(0, rr G 5 q 0)]) (by decide) rfl (Nat.le_of_ble_eq_true rfl) rfl ?_
  refine ev_aload_n (j := 0) dX7_leastHeadway_0 rfl rfl ?_
  refine ev_callVI (As := []) (st := []) mfX7_span mlX7_22 dX7_leastHeadway_1 rfl (dom5 hq0 hq1 (by decide) (by decide)) en5_0 rfl rfl rfl (by decide) (by decide) (by decide) (Nat.le_of_ble_eq_true rfl) (fun _ _ z => z.elim) h (fun x3 M1 h2 => ?_)
  refine ev_istore_n dX7_leastHeadway_4 rfl (by decide) rfl ?_
  refine ev_iconst dX7_leastHeadway_5 ?_
  refine ev_istore_n dX7_leastHeadway_6 rfl (by decide) rfl ?_
  exact ev_sub [2, 1, 0] rfl h2
set_option maxRecDepth 20000 in
set_option maxHeartbeats 4000000 in
theorem bX7_leastHeadway_7 {G : GT} {K : List Value → Mem → Prop} {X : String → Mem → Prop} {M : Mem} {q : Int} (hq0 : 0 ≤ q) (hq1 : q < 3) {v1 v2 : Int} (h : I32 v2 ∧ I32 (M 5 q 0 2) ∧ ((¬ v2 < (M 5 q 0 2) → K [iv v1] M) ∧ (v2 < (M 5 q 0 2) → 0 ≤ v2 ∧ v2 < 30 ∧ 0 ≤ v2 - 1 ∧ v2 - 1 < 30 ∧ I32 v1 ∧ I32 ((M 5 q 1 v2) - (M 5 q 1 (v2 - 1))) ∧ eX7_leastHeadway G K X 7 [(0, rr G 5 q 0), (1, iv (min v1 ((M 5 q 1 v2) - (M 5 q 1 (v2 - 1))))), (2, iv (v2 + 1))] [] M))) : eX7_leastHeadway G K X 7 [(0, rr G 5 q 0), (1, iv v1), (2, iv v2)] [] M := by
  show Ex G zX7_leastHeadway 1 0 K X 0 7 [(0, rr G 5 q 0), (1, iv v1), (2, iv v2)] [] M
  refine ev_iload_n (j := 2) dX7_leastHeadway_7 rfl rfl ?_
  refine ev_aload_n (j := 0) dX7_leastHeadway_8 rfl rfl ?_
  refine ev_get frX7_18 dX7_leastHeadway_9 (dom5 hq0 hq1 (by decide) (by decide)) en5_0 rfl ?_
  obtain ⟨s1, s2, h3⟩ := h
  obtain ⟨h4, h5⟩ := h3
  refine ev_icmp_ge 41 dX7_leastHeadway_12 (by decide) s1 s2 (fun c6 => ?_) (fun c6 => ?_)
  · have h7 := h4 c6
    refine ev_iload_n (j := 1) dX7_leastHeadway_41 rfl rfl ?_
    exact ev_iret dX7_leastHeadway_42 (by decide) rfl h7
  · have h8 := h5 c6
    refine ev_iload_n (j := 1) dX7_leastHeadway_15 rfl rfl ?_
    refine ev_aload_n (j := 0) dX7_leastHeadway_16 rfl rfl ?_
    refine ev_get frX7_9 dX7_leastHeadway_17 (dom5 hq0 hq1 (by decide) (by decide)) en5_0 rfl ?_
    refine ev_iload_n (j := 2) dX7_leastHeadway_20 rfl rfl ?_
    obtain ⟨s9, s10, h11⟩ := h8
    refine ev_iald dX7_leastHeadway_21 (dom5 hq0 hq1 (by decide) (by decide)) ar5_1 (by decide) s9 s10 ?_
    refine ev_aload_n (j := 0) dX7_leastHeadway_22 rfl rfl ?_
    refine ev_get frX7_9 dX7_leastHeadway_23 (dom5 hq0 hq1 (by decide) (by decide)) en5_0 rfl ?_
    refine ev_iload_n (j := 2) dX7_leastHeadway_26 rfl rfl ?_
    refine ev_iconst dX7_leastHeadway_27 ?_
    refine ev_isub dX7_leastHeadway_28 ?_
    obtain ⟨s12, s13, h14⟩ := h11
    refine ev_iald dX7_leastHeadway_29 (dom5 hq0 hq1 (by decide) (by decide)) ar5_1 (by decide) s12 s13 ?_
    refine ev_isub dX7_leastHeadway_30 ?_
    obtain ⟨s15, s16, h17⟩ := h14
    refine ev_min mlX7_26 wm_min_st wm_math wm_min_cd dX7_leastHeadway_31 (by decide) (by decide) (Nat.le_of_ble_eq_true rfl) s15 s16 ?_
    refine ev_istore_n dX7_leastHeadway_34 rfl (by decide) rfl ?_
    refine ev_iinc (j := 2) dX7_leastHeadway_35 rfl (by decide) rfl ?_
    refine ev_goto 7 dX7_leastHeadway_38 (by decide) ?_
    exact ev_sub [2, 1, 0] rfl h17
def eX7_put (G : GT) (K : List Value → Mem → Prop) (X : String → Mem → Prop) (pc : Nat) (lv : List (Nat × Value)) (st : List Value) (M : Mem) : Prop := Ex G zX7_put 0 0 K X 0 pc lv st M
set_option maxRecDepth 20000 in
set_option maxHeartbeats 4000000 in
theorem bX7_put {G : GT} {K : List Value → Mem → Prop} {X : String → Mem → Prop} {M : Mem} {q : Int} (hq0 : 0 ≤ q) (hq1 : q < 3) {v1 v2 : Int} (h : I32 (M 5 q 0 2) ∧ (((M 5 q 0 2) < 30 → eX7_put G K X 15 [(0, rr G 5 q 0), (1, iv v1), (2, iv v2), (3, iv (M 5 q 0 2))] [] M) ∧ (¬ (M 5 q 0 2) < 30 → K [] M))) : Call G 0 0 zX7_put [rr G 5 q 0, iv v1, iv v2] M K X := by
  refine call_intro (lv := [(0, rr G 5 q 0), (1, iv v1), (2, iv v2)]) (by decide) rfl (Nat.le_of_ble_eq_true rfl) rfl ?_
  refine ev_aload_n (j := 0) dX7_put_0 rfl rfl ?_
  refine ev_get frX7_18 dX7_put_1 (dom5 hq0 hq1 (by decide) (by decide)) en5_0 rfl ?_
  refine ev_bipush dX7_put_4 (by decide) ?_
  obtain ⟨s1, h2⟩ := h
  obtain ⟨h3, h4⟩ := h2
  refine ev_icmp_lt 10 dX7_put_6 (by decide) s1 ⟨by decide, by decide⟩ (fun c5 => ?_) (fun c5 => ?_)
  · have h6 := h3 c5
    refine ev_aload_n (j := 0) dX7_put_10 rfl rfl ?_
    refine ev_get frX7_18 dX7_put_11 (dom5 hq0 hq1 (by decide) (by decide)) en5_0 rfl ?_
    refine ev_istore_n dX7_put_14 rfl (by decide) rfl ?_
    exact ev_sub [1, 2, 3, 0] rfl h6
  · have h7 := h4 c5
    exact ev_vret dX7_put_9 (by decide) rfl h7
set_option maxRecDepth 20000 in
set_option maxHeartbeats 4000000 in
theorem bX7_put_15 {G : GT} {K : List Value → Mem → Prop} {X : String → Mem → Prop} {M : Mem} {q : Int} (hq0 : 0 ≤ q) (hq1 : q < 3) {v1 v2 v3 : Int} (h : I32 v3 ∧ ((¬ 0 < v3 → 0 ≤ v3 ∧ v3 < 30 ∧ ∀ M10 : Mem, M10 = wr (wr (wr M 5 q 1 v3 v1) 5 q 2 v3 v2) 5 q 0 2 ((M 5 q 0 2) + 1) → K [] M10) ∧ (0 < v3 → 0 ≤ v3 - 1 ∧ v3 - 1 < 30 ∧ I32 (M 5 q 1 (v3 - 1)) ∧ I32 v1 ∧ ((¬ v1 < (M 5 q 1 (v3 - 1)) → 0 ≤ v3 ∧ v3 < 30 ∧ ∀ M27 : Mem, M27 = wr (wr (wr M 5 q 1 v3 v1) 5 q 2 v3 v2) 5 q 0 2 ((M 5 q 0 2) + 1) → K [] M27) ∧ (v1 < (M 5 q 1 (v3 - 1)) → 0 ≤ v3 ∧ v3 < 30 ∧ ∀ M34 : Mem, M34 = wr (wr M 5 q 1 v3 (M 5 q 1 (v3 - 1))) 5 q 2 v3 (M 5 q 2 (v3 - 1)) → eX7_put G K X 15 [(0, rr G 5 q 0), (1, iv v1), (2, iv v2), (3, iv (v3 + (-1)))] [] M34))))) : eX7_put G K X 15 [(0, rr G 5 q 0), (1, iv v1), (2, iv v2), (3, iv v3)] [] M := by
  show Ex G zX7_put 0 0 K X 0 15 [(0, rr G 5 q 0), (1, iv v1), (2, iv v2), (3, iv v3)] [] M
  refine ev_iload_n (j := 3) dX7_put_15 rfl rfl ?_
  obtain ⟨s1, h2⟩ := h
  obtain ⟨h3, h4⟩ := h2
  refine ev_if_le 65 dX7_put_16 (by decide) s1 (fun c5 => ?_) (fun c5 => ?_)
  · have h6 := h3 c5
    refine ev_aload_n (j := 0) dX7_put_65 rfl rfl ?_
    refine ev_get frX7_9 dX7_put_66 (dom5 hq0 hq1 (by decide) (by decide)) en5_0 rfl ?_
    refine ev_iload_n (j := 3) dX7_put_69 rfl rfl ?_
    refine ev_iload_n (j := 1) dX7_put_70 rfl rfl ?_
    obtain ⟨s7, s8, h9⟩ := h6
    refine ev_iast dX7_put_71 (dom5 hq0 hq1 (by decide) (by decide)) ar5_1 (by decide) s7 s8 ?_
    refine ev_aload_n (j := 0) dX7_put_72 rfl rfl ?_
    refine ev_get frX7_15 dX7_put_73 (dom5 hq0 hq1 (by decide) (by decide)) en5_0 rfl ?_
    refine ev_iload_n (j := 3) dX7_put_76 rfl rfl ?_
    refine ev_iload_n (j := 2) dX7_put_77 rfl rfl ?_
    refine ev_iast dX7_put_78 (dom5 hq0 hq1 (by decide) (by decide)) ar5_2 (by decide) s7 s8 ?_
    refine ev_aload_n (j := 0) dX7_put_79 rfl rfl ?_
    refine ev_dup dX7_put_80 rfl ?_
    refine ev_get frX7_18 dX7_put_81 (dom5 hq0 hq1 (by decide) (by decide)) en5_0 rfl ?_
    refine ev_topI (b := M 5 q 0 2) rfl ?_
    refine ev_iconst dX7_put_84 ?_
    refine ev_iadd dX7_put_85 ?_
    refine ev_put fwX7_18 dX7_put_86 (dom5 hq0 hq1 (by decide) (by decide)) en5_0 rfl rfl rfl (Nat.le_of_ble_eq_true rfl) ?_
    obtain ⟨M10, e12⟩ : ∃ M10 : Mem, M10 = wr (wr (wr M 5 q 1 v3 v1) 5 q 2 v3 v2) 5 q 0 2 ((M 5 q 0 2) + 1) := ⟨_, rfl⟩
    have h11 := h9 _ e12
    refine ev_mem e12 ?_
    exact ev_vret dX7_put_89 (by decide) rfl h11
  · have h13 := h4 c5
    refine ev_aload_n (j := 0) dX7_put_19 rfl rfl ?_
    refine ev_get frX7_9 dX7_put_20 (dom5 hq0 hq1 (by decide) (by decide)) en5_0 rfl ?_
    refine ev_iload_n (j := 3) dX7_put_23 rfl rfl ?_
    refine ev_iconst dX7_put_24 ?_
    refine ev_isub dX7_put_25 ?_
    obtain ⟨s14, s15, h16⟩ := h13
    refine ev_iald dX7_put_26 (dom5 hq0 hq1 (by decide) (by decide)) ar5_1 (by decide) s14 s15 ?_
    refine ev_iload_n (j := 1) dX7_put_27 rfl rfl ?_
    obtain ⟨s17, s18, h19⟩ := h16
    obtain ⟨h20, h21⟩ := h19
    refine ev_icmp_le 65 dX7_put_28 (by decide) s17 s18 (fun c22 => ?_) (fun c22 => ?_)
    · have h23 := h20 c22
      refine ev_aload_n (j := 0) dX7_put_65 rfl rfl ?_
      refine ev_get frX7_9 dX7_put_66 (dom5 hq0 hq1 (by decide) (by decide)) en5_0 rfl ?_
      refine ev_iload_n (j := 3) dX7_put_69 rfl rfl ?_
      refine ev_iload_n (j := 1) dX7_put_70 rfl rfl ?_
      obtain ⟨s24, s25, h26⟩ := h23
      refine ev_iast dX7_put_71 (dom5 hq0 hq1 (by decide) (by decide)) ar5_1 (by decide) s24 s25 ?_
      refine ev_aload_n (j := 0) dX7_put_72 rfl rfl ?_
      refine ev_get frX7_15 dX7_put_73 (dom5 hq0 hq1 (by decide) (by decide)) en5_0 rfl ?_
      refine ev_iload_n (j := 3) dX7_put_76 rfl rfl ?_
      refine ev_iload_n (j := 2) dX7_put_77 rfl rfl ?_
      refine ev_iast dX7_put_78 (dom5 hq0 hq1 (by decide) (by decide)) ar5_2 (by decide) s24 s25 ?_
      refine ev_aload_n (j := 0) dX7_put_79 rfl rfl ?_
      refine ev_dup dX7_put_80 rfl ?_
      refine ev_get frX7_18 dX7_put_81 (dom5 hq0 hq1 (by decide) (by decide)) en5_0 rfl ?_
      refine ev_topI (b := M 5 q 0 2) rfl ?_
      refine ev_iconst dX7_put_84 ?_
      refine ev_iadd dX7_put_85 ?_
      refine ev_put fwX7_18 dX7_put_86 (dom5 hq0 hq1 (by decide) (by decide)) en5_0 rfl rfl rfl (Nat.le_of_ble_eq_true rfl) ?_
      obtain ⟨M27, e29⟩ : ∃ M27 : Mem, M27 = wr (wr (wr M 5 q 1 v3 v1) 5 q 2 v3 v2) 5 q 0 2 ((M 5 q 0 2) + 1) := ⟨_, rfl⟩
      have h28 := h26 _ e29
      refine ev_mem e29 ?_
      exact ev_vret dX7_put_89 (by decide) rfl h28
    · have h30 := h21 c22
      refine ev_aload_n (j := 0) dX7_put_31 rfl rfl ?_
      refine ev_get frX7_9 dX7_put_32 (dom5 hq0 hq1 (by decide) (by decide)) en5_0 rfl ?_
      refine ev_iload_n (j := 3) dX7_put_35 rfl rfl ?_
      refine ev_aload_n (j := 0) dX7_put_36 rfl rfl ?_
      refine ev_get frX7_9 dX7_put_37 (dom5 hq0 hq1 (by decide) (by decide)) en5_0 rfl ?_
      refine ev_iload_n (j := 3) dX7_put_40 rfl rfl ?_
      refine ev_iconst dX7_put_41 ?_
      refine ev_isub dX7_put_42 ?_
      refine ev_iald dX7_put_43 (dom5 hq0 hq1 (by decide) (by decide)) ar5_1 (by decide) s14 s15 ?_
      obtain ⟨s31, s32, h33⟩ := h30
      refine ev_iast dX7_put_44 (dom5 hq0 hq1 (by decide) (by decide)) ar5_1 (by decide) s31 s32 ?_
      refine ev_aload_n (j := 0) dX7_put_45 rfl rfl ?_
      refine ev_get frX7_15 dX7_put_46 (dom5 hq0 hq1 (by decide) (by decide)) en5_0 rfl ?_
      refine ev_iload_n (j := 3) dX7_put_49 rfl rfl ?_
      refine ev_aload_n (j := 0) dX7_put_50 rfl rfl ?_
      refine ev_get frX7_15 dX7_put_51 (dom5 hq0 hq1 (by decide) (by decide)) en5_0 rfl ?_
      refine ev_iload_n (j := 3) dX7_put_54 rfl rfl ?_
      refine ev_iconst dX7_put_55 ?_
      refine ev_isub dX7_put_56 ?_
      refine ev_iald dX7_put_57 (dom5 hq0 hq1 (by decide) (by decide)) ar5_2 (by decide) s14 s15 ?_
      refine ev_topI (b := M 5 q 2 (v3 - 1)) rfl ?_
      refine ev_iast dX7_put_58 (dom5 hq0 hq1 (by decide) (by decide)) ar5_2 (by decide) s31 s32 ?_
      obtain ⟨M34, e36⟩ : ∃ M34 : Mem, M34 = wr (wr M 5 q 1 v3 (M 5 q 1 (v3 - 1))) 5 q 2 v3 (M 5 q 2 (v3 - 1)) := ⟨_, rfl⟩
      have h35 := h33 _ e36
      refine ev_mem e36 ?_
      refine ev_iinc (j := 3) dX7_put_59 rfl (by decide) rfl ?_
      refine ev_goto 15 dX7_put_62 (by decide) ?_
      exact ev_sub [1, 2, 3, 0] rfl h35
def eX7_span (G : GT) (K : List Value → Mem → Prop) (X : String → Mem → Prop) (pc : Nat) (lv : List (Nat × Value)) (st : List Value) (M : Mem) : Prop := Ex G zX7_span 0 0 K X 0 pc lv st M
set_option maxRecDepth 20000 in
set_option maxHeartbeats 4000000 in
theorem bX7_span {G : GT} {K : List Value → Mem → Prop} {X : String → Mem → Prop} {M : Mem} {q : Int} (hq0 : 0 ≤ q) (hq1 : q < 3) (h : I32 (M 5 q 0 2) ∧ ((¬ (M 5 q 0 2) = 0 → 0 ≤ (M 5 q 0 2) - 1 ∧ (M 5 q 0 2) - 1 < 30 ∧ K [iv ((M 5 q 1 ((M 5 q 0 2) - 1)) - (M 5 q 1 0))] M) ∧ ((M 5 q 0 2) = 0 → K [iv 0] M))) : Call G 0 0 zX7_span [rr G 5 q 0] M K X := by
  refine call_intro (lv := [(0, rr G 5 q 0)]) (by decide) rfl (Nat.le_of_ble_eq_true rfl) rfl ?_
  refine ev_aload_n (j := 0) dX7_span_0 rfl rfl ?_
  refine ev_get frX7_18 dX7_span_1 (dom5 hq0 hq1 (by decide) (by decide)) en5_0 rfl ?_
  obtain ⟨s1, h2⟩ := h
  obtain ⟨h3, h4⟩ := h2
  refine ev_if_ne 11 dX7_span_4 (by decide) s1 (fun c5 => ?_) (fun c5 => ?_)
  · have h6 := h3 c5
    refine ev_aload_n (j := 0) dX7_span_11 rfl rfl ?_
    refine ev_get frX7_9 dX7_span_12 (dom5 hq0 hq1 (by decide) (by decide)) en5_0 rfl ?_
    refine ev_aload_n (j := 0) dX7_span_15 rfl rfl ?_
    refine ev_get frX7_18 dX7_span_16 (dom5 hq0 hq1 (by decide) (by decide)) en5_0 rfl ?_
    refine ev_iconst dX7_span_19 ?_
    refine ev_isub dX7_span_20 ?_
    obtain ⟨s7, s8, h9⟩ := h6
    refine ev_iald dX7_span_21 (dom5 hq0 hq1 (by decide) (by decide)) ar5_1 (by decide) s7 s8 ?_
    refine ev_aload_n (j := 0) dX7_span_22 rfl rfl ?_
    refine ev_get frX7_9 dX7_span_23 (dom5 hq0 hq1 (by decide) (by decide)) en5_0 rfl ?_
    refine ev_iconst dX7_span_26 ?_
    refine ev_iald dX7_span_27 (dom5 hq0 hq1 (by decide) (by decide)) ar5_1 (by decide) (by decide) (by decide) ?_
    refine ev_isub dX7_span_28 ?_
    exact ev_iret dX7_span_29 (by decide) rfl h9
  · have h10 := h4 c5
    refine ev_iconst dX7_span_7 ?_
    refine ev_goto 29 dX7_span_8 (by decide) ?_
    exact ev_iret dX7_span_29 (by decide) rfl h10
def eX8_activeCount (G : GT) (K : List Value → Mem → Prop) (X : String → Mem → Prop) (pc : Nat) (lv : List (Nat × Value)) (st : List Value) (M : Mem) : Prop := Ex G zX8_activeCount 0 0 K X 0 pc lv st M
set_option maxRecDepth 20000 in
set_option maxHeartbeats 4000000 in
theorem bX8_activeCount {G : GT} {K : List Value → Mem → Prop} {X : String → Mem → Prop} {M : Mem} {i : Int} (hi0 : 0 ≤ i) (hi1 : i < 12) (h : eX8_activeCount G K X 4 [(0, rr G 1 i 6), (1, iv 0), (2, iv 0)] [] M) : Call G 0 0 zX8_activeCount [rr G 1 i 6] M K X := by
  refine call_intro (lv := [(0, rr G 1 i 6)]) (by decide) rfl (Nat.le_of_ble_eq_true rfl) rfl ?_
  refine ev_iconst dX8_activeCount_0 ?_
  refine ev_istore_n dX8_activeCount_1 rfl (by decide) rfl ?_
  refine ev_iconst dX8_activeCount_2 ?_
  refine ev_istore_n dX8_activeCount_3 rfl (by decide) rfl ?_
  exact ev_sub [2, 1, 0] rfl h
set_option maxRecDepth 20000 in
set_option maxHeartbeats 4000000 in
theorem bX8_activeCount_4 {G : GT} {K : List Value → Mem → Prop} {X : String → Mem → Prop} {M : Mem} {i : Int} (hi0 : 0 ≤ i) (hi1 : i < 12) {v1 v2 : Int} (h : I32 v2 ∧ I32 (M 1 i 6 4) ∧ ((¬ v2 < (M 1 i 6 4) → K [iv v1] M) ∧ (v2 < (M 1 i 6 4) → 0 ≤ v2 ∧ v2 < 30 ∧ I32 (M 1 i 10 v2) ∧ ((¬ (M 1 i 10 v2) = 0 → eX8_activeCount G K X 4 [(0, rr G 1 i 6), (1, iv v1), (2, iv (v2 + 1))] [] M) ∧ ((M 1 i 10 v2) = 0 → eX8_activeCount G K X 4 [(0, rr G 1 i 6), (1, iv (v1 + 1)), (2, iv (v2 + 1))] [] M))))) : eX8_activeCount G K X 4 [(0, rr G 1 i 6), (1, iv v1), (2, iv v2)] [] M := by
  show Ex G zX8_activeCount 0 0 K X 0 4 [(0, rr G 1 i 6), (1, iv v1), (2, iv v2)] [] M
  refine ev_iload_n (j := 2) dX8_activeCount_4 rfl rfl ?_
  refine ev_aload_n (j := 0) dX8_activeCount_5 rfl rfl ?_
  refine ev_get frX8_31 dX8_activeCount_6 (dom1 hi0 hi1 (by decide) (by decide)) en1_6 rfl ?_
  obtain ⟨s1, s2, h3⟩ := h
  obtain ⟨h4, h5⟩ := h3
  refine ev_icmp_ge 30 dX8_activeCount_9 (by decide) s1 s2 (fun c6 => ?_) (fun c6 => ?_)
  · have h7 := h4 c6
    refine ev_iload_n (j := 1) dX8_activeCount_30 rfl rfl ?_
    exact ev_iret dX8_activeCount_31 (by decide) rfl h7
  · have h8 := h5 c6
    refine ev_aload_n (j := 0) dX8_activeCount_12 rfl rfl ?_
    refine ev_get frX8_21 dX8_activeCount_13 (dom1 hi0 hi1 (by decide) (by decide)) en1_6 rfl ?_
    refine ev_iload_n (j := 2) dX8_activeCount_16 rfl rfl ?_
    obtain ⟨s9, s10, h11⟩ := h8
    refine ev_zald dX8_activeCount_17 (dom1 hi0 hi1 (by decide) (by decide)) ar1_10 (by decide) s9 s10 ?_
    obtain ⟨s12, h13⟩ := h11
    obtain ⟨h14, h15⟩ := h13
    refine ev_if_ne 24 dX8_activeCount_18 (by decide) s12 (fun c16 => ?_) (fun c16 => ?_)
    · have h17 := h14 c16
      refine ev_iinc (j := 2) dX8_activeCount_24 rfl (by decide) rfl ?_
      refine ev_goto 4 dX8_activeCount_27 (by decide) ?_
      exact ev_sub [1, 2, 0] rfl h17
    · have h18 := h15 c16
      refine ev_iinc (j := 1) dX8_activeCount_21 rfl (by decide) rfl ?_
      refine ev_iinc (j := 2) dX8_activeCount_24 rfl (by decide) rfl ?_
      refine ev_goto 4 dX8_activeCount_27 (by decide) ?_
      exact ev_sub [2, 1, 0] rfl h18
def eX8_addActive (G : GT) (K : List Value → Mem → Prop) (X : String → Mem → Prop) (pc : Nat) (lv : List (Nat × Value)) (st : List Value) (M : Mem) : Prop := Ex G zX8_addActive 0 0 K X 0 pc lv st M
set_option maxRecDepth 20000 in
set_option maxHeartbeats 4000000 in
theorem bX8_addActive {G : GT} {K : List Value → Mem → Prop} {X : String → Mem → Prop} {M : Mem} {i : Int} (hi0 : 0 ≤ i) (hi1 : i < 12) {v1 v2 v3 : Int} (h : I32 (M 1 i 6 4) ∧ (((M 1 i 6 4) < 30 → 0 ≤ M 1 i 6 4 ∧ M 1 i 6 4 < 30 ∧ ∀ M10 : Mem, M10 = wr (wr (wr M 1 i 7 (M 1 i 6 4) v1) 1 i 8 (M 1 i 6 4) v2) 1 i 9 (M 1 i 6 4) v3 → 0 ≤ M10 1 i 6 4 ∧ M10 1 i 6 4 < 30 ∧ ∀ M16 : Mem, M16 = wr (wr M10 1 i 10 (M10 1 i 6 4) 0) 1 i 6 4 ((M10 1 i 6 4) + 1) → K [iv ((M16 1 i 6 4) - 1)] M16) ∧ (¬ (M 1 i 6 4) < 30 → K [iv (-1)] M))) : Call G 0 0 zX8_addActive [rr G 1 i 6, iv v1, iv v2, iv v3] M K X := by
  refine call_intro (lv := [(0, rr G 1 i 6), (1, iv v1), (2, iv v2), (3, iv v3)]) (by decide) rfl (Nat.le_of_ble_eq_true rfl) rfl ?_
  refine ev_aload_n (j := 0) dX8_addActive_0 rfl rfl ?_
  refine ev_get frX8_31 dX8_addActive_1 (dom1 hi0 hi1 (by decide) (by decide)) en1_6 rfl ?_
  refine ev_bipush dX8_addActive_4 (by decide) ?_
  obtain ⟨s1, h2⟩ := h
  obtain ⟨h3, h4⟩ := h2
  refine ev_icmp_lt 11 dX8_addActive_6 (by decide) s1 ⟨by decide, by decide⟩ (fun c5 => ?_) (fun c5 => ?_)
  · have h6 := h3 c5
    refine ev_aload_n (j := 0) dX8_addActive_11 rfl rfl ?_
    refine ev_get frX8_9 dX8_addActive_12 (dom1 hi0 hi1 (by decide) (by decide)) en1_6 rfl ?_
    refine ev_aload_n (j := 0) dX8_addActive_15 rfl rfl ?_
    refine ev_get frX8_31 dX8_addActive_16 (dom1 hi0 hi1 (by decide) (by decide)) en1_6 rfl ?_
    refine ev_iload_n (j := 1) dX8_addActive_19 rfl rfl ?_
    obtain ⟨s7, s8, h9⟩ := h6
    refine ev_iast dX8_addActive_20 (dom1 hi0 hi1 (by decide) (by decide)) ar1_7 (by decide) s7 s8 ?_
    refine ev_aload_n (j := 0) dX8_addActive_21 rfl rfl ?_
    refine ev_get frX8_15 dX8_addActive_22 (dom1 hi0 hi1 (by decide) (by decide)) en1_6 rfl ?_
    refine ev_aload_n (j := 0) dX8_addActive_25 rfl rfl ?_
    refine ev_get frX8_31 dX8_addActive_26 (dom1 hi0 hi1 (by decide) (by decide)) en1_6 rfl ?_
    refine ev_topI (b := M 1 i 6 4) rfl ?_
    refine ev_iload_n (j := 2) dX8_addActive_29 rfl rfl ?_
    refine ev_iast dX8_addActive_30 (dom1 hi0 hi1 (by decide) (by decide)) ar1_8 (by decide) s7 s8 ?_
    refine ev_aload_n (j := 0) dX8_addActive_31 rfl rfl ?_
    refine ev_get frX8_18 dX8_addActive_32 (dom1 hi0 hi1 (by decide) (by decide)) en1_6 rfl ?_
    refine ev_aload_n (j := 0) dX8_addActive_35 rfl rfl ?_
    refine ev_get frX8_31 dX8_addActive_36 (dom1 hi0 hi1 (by decide) (by decide)) en1_6 rfl ?_
    refine ev_topI (b := M 1 i 6 4) rfl ?_
    refine ev_iload_n (j := 3) dX8_addActive_39 rfl rfl ?_
    refine ev_iast dX8_addActive_40 (dom1 hi0 hi1 (by decide) (by decide)) ar1_9 (by decide) s7 s8 ?_
    obtain ⟨M10, e12⟩ : ∃ M10 : Mem, M10 = wr (wr (wr M 1 i 7 (M 1 i 6 4) v1) 1 i 8 (M 1 i 6 4) v2) 1 i 9 (M 1 i 6 4) v3 := ⟨_, rfl⟩
    have h11 := h9 _ e12
    refine ev_mem e12 ?_
    refine ev_aload_n (j := 0) dX8_addActive_41 rfl rfl ?_
    refine ev_get frX8_21 dX8_addActive_42 (dom1 hi0 hi1 (by decide) (by decide)) en1_6 rfl ?_
    refine ev_aload_n (j := 0) dX8_addActive_45 rfl rfl ?_
    refine ev_get frX8_31 dX8_addActive_46 (dom1 hi0 hi1 (by decide) (by decide)) en1_6 rfl ?_
    refine ev_iconst dX8_addActive_49 ?_
    obtain ⟨s13, s14, h15⟩ := h11
    refine ev_zast dX8_addActive_50 (dom1 hi0 hi1 (by decide) (by decide)) ar1_10 (by decide) s13 s14 (by decide) ?_
    refine ev_aload_n (j := 0) dX8_addActive_51 rfl rfl ?_
    refine ev_dup dX8_addActive_52 rfl ?_
    refine ev_get frX8_31 dX8_addActive_53 (dom1 hi0 hi1 (by decide) (by decide)) en1_6 rfl ?_
    refine ev_topI (b := M10 1 i 6 4) rfl ?_
    refine ev_iconst dX8_addActive_56 ?_
    refine ev_iadd dX8_addActive_57 ?_
    refine ev_put fwX8_31 dX8_addActive_58 (dom1 hi0 hi1 (by decide) (by decide)) en1_6 rfl rfl rfl (Nat.le_of_ble_eq_true rfl) ?_
    obtain ⟨M16, e18⟩ : ∃ M16 : Mem, M16 = wr (wr M10 1 i 10 (M10 1 i 6 4) 0) 1 i 6 4 ((M10 1 i 6 4) + 1) := ⟨_, rfl⟩
    have h17 := h15 _ e18
    refine ev_mem e18 ?_
    refine ev_aload_n (j := 0) dX8_addActive_61 rfl rfl ?_
    refine ev_get frX8_31 dX8_addActive_62 (dom1 hi0 hi1 (by decide) (by decide)) en1_6 rfl ?_
    refine ev_iconst dX8_addActive_65 ?_
    refine ev_isub dX8_addActive_66 ?_
    exact ev_iret dX8_addActive_67 (by decide) rfl h17
  · have h19 := h4 c5
    refine ev_iconst dX8_addActive_9 ?_
    exact ev_iret dX8_addActive_10 (by decide) rfl h19
def eX8_copyFrom (G : GT) (K : List Value → Mem → Prop) (X : String → Mem → Prop) (pc : Nat) (lv : List (Nat × Value)) (st : List Value) (M : Mem) : Prop := Ex G zX8_copyFrom 1 0 K X 0 pc lv st M
set_option maxRecDepth 20000 in
set_option maxHeartbeats 4000000 in
theorem bX8_copyFrom {G : GT} {K : List Value → Mem → Prop} {X : String → Mem → Prop} {M : Mem} {i : Int} (hi0 : 0 ≤ i) (hi1 : i < 12) {j : Int} (hj0 : 0 ≤ j) (hj1 : j < 12) (h : ∀ M1 : Mem, M1 = wrow M 1 i 7 (cpy (M 1 j 7) (M 1 i 7) 0 0 30) → ∀ M4 : Mem, M4 = wrow M1 1 i 8 (cpy (M1 1 j 8) (M1 1 i 8) 0 0 30) → ∀ M7 : Mem, M7 = wrow M4 1 i 9 (cpy (M4 1 j 9) (M4 1 i 9) 0 0 30) → eX8_copyFrom G K X 47 [(0, rr G 1 i 6), (1, rr G 1 j 6), (2, iv 0)] [] M7) : Call G 1 0 zX8_copyFrom [rr G 1 i 6, rr G 1 j 6] M K X := by
  refine call_intro (lv := [(0, rr G 1 i 6), (1, rr G 1 j 6)]) (by decide) rfl (Nat.le_of_ble_eq_true rfl) rfl ?_
  refine ev_aload_n (j := 1) dX8_copyFrom_0 rfl rfl ?_
  refine ev_get frX8_9 dX8_copyFrom_1 (dom1 hj0 hj1 (by decide) (by decide)) en1_6 rfl ?_
  refine ev_iconst dX8_copyFrom_4 ?_
  refine ev_aload_n (j := 0) dX8_copyFrom_5 rfl rfl ?_
  refine ev_get frX8_9 dX8_copyFrom_6 (dom1 hi0 hi1 (by decide) (by decide)) en1_6 rfl ?_
  refine ev_iconst dX8_copyFrom_9 ?_
  refine ev_bipush dX8_copyFrom_10 (by decide) ?_
  refine ev_copy mlX8_25 wc_nat wc_st wc_in dX8_copyFrom_12 (by decide) (Nat.le_of_ble_eq_true rfl) (dom1 hj0 hj1 (by decide) (by decide)) (dom1 hi0 hi1 (by decide) (by decide)) ar1_7 ar1_7 (by decide) (by decide) (by decide) (by decide) (by decide) (by decide) (by decide) ?_
  obtain ⟨M1, e3⟩ : ∃ M1 : Mem, M1 = wrow M 1 i 7 (cpy (M 1 j 7) (M 1 i 7) 0 0 30) := ⟨_, rfl⟩
  have h2 := h _ e3
  refine ev_mem e3 ?_
  refine ev_aload_n (j := 1) dX8_copyFrom_15 rfl rfl ?_
  refine ev_get frX8_15 dX8_copyFrom_16 (dom1 hj0 hj1 (by decide) (by decide)) en1_6 rfl ?_
  refine ev_iconst dX8_copyFrom_19 ?_
  refine ev_aload_n (j := 0) dX8_copyFrom_20 rfl rfl ?_
  refine ev_get frX8_15 dX8_copyFrom_21 (dom1 hi0 hi1 (by decide) (by decide)) en1_6 rfl ?_
  refine ev_iconst dX8_copyFrom_24 ?_
  refine ev_bipush dX8_copyFrom_25 (by decide) ?_
  refine ev_copy mlX8_25 wc_nat wc_st wc_in dX8_copyFrom_27 (by decide) (Nat.le_of_ble_eq_true rfl) (dom1 hj0 hj1 (by decide) (by decide)) (dom1 hi0 hi1 (by decide) (by decide)) ar1_8 ar1_8 (by decide) (by decide) (by decide) (by decide) (by decide) (by decide) (by decide) ?_
  obtain ⟨M4, e6⟩ : ∃ M4 : Mem, M4 = wrow M1 1 i 8 (cpy (M1 1 j 8) (M1 1 i 8) 0 0 30) := ⟨_, rfl⟩
  have h5 := h2 _ e6
  refine ev_mem e6 ?_
  refine ev_aload_n (j := 1) dX8_copyFrom_30 rfl rfl ?_
  refine ev_get frX8_18 dX8_copyFrom_31 (dom1 hj0 hj1 (by decide) (by decide)) en1_6 rfl ?_
  refine ev_iconst dX8_copyFrom_34 ?_
  refine ev_aload_n (j := 0) dX8_copyFrom_35 rfl rfl ?_
  refine ev_get frX8_18 dX8_copyFrom_36 (dom1 hi0 hi1 (by decide) (by decide)) en1_6 rfl ?_
  refine ev_iconst dX8_copyFrom_39 ?_
  refine ev_bipush dX8_copyFrom_40 (by decide) ?_
  refine ev_copy mlX8_25 wc_nat wc_st wc_in dX8_copyFrom_42 (by decide) (Nat.le_of_ble_eq_true rfl) (dom1 hj0 hj1 (by decide) (by decide)) (dom1 hi0 hi1 (by decide) (by decide)) ar1_9 ar1_9 (by decide) (by decide) (by decide) (by decide) (by decide) (by decide) (by decide) ?_
  obtain ⟨M7, e9⟩ : ∃ M7 : Mem, M7 = wrow M4 1 i 9 (cpy (M4 1 j 9) (M4 1 i 9) 0 0 30) := ⟨_, rfl⟩
  have h8 := h5 _ e9
  refine ev_mem e9 ?_
  refine ev_iconst dX8_copyFrom_45 ?_
  refine ev_istore_n dX8_copyFrom_46 rfl (by decide) rfl ?_
  exact ev_sub [1, 2, 0] rfl h8
set_option maxRecDepth 20000 in
set_option maxHeartbeats 4000000 in
theorem bX8_copyFrom_47 {G : GT} {K : List Value → Mem → Prop} {X : String → Mem → Prop} {M : Mem} {i : Int} (hi0 : 0 ≤ i) (hi1 : i < 12) {j : Int} (hj0 : 0 ≤ j) (hj1 : j < 12) {v2 : Int} (h : I32 v2 ∧ ((¬ v2 < 30 → K [] (wr M 1 i 6 4 (M 1 j 6 4))) ∧ (v2 < 30 → 0 ≤ v2 ∧ vp_nar .boolean (J (M 1 j 10 v2)) = J (M 1 j 10 v2) ∧ eX8_copyFrom G K X 47 [(0, rr G 1 i 6), (1, rr G 1 j 6), (2, iv (v2 + 1))] [] (wr M 1 i 10 v2 (M 1 j 10 v2))))) : eX8_copyFrom G K X 47 [(0, rr G 1 i 6), (1, rr G 1 j 6), (2, iv v2)] [] M := by
  show Ex G zX8_copyFrom 1 0 K X 0 47 [(0, rr G 1 i 6), (1, rr G 1 j 6), (2, iv v2)] [] M
  refine ev_iload_n (j := 2) dX8_copyFrom_47 rfl rfl ?_
  refine ev_bipush dX8_copyFrom_48 (by decide) ?_
  obtain ⟨s1, h2⟩ := h
  obtain ⟨h3, h4⟩ := h2
  refine ev_icmp_ge 71 dX8_copyFrom_50 (by decide) s1 ⟨by decide, by decide⟩ (fun c5 => ?_) (fun c5 => ?_)
  · have h6 := h3 c5
    refine ev_aload_n (j := 0) dX8_copyFrom_71 rfl rfl ?_
    refine ev_aload_n (j := 1) dX8_copyFrom_72 rfl rfl ?_
    refine ev_get frX8_31 dX8_copyFrom_73 (dom1 hj0 hj1 (by decide) (by decide)) en1_6 rfl ?_
    refine ev_put fwX8_31 dX8_copyFrom_76 (dom1 hi0 hi1 (by decide) (by decide)) en1_6 rfl rfl rfl (Nat.le_of_ble_eq_true rfl) ?_
    exact ev_vret dX8_copyFrom_79 (by decide) rfl h6
  · have h7 := h4 c5
    refine ev_aload_n (j := 0) dX8_copyFrom_53 rfl rfl ?_
    refine ev_get frX8_21 dX8_copyFrom_54 (dom1 hi0 hi1 (by decide) (by decide)) en1_6 rfl ?_
    refine ev_iload_n (j := 2) dX8_copyFrom_57 rfl rfl ?_
    refine ev_aload_n (j := 1) dX8_copyFrom_58 rfl rfl ?_
    refine ev_get frX8_21 dX8_copyFrom_59 (dom1 hj0 hj1 (by decide) (by decide)) en1_6 rfl ?_
    refine ev_iload_n (j := 2) dX8_copyFrom_62 rfl rfl ?_
    obtain ⟨s8, h9⟩ := h7
    refine ev_zald dX8_copyFrom_63 (dom1 hj0 hj1 (by decide) (by decide)) ar1_10 (by decide) s8 c5 ?_
    obtain ⟨s10, h11⟩ := h9
    refine ev_zast dX8_copyFrom_64 (dom1 hi0 hi1 (by decide) (by decide)) ar1_10 (by decide) s8 c5 s10 ?_
    refine ev_iinc (j := 2) dX8_copyFrom_65 rfl (by decide) rfl ?_
    refine ev_goto 47 dX8_copyFrom_68 (by decide) ?_
    exact ev_sub [1, 2, 0] rfl h11
def eX8_directionOf (G : GT) (K : List Value → Mem → Prop) (X : String → Mem → Prop) (pc : Nat) (lv : List (Nat × Value)) (st : List Value) (M : Mem) : Prop := Ex G zX8_directionOf 0 0 K X 0 pc lv st M
set_option maxRecDepth 20000 in
set_option maxHeartbeats 4000000 in
theorem bX8_directionOf {G : GT} {K : List Value → Mem → Prop} {X : String → Mem → Prop} {M : Mem} {i : Int} (hi0 : 0 ≤ i) (hi1 : i < 12) {v1 : Int} (h : 0 ≤ v1 ∧ v1 < 30 ∧ I32 (M 1 i 7 v1) ∧ I32 (M 1 i 8 v1) ∧ ((¬ (M 1 i 7 v1) < (M 1 i 8 v1) → K [iv 1] M) ∧ ((M 1 i 7 v1) < (M 1 i 8 v1) → K [iv 0] M))) : Call G 0 0 zX8_directionOf [rr G 1 i 6, iv v1] M K X := by
  refine call_intro (lv := [(0, rr G 1 i 6), (1, iv v1)]) (by decide) rfl (Nat.le_of_ble_eq_true rfl) rfl ?_
  refine ev_aload_n (j := 0) dX8_directionOf_0 rfl rfl ?_
  refine ev_get frX8_9 dX8_directionOf_1 (dom1 hi0 hi1 (by decide) (by decide)) en1_6 rfl ?_
  refine ev_iload_n (j := 1) dX8_directionOf_4 rfl rfl ?_
  obtain ⟨s1, s2, h3⟩ := h
  refine ev_iald dX8_directionOf_5 (dom1 hi0 hi1 (by decide) (by decide)) ar1_7 (by decide) s1 s2 ?_
  refine ev_aload_n (j := 0) dX8_directionOf_6 rfl rfl ?_
  refine ev_get frX8_15 dX8_directionOf_7 (dom1 hi0 hi1 (by decide) (by decide)) en1_6 rfl ?_
  refine ev_iload_n (j := 1) dX8_directionOf_10 rfl rfl ?_
  refine ev_iald dX8_directionOf_11 (dom1 hi0 hi1 (by decide) (by decide)) ar1_8 (by decide) s1 s2 ?_
  obtain ⟨s4, s5, h6⟩ := h3
  obtain ⟨h7, h8⟩ := h6
  refine ev_icmp_ge 19 dX8_directionOf_12 (by decide) s4 s5 (fun c9 => ?_) (fun c9 => ?_)
  · have h10 := h7 c9
    refine ev_iconst dX8_directionOf_19 ?_
    exact ev_iret dX8_directionOf_20 (by decide) rfl h10
  · have h11 := h8 c9
    refine ev_iconst dX8_directionOf_15 ?_
    refine ev_goto 20 dX8_directionOf_16 (by decide) ?_
    exact ev_iret dX8_directionOf_20 (by decide) rfl h11
def eX8_isBetweenEnds (G : GT) (K : List Value → Mem → Prop) (X : String → Mem → Prop) (pc : Nat) (lv : List (Nat × Value)) (st : List Value) (M : Mem) : Prop := Ex G zX8_isBetweenEnds 2 0 K X 0 pc lv st M
set_option maxRecDepth 20000 in
set_option maxHeartbeats 4000000 in
theorem bX8_isBetweenEnds {G : GT} {K : List Value → Mem → Prop} {X : String → Mem → Prop} {M : Mem} {i : Int} (hi0 : 0 ≤ i) (hi1 : i < 12) {v1 v2 : Int} (h : Call G 1 0 zX8_isOnWay [rr G 1 i 6, iv v1, iv v2] M (kI (fun x3 M1 => I32 x3 ∧ ((x3 = 0 → K [iv 0] M1) ∧ (¬ x3 = 0 → 0 ≤ v1 ∧ v1 < 30 ∧ I32 v2 ∧ I32 (M1 1 i 7 v1) ∧ ((v2 = (M1 1 i 7 v1) → K [iv 0] M1) ∧ (¬ v2 = (M1 1 i 7 v1) → I32 (M1 1 i 8 v1) ∧ ((v2 = (M1 1 i 8 v1) → K [iv 0] M1) ∧ (¬ v2 = (M1 1 i 8 v1) → K [iv 1] M1)))))))) noX) : Call G 2 0 zX8_isBetweenEnds [rr G 1 i 6, iv v1, iv v2] M K X := by
  refine call_intro (lv := [(0, rr G 1 i 6), (1, iv v1), (2, iv v2)]) (by decide) rfl (Nat.le_of_ble_eq_true rfl) rfl ?_
  refine ev_aload_n (j := 0) dX8_isBetweenEnds_0 rfl rfl ?_
  refine ev_iload_n (j := 1) dX8_isBetweenEnds_1 rfl rfl ?_
  refine ev_iload_n (j := 2) dX8_isBetweenEnds_2 rfl rfl ?_
  refine ev_callVI (As := [iv v1, iv v2]) (st := []) mfX8_isOnWay mlX8_48 dX8_isBetweenEnds_3 rfl (dom1 hi0 hi1 (by decide) (by decide)) en1_6 rfl rfl rfl (by decide) (by decide) (by decide) (Nat.le_of_ble_eq_true rfl) (fun _ _ z => z.elim) h (fun x3 M1 h2 => ?_)
  obtain ⟨s4, h5⟩ := h2
  obtain ⟨h6, h7⟩ := h5
  refine ev_if_eq 33 dX8_isBetweenEnds_6 (by decide) s4 (fun c8 => ?_) (fun c8 => ?_)
  · have h9 := h6 c8
    refine ev_iconst dX8_isBetweenEnds_33 ?_
    exact ev_zret dX8_isBetweenEnds_34 (by decide) rfl (by decide) h9
  · have h10 := h7 c8
    refine ev_iload_n (j := 2) dX8_isBetweenEnds_9 rfl rfl ?_
    refine ev_aload_n (j := 0) dX8_isBetweenEnds_10 rfl rfl ?_
    refine ev_get frX8_9 dX8_isBetweenEnds_11 (dom1 hi0 hi1 (by decide) (by decide)) en1_6 rfl ?_
    refine ev_iload_n (j := 1) dX8_isBetweenEnds_14 rfl rfl ?_
    obtain ⟨s11, s12, h13⟩ := h10
    refine ev_iald dX8_isBetweenEnds_15 (dom1 hi0 hi1 (by decide) (by decide)) ar1_7 (by decide) s11 s12 ?_
    obtain ⟨s14, s15, h16⟩ := h13
    obtain ⟨h17, h18⟩ := h16
    refine ev_icmp_eq 33 dX8_isBetweenEnds_16 (by decide) s14 s15 (fun c19 => ?_) (fun c19 => ?_)
    · have h20 := h17 c19
      refine ev_iconst dX8_isBetweenEnds_33 ?_
      exact ev_zret dX8_isBetweenEnds_34 (by decide) rfl (by decide) h20
    · have h21 := h18 c19
      refine ev_iload_n (j := 2) dX8_isBetweenEnds_19 rfl rfl ?_
      refine ev_aload_n (j := 0) dX8_isBetweenEnds_20 rfl rfl ?_
      refine ev_get frX8_15 dX8_isBetweenEnds_21 (dom1 hi0 hi1 (by decide) (by decide)) en1_6 rfl ?_
      refine ev_iload_n (j := 1) dX8_isBetweenEnds_24 rfl rfl ?_
      refine ev_iald dX8_isBetweenEnds_25 (dom1 hi0 hi1 (by decide) (by decide)) ar1_8 (by decide) s11 s12 ?_
      obtain ⟨s22, h23⟩ := h21
      obtain ⟨h24, h25⟩ := h23
      refine ev_icmp_eq 33 dX8_isBetweenEnds_26 (by decide) s14 s22 (fun c26 => ?_) (fun c26 => ?_)
      · have h27 := h24 c26
        refine ev_iconst dX8_isBetweenEnds_33 ?_
        exact ev_zret dX8_isBetweenEnds_34 (by decide) rfl (by decide) h27
      · have h28 := h25 c26
        refine ev_iconst dX8_isBetweenEnds_29 ?_
        refine ev_goto 34 dX8_isBetweenEnds_30 (by decide) ?_
        exact ev_zret dX8_isBetweenEnds_34 (by decide) rfl (by decide) h28
def eX8_isEndOfActive (G : GT) (K : List Value → Mem → Prop) (X : String → Mem → Prop) (pc : Nat) (lv : List (Nat × Value)) (st : List Value) (M : Mem) : Prop := Ex G zX8_isEndOfActive 0 0 K X 0 pc lv st M
set_option maxRecDepth 20000 in
set_option maxHeartbeats 4000000 in
theorem bX8_isEndOfActive {G : GT} {K : List Value → Mem → Prop} {X : String → Mem → Prop} {M : Mem} {i : Int} (hi0 : 0 ≤ i) (hi1 : i < 12) {v1 : Int} (h : eX8_isEndOfActive G K X 2 [(0, rr G 1 i 6), (1, iv v1), (2, iv 0)] [] M) : Call G 0 0 zX8_isEndOfActive [rr G 1 i 6, iv v1] M K X := by
  refine call_intro (lv := [(0, rr G 1 i 6), (1, iv v1)]) (by decide) rfl (Nat.le_of_ble_eq_true rfl) rfl ?_
  refine ev_iconst dX8_isEndOfActive_0 ?_
  refine ev_istore_n dX8_isEndOfActive_1 rfl (by decide) rfl ?_
  exact ev_sub [1, 2, 0] rfl h
set_option maxRecDepth 20000 in
set_option maxHeartbeats 4000000 in
theorem bX8_isEndOfActive_2 {G : GT} {K : List Value → Mem → Prop} {X : String → Mem → Prop} {M : Mem} {i : Int} (hi0 : 0 ≤ i) (hi1 : i < 12) {v1 v2 : Int} (h : I32 v2 ∧ I32 (M 1 i 6 4) ∧ ((¬ v2 < (M 1 i 6 4) → K [iv 0] M) ∧ (v2 < (M 1 i 6 4) → 0 ≤ v2 ∧ v2 < 30 ∧ I32 (M 1 i 10 v2) ∧ ((¬ (M 1 i 10 v2) = 0 → eX8_isEndOfActive G K X 2 [(0, rr G 1 i 6), (1, iv v1), (2, iv (v2 + 1))] [] M) ∧ ((M 1 i 10 v2) = 0 → I32 (M 1 i 7 v2) ∧ I32 v1 ∧ (((M 1 i 7 v2) = v1 → K [iv 1] M) ∧ (¬ (M 1 i 7 v2) = v1 → I32 (M 1 i 8 v2) ∧ ((¬ (M 1 i 8 v2) = v1 → eX8_isEndOfActive G K X 2 [(0, rr G 1 i 6), (1, iv v1), (2, iv (v2 + 1))] [] M) ∧ ((M 1 i 8 v2) = v1 → K [iv 1] M))))))))) : eX8_isEndOfActive G K X 2 [(0, rr G 1 i 6), (1, iv v1), (2, iv v2)] [] M := by
  show Ex G zX8_isEndOfActive 0 0 K X 0 2 [(0, rr G 1 i 6), (1, iv v1), (2, iv v2)] [] M
  refine ev_iload_n (j := 2) dX8_isEndOfActive_2 rfl rfl ?_
  refine ev_aload_n (j := 0) dX8_isEndOfActive_3 rfl rfl ?_
  refine ev_get frX8_31 dX8_isEndOfActive_4 (dom1 hi0 hi1 (by decide) (by decide)) en1_6 rfl ?_
  obtain ⟨s1, s2, h3⟩ := h
  obtain ⟨h4, h5⟩ := h3
  refine ev_icmp_ge 47 dX8_isEndOfActive_7 (by decide) s1 s2 (fun c6 => ?_) (fun c6 => ?_)
  · have h7 := h4 c6
    refine ev_iconst dX8_isEndOfActive_47 ?_
    exact ev_zret dX8_isEndOfActive_48 (by decide) rfl (by decide) h7
  · have h8 := h5 c6
    refine ev_aload_n (j := 0) dX8_isEndOfActive_10 rfl rfl ?_
    refine ev_get frX8_21 dX8_isEndOfActive_11 (dom1 hi0 hi1 (by decide) (by decide)) en1_6 rfl ?_
    refine ev_iload_n (j := 2) dX8_isEndOfActive_14 rfl rfl ?_
    obtain ⟨s9, s10, h11⟩ := h8
    refine ev_zald dX8_isEndOfActive_15 (dom1 hi0 hi1 (by decide) (by decide)) ar1_10 (by decide) s9 s10 ?_
    obtain ⟨s12, h13⟩ := h11
    obtain ⟨h14, h15⟩ := h13
    refine ev_if_ne 41 dX8_isEndOfActive_16 (by decide) s12 (fun c16 => ?_) (fun c16 => ?_)
    · have h17 := h14 c16
      refine ev_iinc (j := 2) dX8_isEndOfActive_41 rfl (by decide) rfl ?_
      refine ev_goto 2 dX8_isEndOfActive_44 (by decide) ?_
      exact ev_sub [1, 2, 0] rfl h17
    · have h18 := h15 c16
      refine ev_aload_n (j := 0) dX8_isEndOfActive_19 rfl rfl ?_
      refine ev_get frX8_9 dX8_isEndOfActive_20 (dom1 hi0 hi1 (by decide) (by decide)) en1_6 rfl ?_
      refine ev_iload_n (j := 2) dX8_isEndOfActive_23 rfl rfl ?_
      refine ev_iald dX8_isEndOfActive_24 (dom1 hi0 hi1 (by decide) (by decide)) ar1_7 (by decide) s9 s10 ?_
      refine ev_iload_n (j := 1) dX8_isEndOfActive_25 rfl rfl ?_
      obtain ⟨s19, s20, h21⟩ := h18
      obtain ⟨h22, h23⟩ := h21
      refine ev_icmp_eq 39 dX8_isEndOfActive_26 (by decide) s19 s20 (fun c24 => ?_) (fun c24 => ?_)
      · have h25 := h22 c24
        refine ev_iconst dX8_isEndOfActive_39 ?_
        exact ev_zret dX8_isEndOfActive_40 (by decide) rfl (by decide) h25
      · have h26 := h23 c24
        refine ev_aload_n (j := 0) dX8_isEndOfActive_29 rfl rfl ?_
        refine ev_get frX8_15 dX8_isEndOfActive_30 (dom1 hi0 hi1 (by decide) (by decide)) en1_6 rfl ?_
        refine ev_iload_n (j := 2) dX8_isEndOfActive_33 rfl rfl ?_
        refine ev_iald dX8_isEndOfActive_34 (dom1 hi0 hi1 (by decide) (by decide)) ar1_8 (by decide) s9 s10 ?_
        refine ev_iload_n (j := 1) dX8_isEndOfActive_35 rfl rfl ?_
        obtain ⟨s27, h28⟩ := h26
        obtain ⟨h29, h30⟩ := h28
        refine ev_icmp_ne 41 dX8_isEndOfActive_36 (by decide) s27 s20 (fun c31 => ?_) (fun c31 => ?_)
        · have h32 := h29 c31
          refine ev_iinc (j := 2) dX8_isEndOfActive_41 rfl (by decide) rfl ?_
          refine ev_goto 2 dX8_isEndOfActive_44 (by decide) ?_
          exact ev_sub [1, 2, 0] rfl h32
        · have h33 := h30 c31
          refine ev_iconst dX8_isEndOfActive_39 ?_
          exact ev_zret dX8_isEndOfActive_40 (by decide) rfl (by decide) h33
def eX8_isOnWay (G : GT) (K : List Value → Mem → Prop) (X : String → Mem → Prop) (pc : Nat) (lv : List (Nat × Value)) (st : List Value) (M : Mem) : Prop := Ex G zX8_isOnWay 1 0 K X 0 pc lv st M
set_option maxRecDepth 20000 in
set_option maxHeartbeats 4000000 in
theorem bX8_isOnWay {G : GT} {K : List Value → Mem → Prop} {X : String → Mem → Prop} {M : Mem} {i : Int} (hi0 : 0 ≤ i) (hi1 : i < 12) {v1 v2 : Int} (h : 0 ≤ v1 ∧ v1 < 30 ∧ I32 (M 1 i 7 v1) ∧ I32 (M 1 i 8 v1) ∧ Call G 0 0 zX11_isFromTo [iv v2, iv (min (M 1 i 7 v1) (M 1 i 8 v1)), iv (max (M 1 i 7 v1) (M 1 i 8 v1))] M (kI (fun x9 M7 => (x9 = 0 ∨ x9 = 1) ∧ K [iv x9] M7)) noX) : Call G 1 0 zX8_isOnWay [rr G 1 i 6, iv v1, iv v2] M K X := by
  refine call_intro (lv := [(0, rr G 1 i 6), (1, iv v1), (2, iv v2)]) (by decide) rfl (Nat.le_of_ble_eq_true rfl) rfl ?_
  refine ev_iload_n (j := 2) dX8_isOnWay_0 rfl rfl ?_
  refine ev_aload_n (j := 0) dX8_isOnWay_1 rfl rfl ?_
  refine ev_get frX8_9 dX8_isOnWay_2 (dom1 hi0 hi1 (by decide) (by decide)) en1_6 rfl ?_
  refine ev_iload_n (j := 1) dX8_isOnWay_5 rfl rfl ?_
  obtain ⟨s1, s2, h3⟩ := h
  refine ev_iald dX8_isOnWay_6 (dom1 hi0 hi1 (by decide) (by decide)) ar1_7 (by decide) s1 s2 ?_
  refine ev_aload_n (j := 0) dX8_isOnWay_7 rfl rfl ?_
  refine ev_get frX8_15 dX8_isOnWay_8 (dom1 hi0 hi1 (by decide) (by decide)) en1_6 rfl ?_
  refine ev_iload_n (j := 1) dX8_isOnWay_11 rfl rfl ?_
  refine ev_iald dX8_isOnWay_12 (dom1 hi0 hi1 (by decide) (by decide)) ar1_8 (by decide) s1 s2 ?_
  obtain ⟨s4, s5, h6⟩ := h3
  refine ev_min mlX8_35 wm_min_st wm_math wm_min_cd dX8_isOnWay_13 (by decide) (by decide) (Nat.le_of_ble_eq_true rfl) s4 s5 ?_
  refine ev_aload_n (j := 0) dX8_isOnWay_16 rfl rfl ?_
  refine ev_get frX8_9 dX8_isOnWay_17 (dom1 hi0 hi1 (by decide) (by decide)) en1_6 rfl ?_
  refine ev_iload_n (j := 1) dX8_isOnWay_20 rfl rfl ?_
  refine ev_iald dX8_isOnWay_21 (dom1 hi0 hi1 (by decide) (by decide)) ar1_7 (by decide) s1 s2 ?_
  refine ev_aload_n (j := 0) dX8_isOnWay_22 rfl rfl ?_
  refine ev_get frX8_15 dX8_isOnWay_23 (dom1 hi0 hi1 (by decide) (by decide)) en1_6 rfl ?_
  refine ev_iload_n (j := 1) dX8_isOnWay_26 rfl rfl ?_
  refine ev_iald dX8_isOnWay_27 (dom1 hi0 hi1 (by decide) (by decide)) ar1_8 (by decide) s1 s2 ?_
  refine ev_max mlX8_41 wm_max_st wm_math wm_max_cd dX8_isOnWay_28 (by decide) (by decide) (Nat.le_of_ble_eq_true rfl) s4 s5 ?_
  refine ev_callSNI "TramLines" (As := [iv v2, iv (min (M 1 i 7 v1) (M 1 i 8 v1)), iv (max (M 1 i 7 v1) (M 1 i 8 v1))]) (st := []) mfX11_isFromTo mlnX8_44 dX8_isOnWay_31 rfl rfl (by decide) (by decide) (by decide) (Nat.le_of_ble_eq_true rfl) h6 (fun x9 M7 h8 => ?_)
  obtain ⟨s10, h11⟩ := h8
  exact ev_zret dX8_isOnWay_34 (by decide) rfl s10 h11
def eX8_listActive (G : GT) (K : List Value → Mem → Prop) (X : String → Mem → Prop) (pc : Nat) (lv : List (Nat × Value)) (st : List Value) (M : Mem) : Prop := Ex G zX8_listActive 1 0 K X 0 pc lv st M
set_option maxRecDepth 20000 in
set_option maxHeartbeats 4000000 in
theorem bX8_listActive {G : GT} {K : List Value → Mem → Prop} {X : String → Mem → Prop} {M : Mem} {i : Int} (hi0 : 0 ≤ i) (hi1 : i < 12) {q : Int} (hq0 : 0 ≤ q) (hq1 : q < 3) (h : Call G 0 0 zX7_clear [rr G 5 q 0] M (kV (fun M1 => eX8_listActive G K X 6 [(0, rr G 1 i 6), (1, rr G 5 q 0), (2, iv 0)] [] M1)) noX) : Call G 1 0 zX8_listActive [rr G 1 i 6, rr G 5 q 0] M K X := by
  refine call_intro (lv := [(0, rr G 1 i 6), (1, rr G 5 q 0)]) (by decide) rfl (Nat.le_of_ble_eq_true rfl) rfl ?_
  refine ev_aload_n (j := 1) dX8_listActive_0 rfl rfl ?_
  refine ev_callVV (As := []) (st := []) mfX7_clear mlX8_52 dX8_listActive_1 rfl (dom5 hq0 hq1 (by decide) (by decide)) en5_0 rfl rfl rfl (by decide) (by decide) (by decide) (Nat.le_of_ble_eq_true rfl) (fun _ _ z => z.elim) h (fun M1 h2 => ?_)
  refine ev_iconst dX8_listActive_4 ?_
  refine ev_istore_n dX8_listActive_5 rfl (by decide) rfl ?_
  exact ev_sub [1, 2, 0] rfl h2
set_option maxRecDepth 20000 in
set_option maxHeartbeats 4000000 in
theorem bX8_listActive_6 {G : GT} {K : List Value → Mem → Prop} {X : String → Mem → Prop} {M : Mem} {i : Int} (hi0 : 0 ≤ i) (hi1 : i < 12) {q : Int} (hq0 : 0 ≤ q) (hq1 : q < 3) {v2 : Int} (h : I32 v2 ∧ I32 (M 1 i 6 4) ∧ ((¬ v2 < (M 1 i 6 4) → K [] M) ∧ (v2 < (M 1 i 6 4) → 0 ≤ v2 ∧ v2 < 30 ∧ I32 (M 1 i 10 v2) ∧ ((¬ (M 1 i 10 v2) = 0 → eX8_listActive G K X 6 [(0, rr G 1 i 6), (1, rr G 5 q 0), (2, iv (v2 + 1))] [] M) ∧ ((M 1 i 10 v2) = 0 → Call G 0 0 zX7_put [rr G 5 q 0, iv (M 1 i 9 v2), iv v2] M (kV (fun M19 => eX8_listActive G K X 6 [(0, rr G 1 i 6), (1, rr G 5 q 0), (2, iv (v2 + 1))] [] M19)) noX))))) : eX8_listActive G K X 6 [(0, rr G 1 i 6), (1, rr G 5 q 0), (2, iv v2)] [] M := by
  show Ex G zX8_listActive 1 0 K X 0 6 [(0, rr G 1 i 6), (1, rr G 5 q 0), (2, iv v2)] [] M
  refine ev_iload_n (j := 2) dX8_listActive_6 rfl rfl ?_
  refine ev_aload_n (j := 0) dX8_listActive_7 rfl rfl ?_
  refine ev_get frX8_31 dX8_listActive_8 (dom1 hi0 hi1 (by decide) (by decide)) en1_6 rfl ?_
  obtain ⟨s1, s2, h3⟩ := h
  obtain ⟨h4, h5⟩ := h3
  refine ev_icmp_ge 40 dX8_listActive_11 (by decide) s1 s2 (fun c6 => ?_) (fun c6 => ?_)
  · have h7 := h4 c6
    exact ev_vret dX8_listActive_40 (by decide) rfl h7
  · have h8 := h5 c6
    refine ev_aload_n (j := 0) dX8_listActive_14 rfl rfl ?_
    refine ev_get frX8_21 dX8_listActive_15 (dom1 hi0 hi1 (by decide) (by decide)) en1_6 rfl ?_
    refine ev_iload_n (j := 2) dX8_listActive_18 rfl rfl ?_
    obtain ⟨s9, s10, h11⟩ := h8
    refine ev_zald dX8_listActive_19 (dom1 hi0 hi1 (by decide) (by decide)) ar1_10 (by decide) s9 s10 ?_
    obtain ⟨s12, h13⟩ := h11
    obtain ⟨h14, h15⟩ := h13
    refine ev_if_ne 34 dX8_listActive_20 (by decide) s12 (fun c16 => ?_) (fun c16 => ?_)
    · have h17 := h14 c16
      refine ev_iinc (j := 2) dX8_listActive_34 rfl (by decide) rfl ?_
      refine ev_goto 6 dX8_listActive_37 (by decide) ?_
      exact ev_sub [1, 2, 0] rfl h17
    · have h18 := h15 c16
      refine ev_aload_n (j := 1) dX8_listActive_23 rfl rfl ?_
      refine ev_aload_n (j := 0) dX8_listActive_24 rfl rfl ?_
      refine ev_get frX8_18 dX8_listActive_25 (dom1 hi0 hi1 (by decide) (by decide)) en1_6 rfl ?_
      refine ev_iload_n (j := 2) dX8_listActive_28 rfl rfl ?_
      refine ev_iald dX8_listActive_29 (dom1 hi0 hi1 (by decide) (by decide)) ar1_9 (by decide) s9 s10 ?_
      refine ev_iload_n (j := 2) dX8_listActive_30 rfl rfl ?_
      refine ev_callVV (As := [iv (M 1 i 9 v2), iv v2]) (st := []) mfX7_put mlX8_57 dX8_listActive_31 rfl (dom5 hq0 hq1 (by decide) (by decide)) en5_0 rfl rfl rfl (by decide) (by decide) (by decide) (Nat.le_of_ble_eq_true rfl) (fun _ _ z => z.elim) h18 (fun M19 h20 => ?_)
      refine ev_iinc (j := 2) dX8_listActive_34 rfl (by decide) rfl ?_
      refine ev_goto 6 dX8_listActive_37 (by decide) ?_
      exact ev_sub [1, 2, 0] rfl h20
def eX9_copyFrom (G : GT) (K : List Value → Mem → Prop) (X : String → Mem → Prop) (pc : Nat) (lv : List (Nat × Value)) (st : List Value) (M : Mem) : Prop := Ex G zX9_copyFrom 1 0 K X 0 pc lv st M
set_option maxRecDepth 20000 in
set_option maxHeartbeats 4000000 in
theorem bX9_copyFrom {G : GT} {K : List Value → Mem → Prop} {X : String → Mem → Prop} {M : Mem} {i : Int} (hi0 : 0 ≤ i) (hi1 : i < 12) {j : Int} (hj0 : 0 ≤ j) (hj1 : j < 12) (h : ∀ M1 : Mem, M1 = wrow M 1 i 2 (cpy (M 1 j 2) (M 1 i 2) 0 0 11) → ∀ M4 : Mem, M4 = wrow M1 1 i 3 (cpy (M1 1 j 3) (M1 1 i 3) 0 0 11) → ∀ M7 : Mem, M7 = wrow M4 1 i 5 (cpy (M4 1 j 5) (M4 1 i 5) 0 0 3) → eX9_copyFrom G K X 46 [(0, rr G 1 i 1), (1, rr G 1 j 1), (2, iv 0)] [] M7) : Call G 1 0 zX9_copyFrom [rr G 1 i 1, rr G 1 j 1] M K X := by
  refine call_intro (lv := [(0, rr G 1 i 1), (1, rr G 1 j 1)]) (by decide) rfl (Nat.le_of_ble_eq_true rfl) rfl ?_
  refine ev_aload_n (j := 1) dX9_copyFrom_0 rfl rfl ?_
  refine ev_get frX9_9 dX9_copyFrom_1 (dom1 hj0 hj1 (by decide) (by decide)) en1_1 rfl ?_
  refine ev_iconst dX9_copyFrom_4 ?_
  refine ev_aload_n (j := 0) dX9_copyFrom_5 rfl rfl ?_
  refine ev_get frX9_9 dX9_copyFrom_6 (dom1 hi0 hi1 (by decide) (by decide)) en1_1 rfl ?_
  refine ev_iconst dX9_copyFrom_9 ?_
  refine ev_bipush dX9_copyFrom_10 (by decide) ?_
  refine ev_copy mlX9_34 wc_nat wc_st wc_in dX9_copyFrom_12 (by decide) (Nat.le_of_ble_eq_true rfl) (dom1 hj0 hj1 (by decide) (by decide)) (dom1 hi0 hi1 (by decide) (by decide)) ar1_2 ar1_2 (by decide) (by decide) (by decide) (by decide) (by decide) (by decide) (by decide) ?_
  obtain ⟨M1, e3⟩ : ∃ M1 : Mem, M1 = wrow M 1 i 2 (cpy (M 1 j 2) (M 1 i 2) 0 0 11) := ⟨_, rfl⟩
  have h2 := h _ e3
  refine ev_mem e3 ?_
  refine ev_aload_n (j := 1) dX9_copyFrom_15 rfl rfl ?_
  refine ev_get frX9_15 dX9_copyFrom_16 (dom1 hj0 hj1 (by decide) (by decide)) en1_1 rfl ?_
  refine ev_iconst dX9_copyFrom_19 ?_
  refine ev_aload_n (j := 0) dX9_copyFrom_20 rfl rfl ?_
  refine ev_get frX9_15 dX9_copyFrom_21 (dom1 hi0 hi1 (by decide) (by decide)) en1_1 rfl ?_
  refine ev_iconst dX9_copyFrom_24 ?_
  refine ev_bipush dX9_copyFrom_25 (by decide) ?_
  refine ev_copy mlX9_34 wc_nat wc_st wc_in dX9_copyFrom_27 (by decide) (Nat.le_of_ble_eq_true rfl) (dom1 hj0 hj1 (by decide) (by decide)) (dom1 hi0 hi1 (by decide) (by decide)) ar1_3 ar1_3 (by decide) (by decide) (by decide) (by decide) (by decide) (by decide) (by decide) ?_
  obtain ⟨M4, e6⟩ : ∃ M4 : Mem, M4 = wrow M1 1 i 3 (cpy (M1 1 j 3) (M1 1 i 3) 0 0 11) := ⟨_, rfl⟩
  have h5 := h2 _ e6
  refine ev_mem e6 ?_
  refine ev_aload_n (j := 1) dX9_copyFrom_30 rfl rfl ?_
  refine ev_get frX9_22 dX9_copyFrom_31 (dom1 hj0 hj1 (by decide) (by decide)) en1_1 rfl ?_
  refine ev_iconst dX9_copyFrom_34 ?_
  refine ev_aload_n (j := 0) dX9_copyFrom_35 rfl rfl ?_
  refine ev_get frX9_22 dX9_copyFrom_36 (dom1 hi0 hi1 (by decide) (by decide)) en1_1 rfl ?_
  refine ev_iconst dX9_copyFrom_39 ?_
  refine ev_iconst dX9_copyFrom_40 ?_
  refine ev_copy mlX9_34 wc_nat wc_st wc_in dX9_copyFrom_41 (by decide) (Nat.le_of_ble_eq_true rfl) (dom1 hj0 hj1 (by decide) (by decide)) (dom1 hi0 hi1 (by decide) (by decide)) ar1_5 ar1_5 (by decide) (by decide) (by decide) (by decide) (by decide) (by decide) (by decide) ?_
  obtain ⟨M7, e9⟩ : ∃ M7 : Mem, M7 = wrow M4 1 i 5 (cpy (M4 1 j 5) (M4 1 i 5) 0 0 3) := ⟨_, rfl⟩
  have h8 := h5 _ e9
  refine ev_mem e9 ?_
  refine ev_iconst dX9_copyFrom_44 ?_
  refine ev_istore_n dX9_copyFrom_45 rfl (by decide) rfl ?_
  exact ev_sub [1, 2, 0] rfl h8
set_option maxRecDepth 20000 in
set_option maxHeartbeats 4000000 in
theorem bX9_copyFrom_46 {G : GT} {K : List Value → Mem → Prop} {X : String → Mem → Prop} {M : Mem} {i : Int} (hi0 : 0 ≤ i) (hi1 : i < 12) {j : Int} (hj0 : 0 ≤ j) (hj1 : j < 12) {v2 : Int} (h : I32 v2 ∧ ((¬ v2 < 12 → K [] M) ∧ (v2 < 12 → 0 ≤ v2 ∧ vp_nar .boolean (J (M 1 j 4 v2)) = J (M 1 j 4 v2) ∧ eX9_copyFrom G K X 46 [(0, rr G 1 i 1), (1, rr G 1 j 1), (2, iv (v2 + 1))] [] (wr M 1 i 4 v2 (M 1 j 4 v2))))) : eX9_copyFrom G K X 46 [(0, rr G 1 i 1), (1, rr G 1 j 1), (2, iv v2)] [] M := by
  show Ex G zX9_copyFrom 1 0 K X 0 46 [(0, rr G 1 i 1), (1, rr G 1 j 1), (2, iv v2)] [] M
  refine ev_iload_n (j := 2) dX9_copyFrom_46 rfl rfl ?_
  refine ev_bipush dX9_copyFrom_47 (by decide) ?_
  obtain ⟨s1, h2⟩ := h
  obtain ⟨h3, h4⟩ := h2
  refine ev_icmp_ge 70 dX9_copyFrom_49 (by decide) s1 ⟨by decide, by decide⟩ (fun c5 => ?_) (fun c5 => ?_)
  · have h6 := h3 c5
    exact ev_vret dX9_copyFrom_70 (by decide) rfl h6
  · have h7 := h4 c5
    refine ev_aload_n (j := 0) dX9_copyFrom_52 rfl rfl ?_
    refine ev_get frX9_18 dX9_copyFrom_53 (dom1 hi0 hi1 (by decide) (by decide)) en1_1 rfl ?_
    refine ev_iload_n (j := 2) dX9_copyFrom_56 rfl rfl ?_
    refine ev_aload_n (j := 1) dX9_copyFrom_57 rfl rfl ?_
    refine ev_get frX9_18 dX9_copyFrom_58 (dom1 hj0 hj1 (by decide) (by decide)) en1_1 rfl ?_
    refine ev_iload_n (j := 2) dX9_copyFrom_61 rfl rfl ?_
    obtain ⟨s8, h9⟩ := h7
    refine ev_zald dX9_copyFrom_62 (dom1 hj0 hj1 (by decide) (by decide)) ar1_4 (by decide) s8 c5 ?_
    obtain ⟨s10, h11⟩ := h9
    refine ev_zast dX9_copyFrom_63 (dom1 hi0 hi1 (by decide) (by decide)) ar1_4 (by decide) s8 c5 s10 ?_
    refine ev_iinc (j := 2) dX9_copyFrom_64 rfl (by decide) rfl ?_
    refine ev_goto 46 dX9_copyFrom_67 (by decide) ?_
    exact ev_sub [1, 2, 0] rfl h11
def eX9_minutesFromTo (G : GT) (K : List Value → Mem → Prop) (X : String → Mem → Prop) (pc : Nat) (lv : List (Nat × Value)) (st : List Value) (M : Mem) : Prop := Ex G zX9_minutesFromTo 0 0 K X 0 pc lv st M
set_option maxRecDepth 20000 in
set_option maxHeartbeats 4000000 in
theorem bX9_minutesFromTo {G : GT} {K : List Value → Mem → Prop} {X : String → Mem → Prop} {M : Mem} {i : Int} (hi0 : 0 ≤ i) (hi1 : i < 12) {v1 v2 : Int} (h : I32 v1 ∧ I32 v2 ∧ ((¬ v1 < v2 → eX9_minutesFromTo G K X 29 [(0, rr G 1 i 1), (4, iv v1), (5, iv 0), (6, iv v2)] [] M) ∧ (v1 < v2 → eX9_minutesFromTo G K X 29 [(0, rr G 1 i 1), (4, iv v2), (5, iv 0), (6, iv v1)] [] M))) : Call G 0 0 zX9_minutesFromTo [rr G 1 i 1, iv v1, iv v2] M K X := by
  refine call_intro (lv := [(0, rr G 1 i 1), (1, iv v1), (2, iv v2)]) (by decide) rfl (Nat.le_of_ble_eq_true rfl) rfl ?_
  refine ev_iload_n (j := 1) dX9_minutesFromTo_0 rfl rfl ?_
  refine ev_iload_n (j := 2) dX9_minutesFromTo_1 rfl rfl ?_
  obtain ⟨s1, s2, h3⟩ := h
  obtain ⟨h4, h5⟩ := h3
  refine ev_icmp_ge 9 dX9_minutesFromTo_2 (by decide) s1 s2 (fun c6 => ?_) (fun c6 => ?_)
  · have h7 := h4 c6
    refine ev_iload_n (j := 2) dX9_minutesFromTo_9 rfl rfl ?_
    refine ev_istore_n dX9_minutesFromTo_10 rfl (by decide) rfl ?_
    refine ev_iload_n (j := 2) dX9_minutesFromTo_11 rfl rfl ?_
    refine ev_iload_n (j := 3) dX9_minutesFromTo_12 rfl rfl ?_
    refine ev_icmp_ge 20 dX9_minutesFromTo_13 (by decide) s1 s2 (fun _ => ?_) (fun c9 => absurd c9 c6)
    refine ev_iload_n (j := 2) dX9_minutesFromTo_20 rfl rfl ?_
    refine ev_istore dX9_minutesFromTo_21 (by decide) rfl ?_
    refine ev_iconst dX9_minutesFromTo_23 ?_
    refine ev_istore dX9_minutesFromTo_24 (by decide) rfl ?_
    refine ev_iload_n (j := 2) dX9_minutesFromTo_26 rfl rfl ?_
    refine ev_istore dX9_minutesFromTo_27 (by decide) rfl ?_
    exact ev_sub [4, 2, 1, 0] rfl h7
  · have h8 := h5 c6
    refine ev_iload_n (j := 1) dX9_minutesFromTo_5 rfl rfl ?_
    refine ev_goto 10 dX9_minutesFromTo_6 (by decide) ?_
    refine ev_istore_n dX9_minutesFromTo_10 rfl (by decide) rfl ?_
    refine ev_iload_n (j := 2) dX9_minutesFromTo_11 rfl rfl ?_
    refine ev_iload_n (j := 3) dX9_minutesFromTo_12 rfl rfl ?_
    refine ev_icmp_ge 20 dX9_minutesFromTo_13 (by decide) s1 s2 (fun c9 => absurd c6 c9) (fun _ => ?_)
    refine ev_iload_n (j := 3) dX9_minutesFromTo_16 rfl rfl ?_
    refine ev_goto 21 dX9_minutesFromTo_17 (by decide) ?_
    refine ev_istore dX9_minutesFromTo_21 (by decide) rfl ?_
    refine ev_iconst dX9_minutesFromTo_23 ?_
    refine ev_istore dX9_minutesFromTo_24 (by decide) rfl ?_
    refine ev_iload_n (j := 2) dX9_minutesFromTo_26 rfl rfl ?_
    refine ev_istore dX9_minutesFromTo_27 (by decide) rfl ?_
    exact ev_sub [4, 2, 1, 0] rfl h8
set_option maxRecDepth 20000 in
set_option maxHeartbeats 4000000 in
theorem bX9_minutesFromTo_29 {G : GT} {K : List Value → Mem → Prop} {X : String → Mem → Prop} {M : Mem} {i : Int} (hi0 : 0 ≤ i) (hi1 : i < 12) {v4 v5 v6 : Int} (h : I32 v6 ∧ I32 v4 ∧ ((¬ v6 < v4 → K [iv v5] M) ∧ (v6 < v4 → 0 ≤ v6 ∧ v6 < 11 ∧ eX9_minutesFromTo G K X 29 [(0, rr G 1 i 1), (4, iv v4), (5, iv (v5 + (M 1 i 2 v6))), (6, iv (v6 + 1))] [] M))) : eX9_minutesFromTo G K X 29 [(0, rr G 1 i 1), (4, iv v4), (5, iv v5), (6, iv v6)] [] M := by
  show Ex G zX9_minutesFromTo 0 0 K X 0 29 [(0, rr G 1 i 1), (4, iv v4), (5, iv v5), (6, iv v6)] [] M
  refine ev_iload (j := 3) dX9_minutesFromTo_29 rfl ?_
  refine ev_iload (j := 1) dX9_minutesFromTo_31 rfl ?_
  obtain ⟨s1, s2, h3⟩ := h
  obtain ⟨h4, h5⟩ := h3
  refine ev_icmp_ge 54 dX9_minutesFromTo_33 (by decide) s1 s2 (fun c6 => ?_) (fun c6 => ?_)
  · have h7 := h4 c6
    refine ev_iload (j := 2) dX9_minutesFromTo_54 rfl ?_
    exact ev_iret dX9_minutesFromTo_56 (by decide) rfl h7
  · have h8 := h5 c6
    refine ev_iload (j := 2) dX9_minutesFromTo_36 rfl ?_
    refine ev_aload_n (j := 0) dX9_minutesFromTo_38 rfl rfl ?_
    refine ev_get frX9_9 dX9_minutesFromTo_39 (dom1 hi0 hi1 (by decide) (by decide)) en1_1 rfl ?_
    refine ev_iload (j := 3) dX9_minutesFromTo_42 rfl ?_
    obtain ⟨s9, s10, h11⟩ := h8
    refine ev_iald dX9_minutesFromTo_44 (dom1 hi0 hi1 (by decide) (by decide)) ar1_2 (by decide) s9 s10 ?_
    refine ev_iadd dX9_minutesFromTo_45 ?_
    refine ev_istore dX9_minutesFromTo_46 (by decide) rfl ?_
    refine ev_iinc (j := 3) dX9_minutesFromTo_48 rfl (by decide) rfl ?_
    refine ev_goto 29 dX9_minutesFromTo_51 (by decide) ?_
    exact ev_sub [2, 3, 1, 0] rfl h11
def eX9_turnableCount (G : GT) (K : List Value → Mem → Prop) (X : String → Mem → Prop) (pc : Nat) (lv : List (Nat × Value)) (st : List Value) (M : Mem) : Prop := Ex G zX9_turnableCount 0 0 K X 0 pc lv st M
set_option maxRecDepth 20000 in
set_option maxHeartbeats 4000000 in
theorem bX9_turnableCount {G : GT} {K : List Value → Mem → Prop} {X : String → Mem → Prop} {M : Mem} {i : Int} (hi0 : 0 ≤ i) (hi1 : i < 12) (h : eX9_turnableCount G K X 4 [(0, rr G 1 i 1), (1, iv 0), (2, iv 0)] [] M) : Call G 0 0 zX9_turnableCount [rr G 1 i 1] M K X := by
  refine call_intro (lv := [(0, rr G 1 i 1)]) (by decide) rfl (Nat.le_of_ble_eq_true rfl) rfl ?_
  refine ev_iconst dX9_turnableCount_0 ?_
  refine ev_istore_n dX9_turnableCount_1 rfl (by decide) rfl ?_
  refine ev_iconst dX9_turnableCount_2 ?_
  refine ev_istore_n dX9_turnableCount_3 rfl (by decide) rfl ?_
  exact ev_sub [2, 1, 0] rfl h
set_option maxRecDepth 20000 in
set_option maxHeartbeats 4000000 in
theorem bX9_turnableCount_4 {G : GT} {K : List Value → Mem → Prop} {X : String → Mem → Prop} {M : Mem} {i : Int} (hi0 : 0 ≤ i) (hi1 : i < 12) {v1 v2 : Int} (h : I32 v2 ∧ ((¬ v2 < 12 → K [iv v1] M) ∧ (v2 < 12 → 0 ≤ v2 ∧ I32 (M 1 i 4 v2) ∧ (((M 1 i 4 v2) = 0 → eX9_turnableCount G K X 4 [(0, rr G 1 i 1), (1, iv v1), (2, iv (v2 + 1))] [] M) ∧ (¬ (M 1 i 4 v2) = 0 → eX9_turnableCount G K X 4 [(0, rr G 1 i 1), (1, iv (v1 + 1)), (2, iv (v2 + 1))] [] M))))) : eX9_turnableCount G K X 4 [(0, rr G 1 i 1), (1, iv v1), (2, iv v2)] [] M := by
  show Ex G zX9_turnableCount 0 0 K X 0 4 [(0, rr G 1 i 1), (1, iv v1), (2, iv v2)] [] M
  refine ev_iload_n (j := 2) dX9_turnableCount_4 rfl rfl ?_
  refine ev_bipush dX9_turnableCount_5 (by decide) ?_
  obtain ⟨s1, h2⟩ := h
  obtain ⟨h3, h4⟩ := h2
  refine ev_icmp_ge 28 dX9_turnableCount_7 (by decide) s1 ⟨by decide, by decide⟩ (fun c5 => ?_) (fun c5 => ?_)
  · have h6 := h3 c5
    refine ev_iload_n (j := 1) dX9_turnableCount_28 rfl rfl ?_
    exact ev_iret dX9_turnableCount_29 (by decide) rfl h6
  · have h7 := h4 c5
    refine ev_aload_n (j := 0) dX9_turnableCount_10 rfl rfl ?_
    refine ev_get frX9_18 dX9_turnableCount_11 (dom1 hi0 hi1 (by decide) (by decide)) en1_1 rfl ?_
    refine ev_iload_n (j := 2) dX9_turnableCount_14 rfl rfl ?_
    obtain ⟨s8, h9⟩ := h7
    refine ev_zald dX9_turnableCount_15 (dom1 hi0 hi1 (by decide) (by decide)) ar1_4 (by decide) s8 c5 ?_
    obtain ⟨s10, h11⟩ := h9
    obtain ⟨h12, h13⟩ := h11
    refine ev_if_eq 22 dX9_turnableCount_16 (by decide) s10 (fun c14 => ?_) (fun c14 => ?_)
    · have h15 := h12 c14
      refine ev_iinc (j := 2) dX9_turnableCount_22 rfl (by decide) rfl ?_
      refine ev_goto 4 dX9_turnableCount_25 (by decide) ?_
      exact ev_sub [1, 2, 0] rfl h15
    · have h16 := h13 c14
      refine ev_iinc (j := 1) dX9_turnableCount_19 rfl (by decide) rfl ?_
      refine ev_iinc (j := 2) dX9_turnableCount_22 rfl (by decide) rfl ?_
      refine ev_goto 4 dX9_turnableCount_25 (by decide) ?_
      exact ev_sub [2, 1, 0] rfl h16
def eX10_add (G : GT) (K : List Value → Mem → Prop) (X : String → Mem → Prop) (pc : Nat) (lv : List (Nat × Value)) (st : List Value) (M : Mem) : Prop := Ex G zX10_add 0 0 K X 0 pc lv st M
set_option maxRecDepth 20000 in
set_option maxHeartbeats 4000000 in
theorem bX10_add {G : GT} {K : List Value → Mem → Prop} {X : String → Mem → Prop} {M : Mem} {v1 : Int} (h : I32 (M 7 0 0 1) ∧ ((¬ (M 7 0 0 1) < 60 → K [] M) ∧ ((M 7 0 0 1) < 60 → 0 ≤ M 7 0 0 1 ∧ M 7 0 0 1 < 60 ∧ vp_nar .char (J v1) = J v1 ∧ K [] (wr (wr M 7 0 1 (M 7 0 0 1) v1) 7 0 0 1 ((M 7 0 0 1) + 1))))) : Call G 0 0 zX10_add [rr G 7 0 0, iv v1] M K X := by
  refine call_intro (lv := [(0, rr G 7 0 0), (1, iv v1)]) (by decide) rfl (Nat.le_of_ble_eq_true rfl) rfl ?_
  refine ev_aload_n (j := 0) dX10_add_0 rfl rfl ?_
  refine ev_get frX10_29 dX10_add_1 dm7_0 en7_0 rfl ?_
  refine ev_bipush dX10_add_4 (by decide) ?_
  obtain ⟨s1, h2⟩ := h
  obtain ⟨h3, h4⟩ := h2
  refine ev_icmp_ge 29 dX10_add_6 (by decide) s1 ⟨by decide, by decide⟩ (fun c5 => ?_) (fun c5 => ?_)
  · have h6 := h3 c5
    exact ev_vret dX10_add_29 (by decide) rfl h6
  · have h7 := h4 c5
    refine ev_aload_n (j := 0) dX10_add_9 rfl rfl ?_
    refine ev_get frX10_11 dX10_add_10 dm7_0 en7_0 rfl ?_
    refine ev_aload_n (j := 0) dX10_add_13 rfl rfl ?_
    refine ev_get frX10_29 dX10_add_14 dm7_0 en7_0 rfl ?_
    refine ev_iload_n (j := 1) dX10_add_17 rfl rfl ?_
    obtain ⟨s8, s9, s10, h11⟩ := h7
    refine ev_cast dX10_add_18 dm7_1 ar7_1 (by decide) s8 s9 s10 ?_
    refine ev_aload_n (j := 0) dX10_add_19 rfl rfl ?_
    refine ev_dup dX10_add_20 rfl ?_
    refine ev_get frX10_29 dX10_add_21 dm7_0 en7_0 rfl ?_
    refine ev_topI (b := M 7 0 0 1) rfl ?_
    refine ev_iconst dX10_add_24 ?_
    refine ev_iadd dX10_add_25 ?_
    refine ev_put fwX10_29 dX10_add_26 dm7_0 en7_0 rfl rfl rfl (Nat.le_of_ble_eq_true rfl) ?_
    exact ev_vret dX10_add_29 (by decide) rfl h11
def eX10_addTo (G : GT) (K : List Value → Mem → Prop) (X : String → Mem → Prop) (pc : Nat) (lv : List (Nat × Value)) (st : List Value) (M : Mem) : Prop := Ex G zX10_addTo 1 0 K X 0 pc lv st M
set_option maxRecDepth 20000 in
set_option maxHeartbeats 4000000 in
theorem bX10_addTo {G : GT} {K : List Value → Mem → Prop} {X : String → Mem → Prop} {M : Mem} {j : Int} (hj0 : 0 ≤ j) (hj1 : j < 12) (h : eX10_addTo G K X 2 [(0, rr G 7 0 0), (1, rr G 1 j 0), (2, iv 0)] [] M) : Call G 1 0 zX10_addTo [rr G 7 0 0, rr G 1 j 0] M K X := by
  refine call_intro (lv := [(0, rr G 7 0 0), (1, rr G 1 j 0)]) (by decide) rfl (Nat.le_of_ble_eq_true rfl) rfl ?_
  refine ev_iconst dX10_addTo_0 ?_
  refine ev_istore_n dX10_addTo_1 rfl (by decide) rfl ?_
  exact ev_sub [1, 2, 0] rfl h
set_option maxRecDepth 20000 in
set_option maxHeartbeats 4000000 in
theorem bX10_addTo_2 {G : GT} {K : List Value → Mem → Prop} {X : String → Mem → Prop} {M : Mem} {j : Int} (hj0 : 0 ≤ j) (hj1 : j < 12) {v2 : Int} (h : I32 v2 ∧ I32 (M 7 0 0 6) ∧ ((¬ v2 < (M 7 0 0 6) → K [] M) ∧ (v2 < (M 7 0 0 6) → 0 ≤ v2 ∧ v2 < 10 ∧ Call G 0 0 zX8_addActive [rr G 1 j 6, iv (M 7 0 2 v2), iv (M 7 0 3 v2), iv (M 7 0 4 v2)] M (kI (fun x14 M12 => eX10_addTo G K X 2 [(0, rr G 7 0 0), (1, rr G 1 j 0), (2, iv (v2 + 1))] [] M12)) noX))) : eX10_addTo G K X 2 [(0, rr G 7 0 0), (1, rr G 1 j 0), (2, iv v2)] [] M := by
  show Ex G zX10_addTo 1 0 K X 0 2 [(0, rr G 7 0 0), (1, rr G 1 j 0), (2, iv v2)] [] M
  refine ev_iload_n (j := 2) dX10_addTo_2 rfl rfl ?_
  refine ev_aload_n (j := 0) dX10_addTo_3 rfl rfl ?_
  refine ev_get frX10_35 dX10_addTo_4 dm7_0 en7_0 rfl ?_
  obtain ⟨s1, s2, h3⟩ := h
  obtain ⟨h4, h5⟩ := h3
  refine ev_icmp_ge 42 dX10_addTo_7 (by decide) s1 s2 (fun c6 => ?_) (fun c6 => ?_)
  · have h7 := h4 c6
    exact ev_vret dX10_addTo_42 (by decide) rfl h7
  · have h8 := h5 c6
    refine ev_aload_n (j := 1) dX10_addTo_10 rfl rfl ?_
    refine ev_get frX10_53 dX10_addTo_11 (dom1 hj0 hj1 (by decide) (by decide)) en1_0 rfl ?_
    refine ev_aload_n (j := 0) dX10_addTo_14 rfl rfl ?_
    refine ev_get frX10_15 dX10_addTo_15 dm7_0 en7_0 rfl ?_
    refine ev_iload_n (j := 2) dX10_addTo_18 rfl rfl ?_
    obtain ⟨s9, s10, h11⟩ := h8
    refine ev_iald dX10_addTo_19 dm7_2 ar7_2 (by decide) s9 s10 ?_
    refine ev_aload_n (j := 0) dX10_addTo_20 rfl rfl ?_
    refine ev_get frX10_19 dX10_addTo_21 dm7_0 en7_0 rfl ?_
    refine ev_iload_n (j := 2) dX10_addTo_24 rfl rfl ?_
    refine ev_iald dX10_addTo_25 dm7_3 ar7_3 (by decide) s9 s10 ?_
    refine ev_aload_n (j := 0) dX10_addTo_26 rfl rfl ?_
    refine ev_get frX10_22 dX10_addTo_27 dm7_0 en7_0 rfl ?_
    refine ev_iload_n (j := 2) dX10_addTo_30 rfl rfl ?_
    refine ev_iald dX10_addTo_31 dm7_4 ar7_4 (by decide) s9 s10 ?_
    refine ev_callVI (As := [iv (M 7 0 2 v2), iv (M 7 0 3 v2), iv (M 7 0 4 v2)]) (st := []) mfX8_addActive mlX10_66 dX10_addTo_32 rfl (dom1 hj0 hj1 (by decide) (by decide)) en1_6 rfl rfl rfl (by decide) (by decide) (by decide) (Nat.le_of_ble_eq_true rfl) (fun _ _ z => z.elim) h11 (fun x14 M12 h13 => ?_)
    refine ev_pop dX10_addTo_35 rfl ?_
    refine ev_iinc (j := 2) dX10_addTo_36 rfl (by decide) rfl ?_
    refine ev_goto 2 dX10_addTo_39 (by decide) ?_
    exact ev_sub [1, 2, 0] rfl h13
def eX10_canBeAddedTo (G : GT) (K : List Value → Mem → Prop) (X : String → Mem → Prop) (pc : Nat) (lv : List (Nat × Value)) (st : List Value) (M : Mem) : Prop := Ex G zX10_canBeAddedTo 2 0 K X 0 pc lv st M
set_option maxRecDepth 20000 in
set_option maxHeartbeats 4000000 in
theorem bX10_canBeAddedTo {G : GT} {K : List Value → Mem → Prop} {X : String → Mem → Prop} {M : Mem} {j : Int} (hj0 : 0 ≤ j) (hj1 : j < 12) (h : I32 ((M 1 j 6 4) + (M 7 0 0 6)) ∧ ((¬ 30 < ((M 1 j 6 4) + (M 7 0 0 6)) → eX10_canBeAddedTo G K X 21 [(0, rr G 7 0 0), (1, rr G 1 j 0), (2, iv 0)] [] M) ∧ (30 < ((M 1 j 6 4) + (M 7 0 0 6)) → K [iv 0] M))) : Call G 2 0 zX10_canBeAddedTo [rr G 7 0 0, rr G 1 j 0] M K X := by
  refine call_intro (lv := [(0, rr G 7 0 0), (1, rr G 1 j 0)]) (by decide) rfl (Nat.le_of_ble_eq_true rfl) rfl ?_
  refine ev_aload_n (j := 1) dX10_canBeAddedTo_0 rfl rfl ?_
  refine ev_get frX10_53 dX10_canBeAddedTo_1 (dom1 hj0 hj1 (by decide) (by decide)) en1_0 rfl ?_
  refine ev_get frX10_59 dX10_canBeAddedTo_4 (dom1 hj0 hj1 (by decide) (by decide)) en1_6 rfl ?_
  refine ev_aload_n (j := 0) dX10_canBeAddedTo_7 rfl rfl ?_
  refine ev_get frX10_35 dX10_canBeAddedTo_8 dm7_0 en7_0 rfl ?_
  refine ev_iadd dX10_canBeAddedTo_11 ?_
  refine ev_bipush dX10_canBeAddedTo_12 (by decide) ?_
  obtain ⟨s1, h2⟩ := h
  obtain ⟨h3, h4⟩ := h2
  refine ev_icmp_le 19 dX10_canBeAddedTo_14 (by decide) s1 ⟨by decide, by decide⟩ (fun c5 => ?_) (fun c5 => ?_)
  · have h6 := h3 c5
    refine ev_iconst dX10_canBeAddedTo_19 ?_
    refine ev_istore_n dX10_canBeAddedTo_20 rfl (by decide) rfl ?_
    exact ev_sub [1, 2, 0] rfl h6
  · have h7 := h4 c5
    refine ev_iconst dX10_canBeAddedTo_17 ?_
    exact ev_zret dX10_canBeAddedTo_18 (by decide) rfl (by decide) h7
set_option maxRecDepth 20000 in
set_option maxHeartbeats 4000000 in
theorem bX10_canBeAddedTo_21 {G : GT} {K : List Value → Mem → Prop} {X : String → Mem → Prop} {M : Mem} {j : Int} (hj0 : 0 ≤ j) (hj1 : j < 12) {v2 : Int} (h : I32 v2 ∧ I32 (M 7 0 0 6) ∧ ((¬ v2 < (M 7 0 0 6) → K [iv 1] M) ∧ (v2 < (M 7 0 0 6) → 0 ≤ v2 ∧ v2 < 10 ∧ Call G 1 0 zX4_isTripAllowed [rr G 1 j 0, iv (M 7 0 2 v2), iv (M 7 0 3 v2), iv (M 7 0 4 v2)] M (kI (fun x14 M12 => I32 x14 ∧ ((¬ x14 = 0 → eX10_canBeAddedTo G K X 21 [(0, rr G 7 0 0), (1, rr G 1 j 0), (2, iv (v2 + 1))] [] M12) ∧ (x14 = 0 → K [iv 0] M12)))) noX))) : eX10_canBeAddedTo G K X 21 [(0, rr G 7 0 0), (1, rr G 1 j 0), (2, iv v2)] [] M := by
  show Ex G zX10_canBeAddedTo 2 0 K X 0 21 [(0, rr G 7 0 0), (1, rr G 1 j 0), (2, iv v2)] [] M
  refine ev_iload_n (j := 2) dX10_canBeAddedTo_21 rfl rfl ?_
  refine ev_aload_n (j := 0) dX10_canBeAddedTo_22 rfl rfl ?_
  refine ev_get frX10_35 dX10_canBeAddedTo_23 dm7_0 en7_0 rfl ?_
  obtain ⟨s1, s2, h3⟩ := h
  obtain ⟨h4, h5⟩ := h3
  refine ev_icmp_ge 62 dX10_canBeAddedTo_26 (by decide) s1 s2 (fun c6 => ?_) (fun c6 => ?_)
  · have h7 := h4 c6
    refine ev_iconst dX10_canBeAddedTo_62 ?_
    exact ev_zret dX10_canBeAddedTo_63 (by decide) rfl (by decide) h7
  · have h8 := h5 c6
    refine ev_aload_n (j := 1) dX10_canBeAddedTo_29 rfl rfl ?_
    refine ev_aload_n (j := 0) dX10_canBeAddedTo_30 rfl rfl ?_
    refine ev_get frX10_15 dX10_canBeAddedTo_31 dm7_0 en7_0 rfl ?_
    refine ev_iload_n (j := 2) dX10_canBeAddedTo_34 rfl rfl ?_
    obtain ⟨s9, s10, h11⟩ := h8
    refine ev_iald dX10_canBeAddedTo_35 dm7_2 ar7_2 (by decide) s9 s10 ?_
    refine ev_aload_n (j := 0) dX10_canBeAddedTo_36 rfl rfl ?_
    refine ev_get frX10_19 dX10_canBeAddedTo_37 dm7_0 en7_0 rfl ?_
    refine ev_iload_n (j := 2) dX10_canBeAddedTo_40 rfl rfl ?_
    refine ev_iald dX10_canBeAddedTo_41 dm7_3 ar7_3 (by decide) s9 s10 ?_
    refine ev_aload_n (j := 0) dX10_canBeAddedTo_42 rfl rfl ?_
    refine ev_get frX10_22 dX10_canBeAddedTo_43 dm7_0 en7_0 rfl ?_
    refine ev_iload_n (j := 2) dX10_canBeAddedTo_46 rfl rfl ?_
    refine ev_iald dX10_canBeAddedTo_47 dm7_4 ar7_4 (by decide) s9 s10 ?_
    refine ev_callVI (As := [iv (M 7 0 2 v2), iv (M 7 0 3 v2), iv (M 7 0 4 v2)]) (st := []) mfX4_isTripAllowed mlX10_62 dX10_canBeAddedTo_48 rfl (dom1 hj0 hj1 (by decide) (by decide)) en1_0 rfl rfl rfl (by decide) (by decide) (by decide) (Nat.le_of_ble_eq_true rfl) (fun _ _ z => z.elim) h11 (fun x14 M12 h13 => ?_)
    obtain ⟨s15, h16⟩ := h13
    obtain ⟨h17, h18⟩ := h16
    refine ev_if_ne 56 dX10_canBeAddedTo_51 (by decide) s15 (fun c19 => ?_) (fun c19 => ?_)
    · have h20 := h17 c19
      refine ev_iinc (j := 2) dX10_canBeAddedTo_56 rfl (by decide) rfl ?_
      refine ev_goto 21 dX10_canBeAddedTo_59 (by decide) ?_
      exact ev_sub [1, 2, 0] rfl h20
    · have h21 := h18 c19
      refine ev_iconst dX10_canBeAddedTo_54 ?_
      exact ev_zret dX10_canBeAddedTo_55 (by decide) rfl (by decide) h21
def eX10_isDigit (G : GT) (K : List Value → Mem → Prop) (X : String → Mem → Prop) (pc : Nat) (lv : List (Nat × Value)) (st : List Value) (M : Mem) : Prop := Ex G zX10_isDigit 0 0 K X 0 pc lv st M
set_option maxRecDepth 20000 in
set_option maxHeartbeats 4000000 in
theorem bX10_isDigit {G : GT} {K : List Value → Mem → Prop} {X : String → Mem → Prop} {M : Mem} {v0 : Int} (h : I32 v0 ∧ ((v0 < 48 → K [iv 0] M) ∧ (¬ v0 < 48 → ((57 < v0 → K [iv 0] M) ∧ (¬ 57 < v0 → K [iv 1] M))))) : Call G 0 0 zX10_isDigit [iv v0] M K X := by
  refine call_intro (lv := [(0, iv v0)]) (by decide) rfl (Nat.le_of_ble_eq_true rfl) rfl ?_
  refine ev_bipush dX10_isDigit_0 (by decide) ?_
  refine ev_iload_n (j := 0) dX10_isDigit_2 rfl rfl ?_
  obtain ⟨s1, h2⟩ := h
  obtain ⟨h3, h4⟩ := h2
  refine ev_icmp_gt 16 dX10_isDigit_3 (by decide) ⟨by decide, by decide⟩ s1 (fun c5 => ?_) (fun c5 => ?_)
  · have h6 := h3 c5
    refine ev_iconst dX10_isDigit_16 ?_
    exact ev_zret dX10_isDigit_17 (by decide) rfl (by decide) h6
  · have h7 := h4 c5
    refine ev_iload_n (j := 0) dX10_isDigit_6 rfl rfl ?_
    refine ev_bipush dX10_isDigit_7 (by decide) ?_
    obtain ⟨h8, h9⟩ := h7
    refine ev_icmp_gt 16 dX10_isDigit_9 (by decide) s1 ⟨by decide, by decide⟩ (fun c10 => ?_) (fun c10 => ?_)
    · have h11 := h8 c10
      refine ev_iconst dX10_isDigit_16 ?_
      exact ev_zret dX10_isDigit_17 (by decide) rfl (by decide) h11
    · have h12 := h9 c10
      refine ev_iconst dX10_isDigit_12 ?_
      refine ev_goto 17 dX10_isDigit_13 (by decide) ?_
      exact ev_zret dX10_isDigit_17 (by decide) rfl (by decide) h12
def eX10_isFull (G : GT) (K : List Value → Mem → Prop) (X : String → Mem → Prop) (pc : Nat) (lv : List (Nat × Value)) (st : List Value) (M : Mem) : Prop := Ex G zX10_isFull 0 0 K X 0 pc lv st M
set_option maxRecDepth 20000 in
set_option maxHeartbeats 4000000 in
theorem bX10_isFull {G : GT} {K : List Value → Mem → Prop} {X : String → Mem → Prop} {M : Mem} (h : I32 (M 7 0 0 1) ∧ (((M 7 0 0 1) < 60 → K [iv 0] M) ∧ (¬ (M 7 0 0 1) < 60 → K [iv 1] M))) : Call G 0 0 zX10_isFull [rr G 7 0 0] M K X := by
  refine call_intro (lv := [(0, rr G 7 0 0)]) (by decide) rfl (Nat.le_of_ble_eq_true rfl) rfl ?_
  refine ev_aload_n (j := 0) dX10_isFull_0 rfl rfl ?_
  refine ev_get frX10_29 dX10_isFull_1 dm7_0 en7_0 rfl ?_
  refine ev_bipush dX10_isFull_4 (by decide) ?_
  obtain ⟨s1, h2⟩ := h
  obtain ⟨h3, h4⟩ := h2
  refine ev_icmp_lt 13 dX10_isFull_6 (by decide) s1 ⟨by decide, by decide⟩ (fun c5 => ?_) (fun c5 => ?_)
  · have h6 := h3 c5
    refine ev_iconst dX10_isFull_13 ?_
    exact ev_zret dX10_isFull_14 (by decide) rfl (by decide) h6
  · have h7 := h4 c5
    refine ev_iconst dX10_isFull_9 ?_
    refine ev_goto 14 dX10_isFull_10 (by decide) ?_
    exact ev_zret dX10_isFull_14 (by decide) rfl (by decide) h7
def eX10_parse (G : GT) (K : List Value → Mem → Prop) (X : String → Mem → Prop) (pc : Nat) (lv : List (Nat × Value)) (st : List Value) (M : Mem) : Prop := Ex G zX10_parse 3 0 K X 0 pc lv st M
set_option maxRecDepth 20000 in
set_option maxHeartbeats 4000000 in
theorem bX10_parse {G : GT} {K : List Value → Mem → Prop} {X : String → Mem → Prop} {M : Mem} (h : Call G 2 0 zX10_parseTrip [rr G 7 0 0] (wr (wr M 7 0 0 2 0) 7 0 0 6 0) (kI (fun x3 M1 => eX10_parse G K X 17 [(0, rr G 7 0 0), (1, iv x3), (2, iv 1)] [] M1)) noX) : Call G 3 0 zX10_parse [rr G 7 0 0] M K X := by
  refine call_intro (lv := [(0, rr G 7 0 0)]) (by decide) rfl (Nat.le_of_ble_eq_true rfl) rfl ?_
  refine ev_aload_n (j := 0) dX10_parse_0 rfl rfl ?_
  refine ev_iconst dX10_parse_1 ?_
  refine ev_put fwX10_32 dX10_parse_2 dm7_0 en7_0 rfl rfl rfl (Nat.le_of_ble_eq_true rfl) ?_
  refine ev_aload_n (j := 0) dX10_parse_5 rfl rfl ?_
  refine ev_iconst dX10_parse_6 ?_
  refine ev_put fwX10_35 dX10_parse_7 dm7_0 en7_0 rfl rfl rfl (Nat.le_of_ble_eq_true rfl) ?_
  refine ev_aload_n (j := 0) dX10_parse_10 rfl rfl ?_
  refine ev_callVI (As := []) (st := []) mfX10_parseTrip mlX10_38 dX10_parse_11 rfl dm7_0 en7_0 rfl rfl rfl (by decide) (by decide) (by decide) (Nat.le_of_ble_eq_true rfl) (fun _ _ z => z.elim) h (fun x3 M1 h2 => ?_)
  refine ev_istore_n dX10_parse_14 rfl (by decide) rfl ?_
  refine ev_iconst dX10_parse_15 ?_
  refine ev_istore_n dX10_parse_16 rfl (by decide) rfl ?_
  exact ev_sub [2, 1, 0] rfl h2
set_option maxRecDepth 20000 in
set_option maxHeartbeats 4000000 in
theorem bX10_parse_17 {G : GT} {K : List Value → Mem → Prop} {X : String → Mem → Prop} {M : Mem} {v1 v2 : Int} (h : I32 v2 ∧ ((¬ v2 < 10 → I32 v1 ∧ ((v1 = 0 → K [] (wr (wr M 7 0 0 7 (M 7 0 0 2)) 7 0 0 1 0)) ∧ (¬ v1 = 0 → K [] (wr (wr M 7 0 0 7 (-1)) 7 0 0 1 0)))) ∧ (v2 < 10 → I32 v1 ∧ ((v1 = 0 → K [] (wr (wr M 7 0 0 7 (M 7 0 0 2)) 7 0 0 1 0)) ∧ (¬ v1 = 0 → I32 (M 7 0 0 2) ∧ I32 (M 7 0 0 1) ∧ ((¬ (M 7 0 0 2) < (M 7 0 0 1) → K [] (wr (wr M 7 0 0 7 (-1)) 7 0 0 1 0)) ∧ ((M 7 0 0 2) < (M 7 0 0 1) → Call G 2 0 zX10_parseTrip [rr G 7 0 0] M (kI (fun x32 M30 => eX10_parse G K X 17 [(0, rr G 7 0 0), (1, iv x32), (2, iv (v2 + 1))] [] M30)) noX))))))) : eX10_parse G K X 17 [(0, rr G 7 0 0), (1, iv v1), (2, iv v2)] [] M := by
  show Ex G zX10_parse 3 0 K X 0 17 [(0, rr G 7 0 0), (1, iv v1), (2, iv v2)] [] M
  refine ev_iload_n (j := 2) dX10_parse_17 rfl rfl ?_
  refine ev_bipush dX10_parse_18 (by decide) ?_
  obtain ⟨s1, h2⟩ := h
  obtain ⟨h3, h4⟩ := h2
  refine ev_icmp_ge 49 dX10_parse_20 (by decide) s1 ⟨by decide, by decide⟩ (fun c5 => ?_) (fun c5 => ?_)
  · have h6 := h3 c5
    refine ev_aload_n (j := 0) dX10_parse_49 rfl rfl ?_
    refine ev_iload_n (j := 1) dX10_parse_50 rfl rfl ?_
    obtain ⟨s7, h8⟩ := h6
    obtain ⟨h9, h10⟩ := h8
    refine ev_if_eq 58 dX10_parse_51 (by decide) s7 (fun c11 => ?_) (fun c11 => ?_)
    · have h12 := h9 c11
      refine ev_aload_n (j := 0) dX10_parse_58 rfl rfl ?_
      refine ev_get frX10_32 dX10_parse_59 dm7_0 en7_0 rfl ?_
      refine ev_put fwX10_25 dX10_parse_62 dm7_0 en7_0 rfl rfl rfl (Nat.le_of_ble_eq_true rfl) ?_
      refine ev_aload_n (j := 0) dX10_parse_65 rfl rfl ?_
      refine ev_iconst dX10_parse_66 ?_
      refine ev_put fwX10_29 dX10_parse_67 dm7_0 en7_0 rfl rfl rfl (Nat.le_of_ble_eq_true rfl) ?_
      exact ev_vret dX10_parse_70 (by decide) rfl h12
    · have h13 := h10 c11
      refine ev_iconst dX10_parse_54 ?_
      refine ev_goto 62 dX10_parse_55 (by decide) ?_
      refine ev_put fwX10_25 dX10_parse_62 dm7_0 en7_0 rfl rfl rfl (Nat.le_of_ble_eq_true rfl) ?_
      refine ev_aload_n (j := 0) dX10_parse_65 rfl rfl ?_
      refine ev_iconst dX10_parse_66 ?_
      refine ev_put fwX10_29 dX10_parse_67 dm7_0 en7_0 rfl rfl rfl (Nat.le_of_ble_eq_true rfl) ?_
      exact ev_vret dX10_parse_70 (by decide) rfl h13
  · have h14 := h4 c5
    refine ev_iload_n (j := 1) dX10_parse_23 rfl rfl ?_
    obtain ⟨s15, h16⟩ := h14
    obtain ⟨h17, h18⟩ := h16
    refine ev_if_eq 49 dX10_parse_24 (by decide) s15 (fun c19 => ?_) (fun c19 => ?_)
    · have h20 := h17 c19
      refine ev_aload_n (j := 0) dX10_parse_49 rfl rfl ?_
      refine ev_iload_n (j := 1) dX10_parse_50 rfl rfl ?_
      refine ev_if_eq 58 dX10_parse_51 (by decide) s15 (fun _ => ?_) (fun c9 => absurd c19 c9)
      refine ev_aload_n (j := 0) dX10_parse_58 rfl rfl ?_
      refine ev_get frX10_32 dX10_parse_59 dm7_0 en7_0 rfl ?_
      refine ev_put fwX10_25 dX10_parse_62 dm7_0 en7_0 rfl rfl rfl (Nat.le_of_ble_eq_true rfl) ?_
      refine ev_aload_n (j := 0) dX10_parse_65 rfl rfl ?_
      refine ev_iconst dX10_parse_66 ?_
      refine ev_put fwX10_29 dX10_parse_67 dm7_0 en7_0 rfl rfl rfl (Nat.le_of_ble_eq_true rfl) ?_
      exact ev_vret dX10_parse_70 (by decide) rfl h20
    · have h21 := h18 c19
      refine ev_aload_n (j := 0) dX10_parse_27 rfl rfl ?_
      refine ev_get frX10_32 dX10_parse_28 dm7_0 en7_0 rfl ?_
      refine ev_aload_n (j := 0) dX10_parse_31 rfl rfl ?_
      refine ev_get frX10_29 dX10_parse_32 dm7_0 en7_0 rfl ?_
      obtain ⟨s22, s23, h24⟩ := h21
      obtain ⟨h25, h26⟩ := h24
      refine ev_icmp_ge 49 dX10_parse_35 (by decide) s22 s23 (fun c27 => ?_) (fun c27 => ?_)
      · have h28 := h25 c27
        refine ev_aload_n (j := 0) dX10_parse_49 rfl rfl ?_
        refine ev_iload_n (j := 1) dX10_parse_50 rfl rfl ?_
        refine ev_if_eq 58 dX10_parse_51 (by decide) s15 (fun c9 => absurd c9 c19) (fun _ => ?_)
        refine ev_iconst dX10_parse_54 ?_
        refine ev_goto 62 dX10_parse_55 (by decide) ?_
        refine ev_put fwX10_25 dX10_parse_62 dm7_0 en7_0 rfl rfl rfl (Nat.le_of_ble_eq_true rfl) ?_
        refine ev_aload_n (j := 0) dX10_parse_65 rfl rfl ?_
        refine ev_iconst dX10_parse_66 ?_
        refine ev_put fwX10_29 dX10_parse_67 dm7_0 en7_0 rfl rfl rfl (Nat.le_of_ble_eq_true rfl) ?_
        exact ev_vret dX10_parse_70 (by decide) rfl h28
      · have h29 := h26 c27
        refine ev_aload_n (j := 0) dX10_parse_38 rfl rfl ?_
        refine ev_callVI (As := []) (st := []) mfX10_parseTrip mlX10_38 dX10_parse_39 rfl dm7_0 en7_0 rfl rfl rfl (by decide) (by decide) (by decide) (Nat.le_of_ble_eq_true rfl) (fun _ _ z => z.elim) h29 (fun x32 M30 h31 => ?_)
        refine ev_istore_n dX10_parse_42 rfl (by decide) rfl ?_
        refine ev_iinc (j := 2) dX10_parse_43 rfl (by decide) rfl ?_
        refine ev_goto 17 dX10_parse_46 (by decide) ?_
        exact ev_sub [2, 1, 0] rfl h31
def eX10_parseNumber (G : GT) (K : List Value → Mem → Prop) (X : String → Mem → Prop) (pc : Nat) (lv : List (Nat × Value)) (st : List Value) (M : Mem) : Prop := Ex G zX10_parseNumber 1 0 K X 0 pc lv st M
set_option maxRecDepth 20000 in
set_option maxHeartbeats 4000000 in
theorem bX10_parseNumber {G : GT} {K : List Value → Mem → Prop} {X : String → Mem → Prop} {M : Mem} {v1 : Int} (h : I32 (M 7 0 0 2) ∧ I32 (M 7 0 0 1) ∧ ((¬ (M 7 0 0 2) < (M 7 0 0 1) → K [iv (-1)] M) ∧ ((M 7 0 0 2) < (M 7 0 0 1) → 0 ≤ M 7 0 0 2 ∧ M 7 0 0 2 < 60 ∧ Call G 0 0 zX10_isDigit [iv (M 7 0 1 (M 7 0 0 2))] M (kI (fun x14 M12 => I32 x14 ∧ ((¬ x14 = 0 → 0 ≤ M12 7 0 0 2 ∧ M12 7 0 0 2 < 60 ∧ eX10_parseNumber G K X 51 [(0, rr G 7 0 0), (1, iv v1), (2, iv ((M12 7 0 1 (M12 7 0 0 2)) - 48))] [] (wr M12 7 0 0 2 ((M12 7 0 0 2) + 1))) ∧ (x14 = 0 → K [iv (-1)] M12)))) noX))) : Call G 1 0 zX10_parseNumber [rr G 7 0 0, iv v1] M K X := by
  refine call_intro (lv := [(0, rr G 7 0 0), (1, iv v1)]) (by decide) rfl (Nat.le_of_ble_eq_true rfl) rfl ?_
  refine ev_aload_n (j := 0) dX10_parseNumber_0 rfl rfl ?_
  refine ev_get frX10_32 dX10_parseNumber_1 dm7_0 en7_0 rfl ?_
  refine ev_aload_n (j := 0) dX10_parseNumber_4 rfl rfl ?_
  refine ev_get frX10_29 dX10_parseNumber_5 dm7_0 en7_0 rfl ?_
  obtain ⟨s1, s2, h3⟩ := h
  obtain ⟨h4, h5⟩ := h3
  refine ev_icmp_ge 26 dX10_parseNumber_8 (by decide) s1 s2 (fun c6 => ?_) (fun c6 => ?_)
  · have h7 := h4 c6
    refine ev_iconst dX10_parseNumber_26 ?_
    exact ev_iret dX10_parseNumber_27 (by decide) rfl h7
  · have h8 := h5 c6
    refine ev_aload_n (j := 0) dX10_parseNumber_11 rfl rfl ?_
    refine ev_get frX10_11 dX10_parseNumber_12 dm7_0 en7_0 rfl ?_
    refine ev_aload_n (j := 0) dX10_parseNumber_15 rfl rfl ?_
    refine ev_get frX10_32 dX10_parseNumber_16 dm7_0 en7_0 rfl ?_
    obtain ⟨s9, s10, h11⟩ := h8
    refine ev_cald dX10_parseNumber_19 dm7_1 ar7_1 (by decide) s9 s10 ?_
    refine ev_callSI (As := [iv (M 7 0 1 (M 7 0 0 2))]) (st := []) mfX10_isDigit mlX10_50 dX10_parseNumber_20 rfl rfl (by decide) (by decide) (by decide) (Nat.le_of_ble_eq_true rfl) (fun _ _ z => z.elim) h11 (fun x14 M12 h13 => ?_)
    obtain ⟨s15, h16⟩ := h13
    obtain ⟨h17, h18⟩ := h16
    refine ev_if_ne 28 dX10_parseNumber_23 (by decide) s15 (fun c19 => ?_) (fun c19 => ?_)
    · have h20 := h17 c19
      refine ev_aload_n (j := 0) dX10_parseNumber_28 rfl rfl ?_
      refine ev_get frX10_11 dX10_parseNumber_29 dm7_0 en7_0 rfl ?_
      refine ev_aload_n (j := 0) dX10_parseNumber_32 rfl rfl ?_
      refine ev_get frX10_32 dX10_parseNumber_33 dm7_0 en7_0 rfl ?_
      obtain ⟨s21, s22, h23⟩ := h20
      refine ev_cald dX10_parseNumber_36 dm7_1 ar7_1 (by decide) s21 s22 ?_
      refine ev_bipush dX10_parseNumber_37 (by decide) ?_
      refine ev_isub dX10_parseNumber_39 ?_
      refine ev_istore_n dX10_parseNumber_40 rfl (by decide) rfl ?_
      refine ev_aload_n (j := 1) dX10_parseNumber_41 rfl rfl ?_
      refine ev_dup dX10_parseNumber_42 rfl ?_
      refine ev_get frX10_32 dX10_parseNumber_43 dm7_0 en7_0 rfl ?_
      refine ev_iconst dX10_parseNumber_46 ?_
      refine ev_iadd dX10_parseNumber_47 ?_
      refine ev_put fwX10_32 dX10_parseNumber_48 dm7_0 en7_0 rfl rfl rfl (Nat.le_of_ble_eq_true rfl) ?_
      exact ev_sub [1, 2, 0] rfl h23
    · have h24 := h18 c19
      refine ev_iconst dX10_parseNumber_26 ?_
      exact ev_iret dX10_parseNumber_27 (by decide) rfl h24
set_option maxRecDepth 20000 in
set_option maxHeartbeats 4000000 in
theorem bX10_parseNumber_51 {G : GT} {K : List Value → Mem → Prop} {X : String → Mem → Prop} {M : Mem} {v1 v2 : Int} (h : I32 v2 ∧ ((¬ 0 < v2 → K [iv v2] M) ∧ (0 < v2 → I32 (M 7 0 0 2) ∧ I32 (M 7 0 0 1) ∧ ((¬ (M 7 0 0 2) < (M 7 0 0 1) → K [iv v2] M) ∧ ((M 7 0 0 2) < (M 7 0 0 1) → 0 ≤ M 7 0 0 2 ∧ M 7 0 0 2 < 60 ∧ Call G 0 0 zX10_isDigit [iv (M 7 0 1 (M 7 0 0 2))] M (kI (fun x21 M19 => I32 x21 ∧ ((x21 = 0 → K [iv v2] M19) ∧ (¬ x21 = 0 → 0 ≤ M19 7 0 0 2 ∧ M19 7 0 0 2 < 60 ∧ I32 (((10 * v2) + (M19 7 0 1 (M19 7 0 0 2))) - 48) ∧ I32 v1 ∧ ((¬ v1 < (((10 * v2) + (M19 7 0 1 (M19 7 0 0 2))) - 48) → eX10_parseNumber G K X 51 [(0, rr G 7 0 0), (1, iv v1), (2, iv (((10 * v2) + (M19 7 0 1 (M19 7 0 0 2))) - 48))] [] (wr M19 7 0 0 2 ((M19 7 0 0 2) + 1))) ∧ (v1 < (((10 * v2) + (M19 7 0 1 (M19 7 0 0 2))) - 48) → K [iv (-1)] M19)))))) noX))))) : eX10_parseNumber G K X 51 [(0, rr G 7 0 0), (1, iv v1), (2, iv v2)] [] M := by
  show Ex G zX10_parseNumber 1 0 K X 0 51 [(0, rr G 7 0 0), (1, iv v1), (2, iv v2)] [] M
  refine ev_iload_n (j := 2) dX10_parseNumber_51 rfl rfl ?_
  obtain ⟨s1, h2⟩ := h
  obtain ⟨h3, h4⟩ := h2
  refine ev_if_le 121 dX10_parseNumber_52 (by decide) s1 (fun c5 => ?_) (fun c5 => ?_)
  · have h6 := h3 c5
    refine ev_iload_n (j := 2) dX10_parseNumber_121 rfl rfl ?_
    exact ev_iret dX10_parseNumber_122 (by decide) rfl h6
  · have h7 := h4 c5
    refine ev_aload_n (j := 0) dX10_parseNumber_55 rfl rfl ?_
    refine ev_get frX10_32 dX10_parseNumber_56 dm7_0 en7_0 rfl ?_
    refine ev_aload_n (j := 0) dX10_parseNumber_59 rfl rfl ?_
    refine ev_get frX10_29 dX10_parseNumber_60 dm7_0 en7_0 rfl ?_
    obtain ⟨s8, s9, h10⟩ := h7
    obtain ⟨h11, h12⟩ := h10
    refine ev_icmp_ge 121 dX10_parseNumber_63 (by decide) s8 s9 (fun c13 => ?_) (fun c13 => ?_)
    · have h14 := h11 c13
      refine ev_iload_n (j := 2) dX10_parseNumber_121 rfl rfl ?_
      exact ev_iret dX10_parseNumber_122 (by decide) rfl h14
    · have h15 := h12 c13
      refine ev_aload_n (j := 0) dX10_parseNumber_66 rfl rfl ?_
      refine ev_get frX10_11 dX10_parseNumber_67 dm7_0 en7_0 rfl ?_
      refine ev_aload_n (j := 0) dX10_parseNumber_70 rfl rfl ?_
      refine ev_get frX10_32 dX10_parseNumber_71 dm7_0 en7_0 rfl ?_
      obtain ⟨s16, s17, h18⟩ := h15
      refine ev_cald dX10_parseNumber_74 dm7_1 ar7_1 (by decide) s16 s17 ?_
      refine ev_callSI (As := [iv (M 7 0 1 (M 7 0 0 2))]) (st := []) mfX10_isDigit mlX10_50 dX10_parseNumber_75 rfl rfl (by decide) (by decide) (by decide) (Nat.le_of_ble_eq_true rfl) (fun _ _ z => z.elim) h18 (fun x21 M19 h20 => ?_)
      obtain ⟨s22, h23⟩ := h20
      obtain ⟨h24, h25⟩ := h23
      refine ev_if_eq 121 dX10_parseNumber_78 (by decide) s22 (fun c26 => ?_) (fun c26 => ?_)
      · have h27 := h24 c26
        refine ev_iload_n (j := 2) dX10_parseNumber_121 rfl rfl ?_
        exact ev_iret dX10_parseNumber_122 (by decide) rfl h27
      · have h28 := h25 c26
        refine ev_bipush dX10_parseNumber_81 (by decide) ?_
        refine ev_iload_n (j := 2) dX10_parseNumber_83 rfl rfl ?_
        refine ev_imul dX10_parseNumber_84 ?_
        refine ev_aload_n (j := 0) dX10_parseNumber_85 rfl rfl ?_
        refine ev_get frX10_11 dX10_parseNumber_86 dm7_0 en7_0 rfl ?_
        refine ev_aload_n (j := 0) dX10_parseNumber_89 rfl rfl ?_
        refine ev_get frX10_32 dX10_parseNumber_90 dm7_0 en7_0 rfl ?_
        obtain ⟨s29, s30, h31⟩ := h28
        refine ev_cald dX10_parseNumber_93 dm7_1 ar7_1 (by decide) s29 s30 ?_
        refine ev_iadd dX10_parseNumber_94 ?_
        refine ev_bipush dX10_parseNumber_95 (by decide) ?_
        refine ev_isub dX10_parseNumber_97 ?_
        refine ev_istore_n dX10_parseNumber_98 rfl (by decide) rfl ?_
        refine ev_iload_n (j := 0) dX10_parseNumber_99 rfl rfl ?_
        refine ev_iload_n (j := 2) dX10_parseNumber_100 rfl rfl ?_
        obtain ⟨s32, s33, h34⟩ := h31
        obtain ⟨h35, h36⟩ := h34
        refine ev_icmp_le 106 dX10_parseNumber_101 (by decide) s32 s33 (fun c37 => ?_) (fun c37 => ?_)
        · have h38 := h35 c37
          refine ev_iload_n (j := 0) dX10_parseNumber_106 rfl rfl ?_
          refine ev_istore_n dX10_parseNumber_107 rfl (by decide) rfl ?_
          refine ev_aload_n (j := 2) dX10_parseNumber_108 rfl rfl ?_
          refine ev_dup dX10_parseNumber_109 rfl ?_
          refine ev_get frX10_32 dX10_parseNumber_110 dm7_0 en7_0 rfl ?_
          refine ev_iconst dX10_parseNumber_113 ?_
          refine ev_iadd dX10_parseNumber_114 ?_
          refine ev_put fwX10_32 dX10_parseNumber_115 dm7_0 en7_0 rfl rfl rfl (Nat.le_of_ble_eq_true rfl) ?_
          refine ev_goto 51 dX10_parseNumber_118 (by decide) ?_
          exact ev_sub [2, 3, 0] rfl h38
        · have h39 := h36 c37
          refine ev_iconst dX10_parseNumber_104 ?_
          exact ev_iret dX10_parseNumber_105 (by decide) rfl h39
def eX10_parseTrip (G : GT) (K : List Value → Mem → Prop) (X : String → Mem → Prop) (pc : Nat) (lv : List (Nat × Value)) (st : List Value) (M : Mem) : Prop := Ex G zX10_parseTrip 2 0 K X 0 pc lv st M
set_option maxRecDepth 20000 in
set_option maxHeartbeats 4000000 in
theorem bX10_parseTrip {G : GT} {K : List Value → Mem → Prop} {X : String → Mem → Prop} {M : Mem} (h : Call G 1 0 zX10_parseNumber [rr G 7 0 0, iv 11] M (kI (fun x3 M1 => I32 x3 ∧ ((x3 = (-1) → K [iv 0] M1) ∧ (¬ x3 = (-1) → Call G 0 0 zX10_passes [rr G 7 0 0, iv 45] M1 (kI (fun x13 M11 => I32 x13 ∧ ((¬ x13 = 0 → Call G 1 0 zX10_parseNumber [rr G 7 0 0, iv 11] M11 (kI (fun x22 M20 => I32 x22 ∧ ((x22 = (-1) → K [iv 0] M20) ∧ (¬ x22 = (-1) → Call G 0 0 zX10_passes [rr G 7 0 0, iv 64] M20 (kI (fun x32 M30 => I32 x32 ∧ ((¬ x32 = 0 → Call G 1 0 zX10_parseNumber [rr G 7 0 0, iv 1439] M30 (kI (fun x41 M39 => I32 x41 ∧ ((x41 = (-1) → K [iv 0] M39) ∧ (¬ x41 = (-1) → Call G 0 0 zX10_passes [rr G 7 0 0, iv 59] M39 (kI (fun x51 M49 => I32 x51 ∧ ((x51 = 0 → K [iv 0] M49) ∧ (¬ x51 = 0 → I32 (M49 7 0 0 6) ∧ (((M49 7 0 0 6) < 10 → 0 ≤ M49 7 0 0 6 ∧ M49 7 0 0 6 < 10 ∧ ∀ M68 : Mem, M68 = wr (wr (wr M49 7 0 2 (M49 7 0 0 6) x3) 7 0 3 (M49 7 0 0 6) x22) 7 0 4 (M49 7 0 0 6) x41 → K [iv 1] (wr M68 7 0 0 6 ((M68 7 0 0 6) + 1))) ∧ (¬ (M49 7 0 0 6) < 10 → K [iv 0] M49)))))) noX)))) noX) ∧ (x32 = 0 → K [iv 0] M30)))) noX)))) noX) ∧ (x13 = 0 → K [iv 0] M11)))) noX)))) noX) : Call G 2 0 zX10_parseTrip [rr G 7 0 0] M K X := by
  refine call_intro (lv := [(0, rr G 7 0 0)]) (by decide) rfl (Nat.le_of_ble_eq_true rfl) rfl ?_
  refine ev_aload_n (j := 0) dX10_parseTrip_0 rfl rfl ?_
  refine ev_bipush dX10_parseTrip_1 (by decide) ?_
  refine ev_callVI (As := [iv 11]) (st := []) mfX10_parseNumber mlX10_42 dX10_parseTrip_3 rfl dm7_0 en7_0 rfl rfl rfl (by decide) (by decide) (by decide) (Nat.le_of_ble_eq_true rfl) (fun _ _ z => z.elim) h (fun x3 M1 h2 => ?_)
  refine ev_istore_n dX10_parseTrip_6 rfl (by decide) rfl ?_
  refine ev_iload_n (j := 0) dX10_parseTrip_7 rfl rfl ?_
  refine ev_iconst dX10_parseTrip_8 ?_
  obtain ⟨s4, h5⟩ := h2
  obtain ⟨h6, h7⟩ := h5
  refine ev_icmp_eq 21 dX10_parseTrip_9 (by decide) s4 ⟨by decide, by decide⟩ (fun c8 => ?_) (fun c8 => ?_)
  · have h9 := h6 c8
    refine ev_iconst dX10_parseTrip_21 ?_
    exact ev_zret dX10_parseTrip_22 (by decide) rfl (by decide) h9
  · have h10 := h7 c8
    refine ev_aload_n (j := 1) dX10_parseTrip_12 rfl rfl ?_
    refine ev_bipush dX10_parseTrip_13 (by decide) ?_
    refine ev_callVI (As := [iv 45]) (st := []) mfX10_passes mlX10_46 dX10_parseTrip_15 rfl dm7_0 en7_0 rfl rfl rfl (by decide) (by decide) (by decide) (Nat.le_of_ble_eq_true rfl) (fun _ _ z => z.elim) h10 (fun x13 M11 h12 => ?_)
    obtain ⟨s14, h15⟩ := h12
    obtain ⟨h16, h17⟩ := h15
    refine ev_if_ne 23 dX10_parseTrip_18 (by decide) s14 (fun c18 => ?_) (fun c18 => ?_)
    · have h19 := h16 c18
      refine ev_aload_n (j := 1) dX10_parseTrip_23 rfl rfl ?_
      refine ev_bipush dX10_parseTrip_24 (by decide) ?_
      refine ev_callVI (As := [iv 11]) (st := []) mfX10_parseNumber mlX10_42 dX10_parseTrip_26 rfl dm7_0 en7_0 rfl rfl rfl (by decide) (by decide) (by decide) (Nat.le_of_ble_eq_true rfl) (fun _ _ z => z.elim) h19 (fun x22 M20 h21 => ?_)
      refine ev_istore_n dX10_parseTrip_29 rfl (by decide) rfl ?_
      refine ev_iload_n (j := 0) dX10_parseTrip_30 rfl rfl ?_
      refine ev_iconst dX10_parseTrip_31 ?_
      obtain ⟨s23, h24⟩ := h21
      obtain ⟨h25, h26⟩ := h24
      refine ev_icmp_eq 44 dX10_parseTrip_32 (by decide) s23 ⟨by decide, by decide⟩ (fun c27 => ?_) (fun c27 => ?_)
      · have h28 := h25 c27
        refine ev_iconst dX10_parseTrip_44 ?_
        exact ev_zret dX10_parseTrip_45 (by decide) rfl (by decide) h28
      · have h29 := h26 c27
        refine ev_aload_n (j := 2) dX10_parseTrip_35 rfl rfl ?_
        refine ev_bipush dX10_parseTrip_36 (by decide) ?_
        refine ev_callVI (As := [iv 64]) (st := []) mfX10_passes mlX10_46 dX10_parseTrip_38 rfl dm7_0 en7_0 rfl rfl rfl (by decide) (by decide) (by decide) (Nat.le_of_ble_eq_true rfl) (fun _ _ z => z.elim) h29 (fun x32 M30 h31 => ?_)
        obtain ⟨s33, h34⟩ := h31
        obtain ⟨h35, h36⟩ := h34
        refine ev_if_ne 46 dX10_parseTrip_41 (by decide) s33 (fun c37 => ?_) (fun c37 => ?_)
        · have h38 := h35 c37
          refine ev_aload_n (j := 2) dX10_parseTrip_46 rfl rfl ?_
          refine ev_sipush dX10_parseTrip_47 (by decide) ?_
          refine ev_callVI (As := [iv 1439]) (st := []) mfX10_parseNumber mlX10_42 dX10_parseTrip_50 rfl dm7_0 en7_0 rfl rfl rfl (by decide) (by decide) (by decide) (Nat.le_of_ble_eq_true rfl) (fun _ _ z => z.elim) h38 (fun x41 M39 h40 => ?_)
          refine ev_istore_n dX10_parseTrip_53 rfl (by decide) rfl ?_
          refine ev_iload_n (j := 0) dX10_parseTrip_54 rfl rfl ?_
          refine ev_iconst dX10_parseTrip_55 ?_
          obtain ⟨s42, h43⟩ := h40
          obtain ⟨h44, h45⟩ := h43
          refine ev_icmp_eq 77 dX10_parseTrip_56 (by decide) s42 ⟨by decide, by decide⟩ (fun c46 => ?_) (fun c46 => ?_)
          · have h47 := h44 c46
            refine ev_iconst dX10_parseTrip_77 ?_
            exact ev_zret dX10_parseTrip_78 (by decide) rfl (by decide) h47
          · have h48 := h45 c46
            refine ev_aload_n (j := 3) dX10_parseTrip_59 rfl rfl ?_
            refine ev_bipush dX10_parseTrip_60 (by decide) ?_
            refine ev_callVI (As := [iv 59]) (st := []) mfX10_passes mlX10_46 dX10_parseTrip_62 rfl dm7_0 en7_0 rfl rfl rfl (by decide) (by decide) (by decide) (Nat.le_of_ble_eq_true rfl) (fun _ _ z => z.elim) h48 (fun x51 M49 h50 => ?_)
            obtain ⟨s52, h53⟩ := h50
            obtain ⟨h54, h55⟩ := h53
            refine ev_if_eq 77 dX10_parseTrip_65 (by decide) s52 (fun c56 => ?_) (fun c56 => ?_)
            · have h57 := h54 c56
              refine ev_iconst dX10_parseTrip_77 ?_
              exact ev_zret dX10_parseTrip_78 (by decide) rfl (by decide) h57
            · have h58 := h55 c56
              refine ev_aload_n (j := 3) dX10_parseTrip_68 rfl rfl ?_
              refine ev_get frX10_35 dX10_parseTrip_69 dm7_0 en7_0 rfl ?_
              refine ev_bipush dX10_parseTrip_72 (by decide) ?_
              obtain ⟨s59, h60⟩ := h58
              obtain ⟨h61, h62⟩ := h60
              refine ev_icmp_lt 79 dX10_parseTrip_74 (by decide) s59 ⟨by decide, by decide⟩ (fun c63 => ?_) (fun c63 => ?_)
              · have h64 := h61 c63
                refine ev_aload_n (j := 3) dX10_parseTrip_79 rfl rfl ?_
                refine ev_get frX10_15 dX10_parseTrip_80 dm7_0 en7_0 rfl ?_
                refine ev_aload_n (j := 3) dX10_parseTrip_83 rfl rfl ?_
                refine ev_get frX10_35 dX10_parseTrip_84 dm7_0 en7_0 rfl ?_
                refine ev_iload_n (j := 2) dX10_parseTrip_87 rfl rfl ?_
                obtain ⟨s65, s66, h67⟩ := h64
                refine ev_iast dX10_parseTrip_88 dm7_2 ar7_2 (by decide) s65 s66 ?_
                refine ev_aload_n (j := 3) dX10_parseTrip_89 rfl rfl ?_
                refine ev_get frX10_19 dX10_parseTrip_90 dm7_0 en7_0 rfl ?_
                refine ev_aload_n (j := 3) dX10_parseTrip_93 rfl rfl ?_
                refine ev_get frX10_35 dX10_parseTrip_94 dm7_0 en7_0 rfl ?_
                refine ev_topI (b := M49 7 0 0 6) rfl ?_
                refine ev_iload_n (j := 1) dX10_parseTrip_97 rfl rfl ?_
                refine ev_iast dX10_parseTrip_98 dm7_3 ar7_3 (by decide) s65 s66 ?_
                refine ev_aload_n (j := 3) dX10_parseTrip_99 rfl rfl ?_
                refine ev_get frX10_22 dX10_parseTrip_100 dm7_0 en7_0 rfl ?_
                refine ev_aload_n (j := 3) dX10_parseTrip_103 rfl rfl ?_
                refine ev_get frX10_35 dX10_parseTrip_104 dm7_0 en7_0 rfl ?_
                refine ev_topI (b := M49 7 0 0 6) rfl ?_
                refine ev_iload_n (j := 0) dX10_parseTrip_107 rfl rfl ?_
                refine ev_iast dX10_parseTrip_108 dm7_4 ar7_4 (by decide) s65 s66 ?_
                obtain ⟨M68, e70⟩ : ∃ M68 : Mem, M68 = wr (wr (wr M49 7 0 2 (M49 7 0 0 6) x3) 7 0 3 (M49 7 0 0 6) x22) 7 0 4 (M49 7 0 0 6) x41 := ⟨_, rfl⟩
                have h69 := h67 _ e70
                refine ev_mem e70 ?_
                refine ev_aload_n (j := 3) dX10_parseTrip_109 rfl rfl ?_
                refine ev_dup dX10_parseTrip_110 rfl ?_
                refine ev_get frX10_35 dX10_parseTrip_111 dm7_0 en7_0 rfl ?_
                refine ev_iconst dX10_parseTrip_114 ?_
                refine ev_iadd dX10_parseTrip_115 ?_
                refine ev_put fwX10_35 dX10_parseTrip_116 dm7_0 en7_0 rfl rfl rfl (Nat.le_of_ble_eq_true rfl) ?_
                refine ev_iconst dX10_parseTrip_119 ?_
                exact ev_zret dX10_parseTrip_120 (by decide) rfl (by decide) h69
              · have h71 := h62 c63
                refine ev_iconst dX10_parseTrip_77 ?_
                exact ev_zret dX10_parseTrip_78 (by decide) rfl (by decide) h71
        · have h72 := h36 c37
          refine ev_iconst dX10_parseTrip_44 ?_
          exact ev_zret dX10_parseTrip_45 (by decide) rfl (by decide) h72
    · have h73 := h17 c18
      refine ev_iconst dX10_parseTrip_21 ?_
      exact ev_zret dX10_parseTrip_22 (by decide) rfl (by decide) h73
def eX10_passes (G : GT) (K : List Value → Mem → Prop) (X : String → Mem → Prop) (pc : Nat) (lv : List (Nat × Value)) (st : List Value) (M : Mem) : Prop := Ex G zX10_passes 0 0 K X 0 pc lv st M
set_option maxRecDepth 20000 in
set_option maxHeartbeats 4000000 in
theorem bX10_passes {G : GT} {K : List Value → Mem → Prop} {X : String → Mem → Prop} {M : Mem} {v1 : Int} (h : I32 (M 7 0 0 2) ∧ I32 (M 7 0 0 1) ∧ ((¬ (M 7 0 0 2) < (M 7 0 0 1) → K [iv 0] M) ∧ ((M 7 0 0 2) < (M 7 0 0 1) → 0 ≤ M 7 0 0 2 ∧ M 7 0 0 2 < 60 ∧ I32 (M 7 0 1 (M 7 0 0 2)) ∧ I32 v1 ∧ ((¬ (M 7 0 1 (M 7 0 0 2)) = v1 → K [iv 0] M) ∧ ((M 7 0 1 (M 7 0 0 2)) = v1 → K [iv 1] (wr M 7 0 0 2 ((M 7 0 0 2) + 1))))))) : Call G 0 0 zX10_passes [rr G 7 0 0, iv v1] M K X := by
  refine call_intro (lv := [(0, rr G 7 0 0), (1, iv v1)]) (by decide) rfl (Nat.le_of_ble_eq_true rfl) rfl ?_
  refine ev_aload_n (j := 0) dX10_passes_0 rfl rfl ?_
  refine ev_get frX10_32 dX10_passes_1 dm7_0 en7_0 rfl ?_
  refine ev_aload_n (j := 0) dX10_passes_4 rfl rfl ?_
  refine ev_get frX10_29 dX10_passes_5 dm7_0 en7_0 rfl ?_
  obtain ⟨s1, s2, h3⟩ := h
  obtain ⟨h4, h5⟩ := h3
  refine ev_icmp_ge 36 dX10_passes_8 (by decide) s1 s2 (fun c6 => ?_) (fun c6 => ?_)
  · have h7 := h4 c6
    refine ev_iconst dX10_passes_36 ?_
    exact ev_zret dX10_passes_37 (by decide) rfl (by decide) h7
  · have h8 := h5 c6
    refine ev_aload_n (j := 0) dX10_passes_11 rfl rfl ?_
    refine ev_get frX10_11 dX10_passes_12 dm7_0 en7_0 rfl ?_
    refine ev_aload_n (j := 0) dX10_passes_15 rfl rfl ?_
    refine ev_get frX10_32 dX10_passes_16 dm7_0 en7_0 rfl ?_
    obtain ⟨s9, s10, h11⟩ := h8
    refine ev_cald dX10_passes_19 dm7_1 ar7_1 (by decide) s9 s10 ?_
    refine ev_iload_n (j := 1) dX10_passes_20 rfl rfl ?_
    obtain ⟨s12, s13, h14⟩ := h11
    obtain ⟨h15, h16⟩ := h14
    refine ev_icmp_ne 36 dX10_passes_21 (by decide) s12 s13 (fun c17 => ?_) (fun c17 => ?_)
    · have h18 := h15 c17
      refine ev_iconst dX10_passes_36 ?_
      exact ev_zret dX10_passes_37 (by decide) rfl (by decide) h18
    · have h19 := h16 c17
      refine ev_aload_n (j := 0) dX10_passes_24 rfl rfl ?_
      refine ev_dup dX10_passes_25 rfl ?_
      refine ev_get frX10_32 dX10_passes_26 dm7_0 en7_0 rfl ?_
      refine ev_iconst dX10_passes_29 ?_
      refine ev_iadd dX10_passes_30 ?_
      refine ev_put fwX10_32 dX10_passes_31 dm7_0 en7_0 rfl rfl rfl (Nat.le_of_ble_eq_true rfl) ?_
      refine ev_iconst dX10_passes_34 ?_
      exact ev_zret dX10_passes_35 (by decide) rfl (by decide) h19
