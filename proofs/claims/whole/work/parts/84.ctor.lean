/-! ===== making: the constructors ===== -/
theorem clX0 : clOK 2 RX0 TX0 4 := ⟨rfl, inA_X0⟩
abbrev fsX0 : List Value := [.null, .null, .null, iv 0]
theorem fsX0_ok : ∀ j, j < 4 → defaultValue (tyX0 j) = vp_V fsX0 j := fun j hj => by
  match j, hj with
  | 0, _ => rfl
  | 1, _ => rfl
  | 2, _ => rfl
  | 3, _ => rfl
  | n + 4, hj => exact absurd hj (by omega)
theorem clX1 : clOK 3 RX1 TX1 11 := ⟨rfl, inA_X1⟩
abbrev fsX1 : List Value := [.null, .null, iv 0, iv 0, iv 0, .null, .null, .null, .null, .null, .null]
theorem fsX1_ok : ∀ j, j < 11 → defaultValue (tyX1 j) = vp_V fsX1 j := fun j hj => by
  match j, hj with
  | 0, _ => rfl
  | 1, _ => rfl
  | 2, _ => rfl
  | 3, _ => rfl
  | 4, _ => rfl
  | 5, _ => rfl
  | 6, _ => rfl
  | 7, _ => rfl
  | 8, _ => rfl
  | 9, _ => rfl
  | 10, _ => rfl
  | n + 11, hj => exact absurd hj (by omega)
theorem clX2 : clOK 4 RX2 TX2 4 := ⟨rfl, inA_X2⟩
abbrev fsX2 : List Value := [.null, .null, .null, iv 0]
theorem fsX2_ok : ∀ j, j < 4 → defaultValue (tyX2 j) = vp_V fsX2 j := fun j hj => by
  match j, hj with
  | 0, _ => rfl
  | 1, _ => rfl
  | 2, _ => rfl
  | 3, _ => rfl
  | n + 4, hj => exact absurd hj (by omega)
theorem clX3 : clOK 5 RX3 TX3 4 := ⟨rfl, inA_X3⟩
abbrev fsX3 : List Value := [.null, .null, iv 0, iv 0]
theorem fsX3_ok : ∀ j, j < 4 → defaultValue (tyX3 j) = vp_V fsX3 j := fun j hj => by
  match j, hj with
  | 0, _ => rfl
  | 1, _ => rfl
  | 2, _ => rfl
  | 3, _ => rfl
  | n + 4, hj => exact absurd hj (by omega)
theorem clX4 : clOK 6 RX4 TX4 4 := ⟨rfl, inA_X4⟩
abbrev fsX4 : List Value := [.null, .null, .null, .null]
theorem fsX4_ok : ∀ j, j < 4 → defaultValue (tyX4 j) = vp_V fsX4 j := fun j hj => by
  match j, hj with
  | 0, _ => rfl
  | 1, _ => rfl
  | 2, _ => rfl
  | 3, _ => rfl
  | n + 4, hj => exact absurd hj (by omega)
theorem clX5 : clOK 7 RX5 TX5 8 := ⟨rfl, inA_X5⟩
abbrev fsX5 : List Value := [.null, .null, .null, .null, .null, .null, .null, iv 0]
theorem fsX5_ok : ∀ j, j < 8 → defaultValue (tyX5 j) = vp_V fsX5 j := fun j hj => by
  match j, hj with
  | 0, _ => rfl
  | 1, _ => rfl
  | 2, _ => rfl
  | 3, _ => rfl
  | 4, _ => rfl
  | 5, _ => rfl
  | 6, _ => rfl
  | 7, _ => rfl
  | n + 8, hj => exact absurd hj (by omega)
theorem clX6 : clOK 8 RX6 TX6 5 := ⟨rfl, inA_X6⟩
abbrev fsX6 : List Value := [.null, .null, .null, .null, iv 0]
theorem fsX6_ok : ∀ j, j < 5 → defaultValue (tyX6 j) = vp_V fsX6 j := fun j hj => by
  match j, hj with
  | 0, _ => rfl
  | 1, _ => rfl
  | 2, _ => rfl
  | 3, _ => rfl
  | 4, _ => rfl
  | n + 5, hj => exact absurd hj (by omega)
theorem clX7 : clOK 9 RX7 TX7 3 := ⟨rfl, inA_X7⟩
abbrev fsX7 : List Value := [.null, .null, iv 0]
theorem fsX7_ok : ∀ j, j < 3 → defaultValue (tyX7 j) = vp_V fsX7 j := fun j hj => by
  match j, hj with
  | 0, _ => rfl
  | 1, _ => rfl
  | 2, _ => rfl
  | n + 3, hj => exact absurd hj (by omega)
theorem clX8 : clOK 10 RX8 TX8 5 := ⟨rfl, inA_X8⟩
abbrev fsX8 : List Value := [.null, .null, .null, .null, iv 0]
theorem fsX8_ok : ∀ j, j < 5 → defaultValue (tyX8 j) = vp_V fsX8 j := fun j hj => by
  match j, hj with
  | 0, _ => rfl
  | 1, _ => rfl
  | 2, _ => rfl
  | 3, _ => rfl
  | 4, _ => rfl
  | n + 5, hj => exact absurd hj (by omega)
theorem clX9 : clOK 11 RX9 TX9 4 := ⟨rfl, inA_X9⟩
abbrev fsX9 : List Value := [.null, .null, .null, .null]
theorem fsX9_ok : ∀ j, j < 4 → defaultValue (tyX9 j) = vp_V fsX9 j := fun j hj => by
  match j, hj with
  | 0, _ => rfl
  | 1, _ => rfl
  | 2, _ => rfl
  | 3, _ => rfl
  | n + 4, hj => exact absurd hj (by omega)
theorem clX10 : clOK 12 RX10 TX10 8 := ⟨rfl, inA_X10⟩
abbrev fsX10 : List Value := [.null, iv 0, iv 0, .null, .null, .null, iv 0, iv 0]
theorem fsX10_ok : ∀ j, j < 8 → defaultValue (tyX10 j) = vp_V fsX10 j := fun j hj => by
  match j, hj with
  | 0, _ => rfl
  | 1, _ => rfl
  | 2, _ => rfl
  | 3, _ => rfl
  | 4, _ => rfl
  | 5, _ => rfl
  | 6, _ => rfl
  | 7, _ => rfl
  | n + 8, hj => exact absurd hj (by omega)
theorem clX11 : clOK 13 RX11 TX11 9 := ⟨rfl, inA_X11⟩
abbrev fsX11 : List Value := [.null, .null, .null, .null, .null, .null, .null, .null, iv 0]
theorem fsX11_ok : ∀ j, j < 9 → defaultValue (tyX11 j) = vp_V fsX11 j := fun j hj => by
  match j, hj with
  | 0, _ => rfl
  | 1, _ => rfl
  | 2, _ => rfl
  | 3, _ => rfl
  | 4, _ => rfl
  | 5, _ => rfl
  | 6, _ => rfl
  | 7, _ => rfl
  | 8, _ => rfl
  | n + 9, hj => exact absurd hj (by omega)
theorem clX12 : clOK 14 RX12 TX12 39 := ⟨rfl, inA_X12⟩
abbrev fsX12 : List Value := [.null, .null, .null, iv 0, .null, iv 0, iv 0, iv 0, .null, .null, iv 0, .null, .null, .null, .null, .null, .null, .null, iv 0, iv 0, iv 0, iv 0, iv 0, iv 0, .null, .null, .null, .null, .null, .null, .null, .null, .null, iv 0, iv 0, iv 0, iv 0, .null, iv 0]
theorem fsX12_ok : ∀ j, j < 39 → defaultValue (tyX12 j) = vp_V fsX12 j := fun j hj => by
  match j, hj with
  | 0, _ => rfl
  | 1, _ => rfl
  | 2, _ => rfl
  | 3, _ => rfl
  | 4, _ => rfl
  | 5, _ => rfl
  | 6, _ => rfl
  | 7, _ => rfl
  | 8, _ => rfl
  | 9, _ => rfl
  | 10, _ => rfl
  | 11, _ => rfl
  | 12, _ => rfl
  | 13, _ => rfl
  | 14, _ => rfl
  | 15, _ => rfl
  | 16, _ => rfl
  | 17, _ => rfl
  | 18, _ => rfl
  | 19, _ => rfl
  | 20, _ => rfl
  | 21, _ => rfl
  | 22, _ => rfl
  | 23, _ => rfl
  | 24, _ => rfl
  | 25, _ => rfl
  | 26, _ => rfl
  | 27, _ => rfl
  | 28, _ => rfl
  | 29, _ => rfl
  | 30, _ => rfl
  | 31, _ => rfl
  | 32, _ => rfl
  | 33, _ => rfl
  | 34, _ => rfl
  | 35, _ => rfl
  | 36, _ => rfl
  | 37, _ => rfl
  | 38, _ => rfl
  | n + 39, hj => exact absurd hj (by omega)
theorem acI : Cond.arrayClass .int ∈ lw_all := mem_all 166 (tb1 79 (by decide +kernel) rfl) (by decide +kernel)
theorem acZ : Cond.arrayClass .boolean ∈ lw_all := mem_all 167 (tb1 80 (by decide +kernel) rfl) (by decide +kernel)
theorem acC : Cond.arrayClass .char ∈ lw_all := mem_all 474 (tb2 147 (by decide +kernel) rfl) (by decide +kernel)
theorem eo_shape {G : GT} {Y : YT} {d mc ms w pc : Nat} {pre es' : List va_E} {lv : List (Nat × Value)} {st : List Value} {x0 : va_E} {tl tl' : List va_E} (h : tl = tl') (k : EvO G Y d mc ms pre es' w pc lv st x0 tl') : EvO G Y d mc ms pre es' w pc lv st x0 tl := by rw [h]; exact k
def blkX0 (G : GT) (q : Nat) : List va_E := .inr (2, [.ref (bG G + (q + 1 + 0)), .ref (bG G + (q + 1 + 1)), .ref (bG G + (q + 1 + 2)), iv 0]) :: ((([] ++ [.inl (cyG G 0, 6, .inl (fun _ => (0 : Int32)))]) ++ [.inl (cyG G 0, 6, .inl (fun _ => (0 : Int32)))]) ++ [.inl (cyG G 0, 6, .inl (fun _ => (0 : Int32)))])
theorem blkX0_len {G : GT} : ∀ q, (blkX0 G q).length = 4 := fun q => by simp only [blkX0, List.length_append, List.length_cons, List.length_nil, List.length_replicate, List.length_set]
set_option maxHeartbeats 20000000 in
theorem ce_X0 {G : GT} (hao : AO G) : ∀ pre : List va_E, CallE G 1 3 18 zX0_init [.ref (bG G + pre.length)] (pre ++ [.inr (2, fsX0)]) (pre ++ blkX0 G pre.length) := by
  intro pre
  refine eo_intro (by decide) rfl (Nat.le_of_ble_eq_true rfl) ?_
  refine ec_aload (j := 0) dX0_init_0 rfl rfl ?_
  refine ec_obj (inA_of (is := [250, 121, 122]) (by decide +kernel)) dX0_init_1 (by decide) (by decide) ?_
  refine ec_aload (j := 0) dX0_init_4 rfl rfl ?_
  refine ec_bipush (n := 6) dX0_init_5 (by decide) ?_
  refine eo_newa (t := 0) (n := 6) (ty := .int) (j := 0) dX0_init_7 rfl acI rfl rfl (fun _ => rfl) (by decide) (by decide) rfl (by decide) (by decide) ?_
  refine eo_put (k := 0) (ty := .array .int) tyX0 clX0 (by decide) (inA_of (is := [251]) (by decide +kernel)) tyX0_ok nmX0 rfl rfl (by decide +kernel) rfl rfl (Nat.le_of_ble_eq_true rfl) dX0_init_9 ?_
  refine ec_aload (j := 0) dX0_init_12 rfl rfl ?_
  refine ec_bipush (n := 6) dX0_init_13 (by decide) ?_
  refine eo_newa (t := 0) (n := 6) (ty := .int) (j := 1) dX0_init_15 rfl acI rfl rfl (fun _ => rfl) (by decide) (by decide) rfl (by decide) (by decide) ?_
  refine eo_put (k := 1) (ty := .array .int) tyX0 clX0 (by decide) (inA_of (is := [252]) (by decide +kernel)) tyX0_ok nmX0 rfl rfl (by decide +kernel) rfl rfl (Nat.le_of_ble_eq_true rfl) dX0_init_17 ?_
  refine ec_aload (j := 0) dX0_init_20 rfl rfl ?_
  refine ec_bipush (n := 6) dX0_init_21 (by decide) ?_
  refine eo_newa (t := 0) (n := 6) (ty := .int) (j := 2) dX0_init_23 rfl acI rfl rfl (fun _ => rfl) (by decide) (by decide) rfl (by decide) (by decide) ?_
  refine eo_put (k := 2) (ty := .array .int) tyX0 clX0 (by decide) (inA_of (is := [253]) (by decide +kernel)) tyX0_ok nmX0 rfl rfl (by decide +kernel) rfl rfl (Nat.le_of_ble_eq_true rfl) dX0_init_25 ?_
  exact ec_ret dX0_init_28 rfl (by show (pre ++ _ :: _).length ≤ _; rw [mid_len]; first | (simp only [List.length_append, List.length_cons, List.length_nil, List.length_replicate, List.length_set, blkX0_len]; omega) | (show pre.length + 1 + 3 ≤ pre.length + 1 + 3; omega)) (by decide) rfl
def blkX8 (G : GT) (q : Nat) : List va_E := .inr (10, [.ref (bG G + (q + 1 + 0)), .ref (bG G + (q + 1 + 1)), .ref (bG G + (q + 1 + 2)), .ref (bG G + (q + 1 + 3)), iv 0]) :: (((([] ++ [.inl (cyG G 0, 30, .inl (fun _ => (0 : Int32)))]) ++ [.inl (cyG G 0, 30, .inl (fun _ => (0 : Int32)))]) ++ [.inl (cyG G 0, 30, .inl (fun _ => (0 : Int32)))]) ++ [.inl (cyG G 1, 30, .inl (fun _ => (0 : Int32)))])
theorem blkX8_len {G : GT} : ∀ q, (blkX8 G q).length = 5 := fun q => by simp only [blkX8, List.length_append, List.length_cons, List.length_nil, List.length_replicate, List.length_set, blkX0_len]
set_option maxHeartbeats 20000000 in
theorem ce_X8 {G : GT} (hao : AO G) : ∀ pre : List va_E, CallE G 1 4 120 zX8_init [.ref (bG G + pre.length)] (pre ++ [.inr (10, fsX8)]) (pre ++ blkX8 G pre.length) := by
  intro pre
  refine eo_intro (by decide) rfl (Nat.le_of_ble_eq_true rfl) ?_
  refine ec_aload (j := 0) dX8_init_0 rfl rfl ?_
  refine ec_obj (inA_of (is := [173, 121, 122]) (by decide +kernel)) dX8_init_1 (by decide) (by decide) ?_
  refine ec_aload (j := 0) dX8_init_4 rfl rfl ?_
  refine ec_bipush (n := 30) dX8_init_5 (by decide) ?_
  refine eo_newa (t := 0) (n := 30) (ty := .int) (j := 0) dX8_init_7 rfl acI rfl rfl (fun _ => rfl) (by decide) (by decide) rfl (by decide) (by decide) ?_
  refine eo_put (k := 0) (ty := .array .int) tyX8 clX8 (by decide) (inA_of (is := [174]) (by decide +kernel)) tyX8_ok nmX8 rfl rfl (by decide +kernel) rfl rfl (Nat.le_of_ble_eq_true rfl) dX8_init_9 ?_
  refine ec_aload (j := 0) dX8_init_12 rfl rfl ?_
  refine ec_bipush (n := 30) dX8_init_13 (by decide) ?_
  refine eo_newa (t := 0) (n := 30) (ty := .int) (j := 1) dX8_init_15 rfl acI rfl rfl (fun _ => rfl) (by decide) (by decide) rfl (by decide) (by decide) ?_
  refine eo_put (k := 1) (ty := .array .int) tyX8 clX8 (by decide) (inA_of (is := [179]) (by decide +kernel)) tyX8_ok nmX8 rfl rfl (by decide +kernel) rfl rfl (Nat.le_of_ble_eq_true rfl) dX8_init_17 ?_
  refine ec_aload (j := 0) dX8_init_20 rfl rfl ?_
  refine ec_bipush (n := 30) dX8_init_21 (by decide) ?_
  refine eo_newa (t := 0) (n := 30) (ty := .int) (j := 2) dX8_init_23 rfl acI rfl rfl (fun _ => rfl) (by decide) (by decide) rfl (by decide) (by decide) ?_
  refine eo_put (k := 2) (ty := .array .int) tyX8 clX8 (by decide) (inA_of (is := [184]) (by decide +kernel)) tyX8_ok nmX8 rfl rfl (by decide +kernel) rfl rfl (Nat.le_of_ble_eq_true rfl) dX8_init_25 ?_
  refine ec_aload (j := 0) dX8_init_28 rfl rfl ?_
  refine ec_bipush (n := 30) dX8_init_29 (by decide) ?_
  refine eo_newa (t := 1) (n := 30) (ty := .boolean) (j := 3) dX8_init_31 rfl acZ rfl rfl (fun _ => rfl) (by decide) (by decide) rfl (by decide) (by decide) ?_
  refine eo_put (k := 3) (ty := .array .boolean) tyX8 clX8 (by decide) (inA_of (is := [190]) (by decide +kernel)) tyX8_ok nmX8 rfl rfl (by decide +kernel) rfl rfl (Nat.le_of_ble_eq_true rfl) dX8_init_33 ?_
  exact ec_ret dX8_init_36 rfl (by show (pre ++ _ :: _).length ≤ _; rw [mid_len]; first | (simp only [List.length_append, List.length_cons, List.length_nil, List.length_replicate, List.length_set, blkX0_len, blkX8_len]; omega) | (show pre.length + 1 + 4 ≤ pre.length + 1 + 4; omega)) (by decide) rfl
def blkX2 (G : GT) (q : Nat) : List va_E := .inr (4, [.ref (bG G + (q + 1 + 0)), .ref (bG G + (q + 1 + 1)), .ref (bG G + (q + 1 + 2)), iv 0]) :: ((([] ++ [.inl (cyG G 0, 10, .inl (fun _ => (0 : Int32)))]) ++ [.inl (cyG G 0, 10, .inl (fun _ => (0 : Int32)))]) ++ (aQ (cyG G 4) 10 (fun i => some (bG G + (q + 1 + 2) + 1 + i)) :: List.replicate 10 (.inl (cyG G 0, 30, .inl (fun _ => (0 : Int32))))))
theorem blkX2_len {G : GT} : ∀ q, (blkX2 G q).length = 14 := fun q => by simp only [blkX2, List.length_append, List.length_cons, List.length_nil, List.length_replicate, List.length_set, blkX0_len, blkX8_len]
set_option maxHeartbeats 20000000 in
theorem ce_X2 {G : GT} (hao : AO G) : ∀ pre : List va_E, CallE G 1 13 330 zX2_init [.ref (bG G + pre.length)] (pre ++ [.inr (4, fsX2)]) (pre ++ blkX2 G pre.length) := by
  intro pre
  refine eo_intro (by decide) rfl (Nat.le_of_ble_eq_true rfl) ?_
  refine ec_aload (j := 0) dX2_init_0 rfl rfl ?_
  refine ec_obj (inA_of (is := [216, 121, 122]) (by decide +kernel)) dX2_init_1 (by decide) (by decide) ?_
  refine ec_aload (j := 0) dX2_init_4 rfl rfl ?_
  refine ec_bipush (n := 10) dX2_init_5 (by decide) ?_
  refine eo_newa (t := 0) (n := 10) (ty := .int) (j := 0) dX2_init_7 rfl acI rfl rfl (fun _ => rfl) (by decide) (by decide) rfl (by decide) (by decide) ?_
  refine eo_put (k := 0) (ty := .array .int) tyX2 clX2 (by decide) (inA_of (is := [219]) (by decide +kernel)) tyX2_ok nmX2 rfl rfl (by decide +kernel) rfl rfl (Nat.le_of_ble_eq_true rfl) dX2_init_9 ?_
  refine ec_aload (j := 0) dX2_init_12 rfl rfl ?_
  refine ec_bipush (n := 10) dX2_init_13 (by decide) ?_
  refine eo_newa (t := 0) (n := 10) (ty := .int) (j := 1) dX2_init_15 rfl acI rfl rfl (fun _ => rfl) (by decide) (by decide) rfl (by decide) (by decide) ?_
  refine eo_put (k := 1) (ty := .array .int) tyX2 clX2 (by decide) (inA_of (is := [222]) (by decide +kernel)) tyX2_ok nmX2 rfl rfl (by decide +kernel) rfl rfl (Nat.le_of_ble_eq_true rfl) dX2_init_17 ?_
  refine ec_aload (j := 0) dX2_init_20 rfl rfl ?_
  refine ec_bipush (n := 10) dX2_init_21 (by decide) ?_
  refine ec_bipush (n := 30) dX2_init_23 (by decide) ?_
  refine eo_mna (n := 10) (k9 := 30) (j := 2) (inA_of (is := [217, 166]) (by decide +kernel)) hao dX2_init_25 (by decide) (by decide) rfl (by decide) (by decide) ?_
  refine eo_put (k := 2) (ty := .array (.array .int)) tyX2 clX2 (by decide) (inA_of (is := [227]) (by decide +kernel)) tyX2_ok nmX2 rfl rfl (by decide +kernel) rfl rfl (Nat.le_of_ble_eq_true rfl) dX2_init_29 ?_
  exact ec_ret dX2_init_32 rfl (by show (pre ++ _ :: _).length ≤ _; rw [mid_len]; first | (simp only [List.length_append, List.length_cons, List.length_nil, List.length_replicate, List.length_set, blkX0_len, blkX8_len, blkX2_len]; omega) | (show pre.length + 1 + 13 ≤ pre.length + 1 + 13; omega)) (by decide) rfl
theorem tell_trk (j : Nat) (hj : j < 12) : upd (upd (fun _ => (0 : Int32)) 0 (J 1)) 11 (J 1) j = (if j = 0 ∨ j = 11 then J 1 else J 0) := by
  have h : ∀ j, j < 12 → upd (upd (fun _ => (0 : Int32)) 0 (J 1)) 11 (J 1) j = (if j = 0 ∨ j = 11 then J 1 else J 0) := by decide +kernel
  exact h j hj
theorem tell_set (j : Nat) (hj : j < 3) : va_cpy (fun k => J (([2, 4, 1] : List Int).getD k 0)) (fun _ => (0 : Int32)) 0 0 3 j = J (([2, 4, 1] : List Int).getD j 0) := by
  have h : ∀ j, j < 3 → va_cpy (fun k => J (([2, 4, 1] : List Int).getD k 0)) (fun _ => (0 : Int32)) 0 0 3 j = J (([2, 4, 1] : List Int).getD j 0) := by decide +kernel
  exact h j hj
def blkX9 (G : GT) (q : Nat) : List va_E := .inr (11, [.ref (bG G + (q + 1 + 0)), .ref (bG G + (q + 1 + 1)), .ref (bG G + (q + 1 + 2)), .ref (bG G + (q + 1 + 3))]) :: (((([] ++ [.inl (cyG G 0, 11, .inl (fun _ => J 3))]) ++ [.inl (cyG G 0, 11, .inl (fun _ => (0 : Int32)))]) ++ [.inl (cyG G 1, 12, .inl (fun k => if k = 0 ∨ k = 11 then J 1 else J 0))]) ++ [.inl (cyG G 0, 3, .inl (fun k => J (([2, 4, 1] : List Int).getD k 0)))])
theorem blkX9_len {G : GT} : ∀ q, (blkX9 G q).length = 5 := fun q => by simp only [blkX9, List.length_append, List.length_cons, List.length_nil, List.length_replicate, List.length_set, blkX0_len, blkX8_len, blkX2_len]
set_option maxHeartbeats 20000000 in
theorem ce_X9 {G : GT} (hao : AO G) : ∀ pre : List va_E, CallE G 2 4 37 zX9_init [.ref (bG G + pre.length)] (pre ++ [.inr (11, fsX9)]) (pre ++ blkX9 G pre.length) := by
  intro pre
  refine eo_intro (by decide) rfl (Nat.le_of_ble_eq_true rfl) ?_
  refine ec_aload (j := 0) dX9_init_0 rfl rfl ?_
  refine ec_obj (inA_of (is := [134, 121, 122]) (by decide +kernel)) dX9_init_1 (by decide) (by decide) ?_
  refine ec_aload (j := 0) dX9_init_4 rfl rfl ?_
  refine ec_bipush (n := 11) dX9_init_5 (by decide) ?_
  refine eo_newa (t := 0) (n := 11) (ty := .int) (j := 0) dX9_init_7 rfl acI rfl rfl (fun _ => rfl) (by decide) (by decide) rfl (by decide) (by decide) ?_
  refine eo_put (k := 0) (ty := .array .int) tyX9 clX9 (by decide) (inA_of (is := [143]) (by decide +kernel)) tyX9_ok nmX9 rfl rfl (by decide +kernel) rfl rfl (Nat.le_of_ble_eq_true rfl) dX9_init_9 ?_
  refine ec_aload (j := 0) dX9_init_12 rfl rfl ?_
  refine ec_bipush (n := 11) dX9_init_13 (by decide) ?_
  refine eo_newa (t := 0) (n := 11) (ty := .int) (j := 1) dX9_init_15 rfl acI rfl rfl (fun _ => rfl) (by decide) (by decide) rfl (by decide) (by decide) ?_
  refine eo_put (k := 1) (ty := .array .int) tyX9 clX9 (by decide) (inA_of (is := [146]) (by decide +kernel)) tyX9_ok nmX9 rfl rfl (by decide +kernel) rfl rfl (Nat.le_of_ble_eq_true rfl) dX9_init_17 ?_
  refine ec_aload (j := 0) dX9_init_20 rfl rfl ?_
  refine ec_bipush (n := 12) dX9_init_21 (by decide) ?_
  refine eo_newa (t := 1) (n := 12) (ty := .boolean) (j := 2) dX9_init_23 rfl acZ rfl rfl (fun _ => rfl) (by decide) (by decide) rfl (by decide) (by decide) ?_
  refine eo_put (k := 2) (ty := .array .boolean) tyX9 clX9 (by decide) (inA_of (is := [149]) (by decide +kernel)) tyX9_ok nmX9 rfl rfl (by decide +kernel) rfl rfl (Nat.le_of_ble_eq_true rfl) dX9_init_25 ?_
  refine ec_aload (j := 0) dX9_init_28 rfl rfl ?_
  refine ec_iconst (n := 3) dX9_init_29 ?_
  refine eo_newa (t := 0) (n := 3) (ty := .int) (j := 3) dX9_init_30 rfl acI rfl rfl (fun _ => rfl) (by decide) (by decide) rfl (by decide) (by decide) ?_
  refine eo_put (k := 3) (ty := .array .int) tyX9 clX9 (by decide) (inA_of (is := [152]) (by decide +kernel)) tyX9_ok nmX9 rfl rfl (by decide +kernel) rfl rfl (Nat.le_of_ble_eq_true rfl) dX9_init_32 ?_
  refine ec_aload (j := 0) dX9_init_35 rfl rfl ?_
  refine eo_get (k := 0) clX9 (by decide) (inA_of (is := [143]) (by decide +kernel)) dX9_init_36 rfl ?_
  refine ec_iconst (n := 3) dX9_init_39 ?_
  refine eo_fill (j := 0) (n := 11) (v := 3) dX9_init_40 rfl (by decide) (by decide +kernel) (by decide) (Nat.le_of_ble_eq_true rfl) (Nat.le_of_ble_eq_true rfl) (by decide) ?_
  refine ec_aload (j := 0) dX9_init_43 rfl rfl ?_
  refine eo_get (k := 2) clX9 (by decide) (inA_of (is := [149]) (by decide +kernel)) dX9_init_44 rfl ?_
  refine ec_iconst (n := 0) dX9_init_47 ?_
  refine ec_iconst (n := 1) dX9_init_48 ?_
  refine eo_zast (j := 2) dX9_init_49 rfl (by decide) (by decide) (by decide) (by decide) ?_
  refine ec_aload (j := 0) dX9_init_50 rfl rfl ?_
  refine eo_get (k := 2) clX9 (by decide) (inA_of (is := [149]) (by decide +kernel)) dX9_init_51 rfl ?_
  refine ec_bipush (n := 11) dX9_init_54 (by decide) ?_
  refine ec_iconst (n := 1) dX9_init_56 ?_
  refine eo_zast (j := 2) dX9_init_57 rfl (by decide) (by decide) (by decide) (by decide) ?_
  refine ec_sget (fun h => h.2.2.2.2.2.2.2) (List.mem_of_getElem? (i := 138) (tb1 51 (by decide +kernel) rfl)) dX9_init_58 (fun t ht => ?_)
  refine ec_iconst (n := 0) dX9_init_61 ?_
  refine ec_aload (j := 0) dX9_init_62 rfl rfl ?_
  refine eo_get (k := 3) clX9 (by decide) (inA_of (is := [152]) (by decide +kernel)) dX9_init_63 rfl ?_
  refine ec_iconst (n := 0) dX9_init_66 ?_
  refine ec_iconst (n := 3) dX9_init_67 ?_
  refine eo_copyS (j := 3) (n1 := 3) (by decide +kernel) dX9_init_68 ht rfl (by decide) (by decide) (Nat.le_of_ble_eq_true rfl) ?_
  refine eo_tell (j := 2) (b := (12, .inl (fun k => if k = 0 ∨ k = 11 then J 1 else J 0))) rfl (vpI_cg (fun j hj => tell_trk j hj)) ?_
  refine eo_tell (j := 3) (b := (3, .inl (fun k => J (([2, 4, 1] : List Int).getD k 0)))) rfl (vpI_cg (fun j hj => tell_set j hj)) ?_
  exact ec_ret dX9_init_71 rfl (by show (pre ++ _ :: _).length ≤ _; rw [mid_len]; first | (simp only [List.length_append, List.length_cons, List.length_nil, List.length_replicate, List.length_set, blkX0_len, blkX8_len, blkX2_len, blkX9_len]; omega) | (show pre.length + 1 + 4 ≤ pre.length + 1 + 4; omega)) (by decide) rfl
def blkX4 (G : GT) (q : Nat) : List va_E := .inr (6, [.ref (bG G + (q + 1 + 0)), .ref (bG G + (q + 1 + 5)), .ref (bG G + (q + 1 + 10)), .ref (bG G + (q + 1 + 24))]) :: (((([] ++ blkX9 G (q + 1 + 0)) ++ blkX8 G (q + 1 + 5)) ++ blkX2 G (q + 1 + 10)) ++ blkX0 G (q + 1 + 24))
theorem blkX4_len {G : GT} : ∀ q, (blkX4 G q).length = 29 := fun q => by simp only [blkX4, List.length_append, List.length_cons, List.length_nil, List.length_replicate, List.length_set, blkX0_len, blkX8_len, blkX2_len, blkX9_len]
set_option maxHeartbeats 20000000 in
theorem ce_X4 {G : GT} (hao : AO G) : ∀ pre : List va_E, CallE G 3 28 522 zX4_init [.ref (bG G + pre.length)] (pre ++ [.inr (6, fsX4)]) (pre ++ blkX4 G pre.length) := by
  intro pre
  refine eo_intro (by decide) rfl (Nat.le_of_ble_eq_true rfl) ?_
  refine ec_aload (j := 0) dX4_init_0 rfl rfl ?_
  refine ec_obj (inA_of (is := [128, 121, 122]) (by decide +kernel)) dX4_init_1 (by decide) (by decide) ?_
  refine ec_aload (j := 0) dX4_init_4 rfl rfl ?_
  refine eo_make (d' := 2) (mc' := 4) (ms' := 37) (j := 0) (Y' := zX9_init) (fs' := fsX9) tyX9 (fun q => blkX9 G q) clX9 tyX9_ok fsX9_ok (inA_of (is := [129, 130, 90]) (by decide +kernel)) (inA_of (is := [132, 90, 133]) (by decide +kernel)) (Or.inl (mem_all 131 (tb1 44 (by decide +kernel) rfl) (by decide +kernel))) rfl rfl ⟨by decide, by decide, by decide +kernel⟩ (by decide) (by decide) (Nat.le_of_ble_eq_true rfl) dX4_init_5 dX4_init_8 dX4_init_9 (ce_X9 hao) (blkX9_len) rfl (by decide) (by decide) ?_
  refine eo_put (k := 0) (ty := .object "TramLines$Track") tyX4 clX4 (by decide) (inA_of (is := [266]) (by decide +kernel)) tyX4_ok nmX4 rfl rfl (by decide +kernel) rfl rfl (Nat.le_of_ble_eq_true rfl) dX4_init_12 ?_
  refine ec_aload (j := 0) dX4_init_15 rfl rfl ?_
  refine eo_make (d' := 1) (mc' := 4) (ms' := 120) (j := 5) (Y' := zX8_init) (fs' := fsX8) tyX8 (fun q => blkX8 G q) clX8 tyX8_ok fsX8_ok (inA_of (is := [168, 169, 93]) (by decide +kernel)) (inA_of (is := [171, 93, 172]) (by decide +kernel)) (Or.inr (List.mem_of_getElem? (i := 170) (tb1 83 (by decide +kernel) rfl))) rfl rfl ⟨by decide, by decide, by decide +kernel⟩ (by decide) (by decide) (Nat.le_of_ble_eq_true rfl) dX4_init_16 dX4_init_19 dX4_init_20 (ce_X8 hao) (blkX8_len) rfl (by decide) (by decide) ?_
  refine eo_put (k := 1) (ty := .object "TramLines$Timetable") tyX4 clX4 (by decide) (inA_of (is := [270]) (by decide +kernel)) tyX4_ok nmX4 rfl rfl (by decide +kernel) rfl rfl (Nat.le_of_ble_eq_true rfl) dX4_init_23 ?_
  refine ec_aload (j := 0) dX4_init_26 rfl rfl ?_
  refine eo_make (d' := 1) (mc' := 13) (ms' := 330) (j := 10) (Y' := zX2_init) (fs' := fsX2) tyX2 (fun q => blkX2 G q) clX2 tyX2_ok fsX2_ok (inA_of (is := [211, 212, 94]) (by decide +kernel)) (inA_of (is := [214, 94, 215]) (by decide +kernel)) (Or.inr (List.mem_of_getElem? (i := 213) (tb1 126 (by decide +kernel) rfl))) rfl rfl ⟨by decide, by decide, by decide +kernel⟩ (by decide) (by decide) (Nat.le_of_ble_eq_true rfl) dX4_init_27 dX4_init_30 dX4_init_31 (ce_X2 hao) (blkX2_len) rfl (by decide) (by decide) ?_
  refine eo_put (k := 2) (ty := .object "TramLines$Fleet") tyX4 clX4 (by decide) (inA_of (is := [276]) (by decide +kernel)) tyX4_ok nmX4 rfl rfl (by decide +kernel) rfl rfl (Nat.le_of_ble_eq_true rfl) dX4_init_34 ?_
  refine ec_aload (j := 0) dX4_init_37 rfl rfl ?_
  refine eo_make (d' := 1) (mc' := 3) (ms' := 18) (j := 24) (Y' := zX0_init) (fs' := fsX0) tyX0 (fun q => blkX0 G q) clX0 tyX0_ok fsX0_ok (inA_of (is := [245, 246, 95]) (by decide +kernel)) (inA_of (is := [248, 95, 249]) (by decide +kernel)) (Or.inr (List.mem_of_getElem? (i := 247) (tb1 160 (by decide +kernel) rfl))) rfl rfl ⟨by decide, by decide, by decide +kernel⟩ (by decide) (by decide) (Nat.le_of_ble_eq_true rfl) dX4_init_38 dX4_init_41 dX4_init_42 (ce_X0 hao) (blkX0_len) rfl (by decide) (by decide) ?_
  refine eo_put (k := 3) (ty := .object "TramLines$Blocks") tyX4 clX4 (by decide) (inA_of (is := [280]) (by decide +kernel)) tyX4_ok nmX4 rfl rfl (by decide +kernel) rfl rfl (Nat.le_of_ble_eq_true rfl) dX4_init_45 ?_
  exact ec_ret dX4_init_48 rfl (by show (pre ++ _ :: _).length ≤ _; rw [mid_len]; first | (simp only [List.length_append, List.length_cons, List.length_nil, List.length_replicate, List.length_set, blkX0_len, blkX8_len, blkX2_len, blkX9_len, blkX4_len]; omega) | (show pre.length + 1 + 28 ≤ pre.length + 1 + 28; omega)) (by decide) rfl
def blkX3 (G : GT) (q : Nat) : List va_E := .inr (5, [.ref (bG G + (q + 1 + 0)), .ref (bG G + (q + 1 + 1)), iv 0, iv 0]) :: (((((((((([] ++ [.inl (cyG G 3, 8, .inr (.inr (.inr (.inr (fun i => some (bG G + (q + 1 + 30 + 29 * i)))))))]) ++ blkX4 G (q + 1 + 1)) ++ blkX4 G (q + 1 + 30)) ++ blkX4 G (q + 1 + 59)) ++ blkX4 G (q + 1 + 88)) ++ blkX4 G (q + 1 + 117)) ++ blkX4 G (q + 1 + 146)) ++ blkX4 G (q + 1 + 175)) ++ blkX4 G (q + 1 + 204)) ++ blkX4 G (q + 1 + 233))
theorem blkX3_len {G : GT} : ∀ q, (blkX3 G q).length = 263 := fun q => by simp only [blkX3, List.length_append, List.length_cons, List.length_nil, List.length_replicate, List.length_set, blkX0_len, blkX8_len, blkX2_len, blkX9_len, blkX4_len]
set_option maxHeartbeats 20000000 in
theorem ce_X3 {G : GT} (hao : AO G) : ∀ pre : List va_E, CallE G 4 262 4742 zX3_init [.ref (bG G + pre.length)] (pre ++ [.inr (5, fsX3)]) (pre ++ blkX3 G pre.length) := by
  intro pre
  refine eo_intro (by decide) rfl (Nat.le_of_ble_eq_true rfl) ?_
  refine ec_aload (j := 0) dX3_init_0 rfl rfl ?_
  refine ec_obj (inA_of (is := [297, 121, 122]) (by decide +kernel)) dX3_init_1 (by decide) (by decide) ?_
  refine ec_aload (j := 0) dX3_init_4 rfl rfl ?_
  refine ec_bipush (n := 8) dX3_init_5 (by decide) ?_
  refine eo_anew (n := 8) (j := 0) (inA_of (is := [298]) (by decide +kernel)) hao dX3_init_7 (by decide) (by simp only [List.length_append, List.length_cons, List.length_nil, List.length_replicate, List.length_set, blkX0_len, blkX8_len, blkX2_len, blkX9_len, blkX4_len]) (by decide) (by decide) ?_
  refine eo_put (k := 0) (ty := .array (.object "TramLines$Line")) tyX3 clX3 (by decide) (inA_of (is := [301]) (by decide +kernel)) tyX3_ok nmX3 rfl rfl (by decide +kernel) rfl rfl (Nat.le_of_ble_eq_true rfl) dX3_init_10 ?_
  refine ec_aload (j := 0) dX3_init_13 rfl rfl ?_
  refine eo_make (d' := 3) (mc' := 28) (ms' := 522) (j := 1) (Y' := zX4_init) (fs' := fsX4) tyX4 (fun q => blkX4 G q) clX4 tyX4_ok fsX4_ok (inA_of (is := [298, 124, 89]) (by decide +kernel)) (inA_of (is := [126, 89, 127]) (by decide +kernel)) (Or.inr (List.mem_of_getElem? (i := 300) (tb1 213 (by decide +kernel) rfl))) rfl rfl ⟨by decide, by decide, by decide +kernel⟩ (by decide) (by decide) (Nat.le_of_ble_eq_true rfl) dX3_init_14 dX3_init_17 dX3_init_18 (ce_X4 hao) (blkX4_len) (by simp only [List.length_append, List.length_cons, List.length_nil, List.length_replicate, List.length_set, blkX0_len, blkX8_len, blkX2_len, blkX9_len, blkX4_len]) (by decide) (by decide) ?_
  refine eo_put (k := 1) (ty := .object "TramLines$Line") tyX3 clX3 (by decide) (inA_of (is := [302]) (by decide +kernel)) tyX3_ok nmX3 rfl rfl (by decide +kernel) rfl rfl (Nat.le_of_ble_eq_true rfl) dX3_init_21 ?_
  refine ec_iconst (n := 0) dX3_init_24 ?_
  refine ec_istore dX3_init_25 rfl (by decide) rfl ?_
  refine ec_iload (j := 0) dX3_init_26 rfl rfl ?_
  refine ec_bipush (n := 8) dX3_init_27 (by decide) ?_
  refine ec_icmp_ge 51 dX3_init_29 (by decide) (i32 (by omega)) (i32 (by omega)) (fun z => absurd (by decide) z) (fun _ => ?_)
  refine ec_aload (j := 1) dX3_init_32 rfl rfl ?_
  refine eo_get (k := 0) clX3 (by decide) (inA_of (is := [301]) (by decide +kernel)) dX3_init_33 rfl ?_
  refine ec_iload (j := 0) dX3_init_36 rfl rfl ?_
  refine eo_make (d' := 3) (mc' := 28) (ms' := 522) (j := 30) (Y' := zX4_init) (fs' := fsX4) tyX4 (fun q => blkX4 G q) clX4 tyX4_ok fsX4_ok (inA_of (is := [298, 124, 89]) (by decide +kernel)) (inA_of (is := [126, 89, 127]) (by decide +kernel)) (Or.inr (List.mem_of_getElem? (i := 300) (tb1 213 (by decide +kernel) rfl))) rfl rfl ⟨by decide, by decide, by decide +kernel⟩ (by decide) (by decide) (Nat.le_of_ble_eq_true rfl) dX3_init_37 dX3_init_40 dX3_init_41 (ce_X4 hao) (blkX4_len) (by simp only [List.length_append, List.length_cons, List.length_nil, List.length_replicate, List.length_set, blkX0_len, blkX8_len, blkX2_len, blkX9_len, blkX4_len]) (by decide) (by decide) ?_
  refine eo_aast (j := 0) (jo := 30) dX3_init_44 rfl rfl (by decide) (by decide) (by decide) ?_
  refine eo_shape (tl' := [] ++ [.inl (cyG G 3, 8, .inr (.inr (.inr (.inr _))))] ++ blkX4 G (pre.length + 1 + 1) ++ blkX4 G (pre.length + 1 + 30)) rfl ?_
  refine ec_iinc (j := 0) dX3_init_45 rfl (by decide) rfl ?_
  refine ec_goto 26 dX3_init_48 (by decide) ?_
  refine ec_iload (j := 0) dX3_init_26 rfl rfl ?_
  refine ec_bipush (n := 8) dX3_init_27 (by decide) ?_
  refine ec_icmp_ge 51 dX3_init_29 (by decide) (i32 (by omega)) (i32 (by omega)) (fun z => absurd (by decide) z) (fun _ => ?_)
  refine ec_aload (j := 1) dX3_init_32 rfl rfl ?_
  refine eo_get (k := 0) clX3 (by decide) (inA_of (is := [301]) (by decide +kernel)) dX3_init_33 rfl ?_
  refine ec_iload (j := 0) dX3_init_36 rfl rfl ?_
  refine eo_make (d' := 3) (mc' := 28) (ms' := 522) (j := 59) (Y' := zX4_init) (fs' := fsX4) tyX4 (fun q => blkX4 G q) clX4 tyX4_ok fsX4_ok (inA_of (is := [298, 124, 89]) (by decide +kernel)) (inA_of (is := [126, 89, 127]) (by decide +kernel)) (Or.inr (List.mem_of_getElem? (i := 300) (tb1 213 (by decide +kernel) rfl))) rfl rfl ⟨by decide, by decide, by decide +kernel⟩ (by decide) (by decide) (Nat.le_of_ble_eq_true rfl) dX3_init_37 dX3_init_40 dX3_init_41 (ce_X4 hao) (blkX4_len) (by simp only [List.length_append, List.length_cons, List.length_nil, List.length_replicate, List.length_set, blkX0_len, blkX8_len, blkX2_len, blkX9_len, blkX4_len]) (by decide) (by decide) ?_
  refine eo_aast (j := 0) (jo := 59) dX3_init_44 rfl rfl (by decide) (by decide) (by decide) ?_
  refine eo_shape (tl' := [] ++ [.inl (cyG G 3, 8, .inr (.inr (.inr (.inr _))))] ++ blkX4 G (pre.length + 1 + 1) ++ blkX4 G (pre.length + 1 + 30) ++ blkX4 G (pre.length + 1 + 59)) rfl ?_
  refine ec_iinc (j := 0) dX3_init_45 rfl (by decide) rfl ?_
  refine ec_goto 26 dX3_init_48 (by decide) ?_
  refine ec_iload (j := 0) dX3_init_26 rfl rfl ?_
  refine ec_bipush (n := 8) dX3_init_27 (by decide) ?_
  refine ec_icmp_ge 51 dX3_init_29 (by decide) (i32 (by omega)) (i32 (by omega)) (fun z => absurd (by decide) z) (fun _ => ?_)
  refine ec_aload (j := 1) dX3_init_32 rfl rfl ?_
  refine eo_get (k := 0) clX3 (by decide) (inA_of (is := [301]) (by decide +kernel)) dX3_init_33 rfl ?_
  refine ec_iload (j := 0) dX3_init_36 rfl rfl ?_
  refine eo_make (d' := 3) (mc' := 28) (ms' := 522) (j := 88) (Y' := zX4_init) (fs' := fsX4) tyX4 (fun q => blkX4 G q) clX4 tyX4_ok fsX4_ok (inA_of (is := [298, 124, 89]) (by decide +kernel)) (inA_of (is := [126, 89, 127]) (by decide +kernel)) (Or.inr (List.mem_of_getElem? (i := 300) (tb1 213 (by decide +kernel) rfl))) rfl rfl ⟨by decide, by decide, by decide +kernel⟩ (by decide) (by decide) (Nat.le_of_ble_eq_true rfl) dX3_init_37 dX3_init_40 dX3_init_41 (ce_X4 hao) (blkX4_len) (by simp only [List.length_append, List.length_cons, List.length_nil, List.length_replicate, List.length_set, blkX0_len, blkX8_len, blkX2_len, blkX9_len, blkX4_len]) (by decide) (by decide) ?_
  refine eo_aast (j := 0) (jo := 88) dX3_init_44 rfl rfl (by decide) (by decide) (by decide) ?_
  refine eo_shape (tl' := [] ++ [.inl (cyG G 3, 8, .inr (.inr (.inr (.inr _))))] ++ blkX4 G (pre.length + 1 + 1) ++ blkX4 G (pre.length + 1 + 30) ++ blkX4 G (pre.length + 1 + 59) ++ blkX4 G (pre.length + 1 + 88)) rfl ?_
  refine ec_iinc (j := 0) dX3_init_45 rfl (by decide) rfl ?_
  refine ec_goto 26 dX3_init_48 (by decide) ?_
  refine ec_iload (j := 0) dX3_init_26 rfl rfl ?_
  refine ec_bipush (n := 8) dX3_init_27 (by decide) ?_
  refine ec_icmp_ge 51 dX3_init_29 (by decide) (i32 (by omega)) (i32 (by omega)) (fun z => absurd (by decide) z) (fun _ => ?_)
  refine ec_aload (j := 1) dX3_init_32 rfl rfl ?_
  refine eo_get (k := 0) clX3 (by decide) (inA_of (is := [301]) (by decide +kernel)) dX3_init_33 rfl ?_
  refine ec_iload (j := 0) dX3_init_36 rfl rfl ?_
  refine eo_make (d' := 3) (mc' := 28) (ms' := 522) (j := 117) (Y' := zX4_init) (fs' := fsX4) tyX4 (fun q => blkX4 G q) clX4 tyX4_ok fsX4_ok (inA_of (is := [298, 124, 89]) (by decide +kernel)) (inA_of (is := [126, 89, 127]) (by decide +kernel)) (Or.inr (List.mem_of_getElem? (i := 300) (tb1 213 (by decide +kernel) rfl))) rfl rfl ⟨by decide, by decide, by decide +kernel⟩ (by decide) (by decide) (Nat.le_of_ble_eq_true rfl) dX3_init_37 dX3_init_40 dX3_init_41 (ce_X4 hao) (blkX4_len) (by simp only [List.length_append, List.length_cons, List.length_nil, List.length_replicate, List.length_set, blkX0_len, blkX8_len, blkX2_len, blkX9_len, blkX4_len]) (by decide) (by decide) ?_
  refine eo_aast (j := 0) (jo := 117) dX3_init_44 rfl rfl (by decide) (by decide) (by decide) ?_
  refine eo_shape (tl' := [] ++ [.inl (cyG G 3, 8, .inr (.inr (.inr (.inr _))))] ++ blkX4 G (pre.length + 1 + 1) ++ blkX4 G (pre.length + 1 + 30) ++ blkX4 G (pre.length + 1 + 59) ++ blkX4 G (pre.length + 1 + 88) ++ blkX4 G (pre.length + 1 + 117)) rfl ?_
  refine ec_iinc (j := 0) dX3_init_45 rfl (by decide) rfl ?_
  refine ec_goto 26 dX3_init_48 (by decide) ?_
  refine ec_iload (j := 0) dX3_init_26 rfl rfl ?_
  refine ec_bipush (n := 8) dX3_init_27 (by decide) ?_
  refine ec_icmp_ge 51 dX3_init_29 (by decide) (i32 (by omega)) (i32 (by omega)) (fun z => absurd (by decide) z) (fun _ => ?_)
  refine ec_aload (j := 1) dX3_init_32 rfl rfl ?_
  refine eo_get (k := 0) clX3 (by decide) (inA_of (is := [301]) (by decide +kernel)) dX3_init_33 rfl ?_
  refine ec_iload (j := 0) dX3_init_36 rfl rfl ?_
  refine eo_make (d' := 3) (mc' := 28) (ms' := 522) (j := 146) (Y' := zX4_init) (fs' := fsX4) tyX4 (fun q => blkX4 G q) clX4 tyX4_ok fsX4_ok (inA_of (is := [298, 124, 89]) (by decide +kernel)) (inA_of (is := [126, 89, 127]) (by decide +kernel)) (Or.inr (List.mem_of_getElem? (i := 300) (tb1 213 (by decide +kernel) rfl))) rfl rfl ⟨by decide, by decide, by decide +kernel⟩ (by decide) (by decide) (Nat.le_of_ble_eq_true rfl) dX3_init_37 dX3_init_40 dX3_init_41 (ce_X4 hao) (blkX4_len) (by simp only [List.length_append, List.length_cons, List.length_nil, List.length_replicate, List.length_set, blkX0_len, blkX8_len, blkX2_len, blkX9_len, blkX4_len]) (by decide) (by decide) ?_
  refine eo_aast (j := 0) (jo := 146) dX3_init_44 rfl rfl (by decide) (by decide) (by decide) ?_
  refine eo_shape (tl' := [] ++ [.inl (cyG G 3, 8, .inr (.inr (.inr (.inr _))))] ++ blkX4 G (pre.length + 1 + 1) ++ blkX4 G (pre.length + 1 + 30) ++ blkX4 G (pre.length + 1 + 59) ++ blkX4 G (pre.length + 1 + 88) ++ blkX4 G (pre.length + 1 + 117) ++ blkX4 G (pre.length + 1 + 146)) rfl ?_
  refine ec_iinc (j := 0) dX3_init_45 rfl (by decide) rfl ?_
  refine ec_goto 26 dX3_init_48 (by decide) ?_
  refine ec_iload (j := 0) dX3_init_26 rfl rfl ?_
  refine ec_bipush (n := 8) dX3_init_27 (by decide) ?_
  refine ec_icmp_ge 51 dX3_init_29 (by decide) (i32 (by omega)) (i32 (by omega)) (fun z => absurd (by decide) z) (fun _ => ?_)
  refine ec_aload (j := 1) dX3_init_32 rfl rfl ?_
  refine eo_get (k := 0) clX3 (by decide) (inA_of (is := [301]) (by decide +kernel)) dX3_init_33 rfl ?_
  refine ec_iload (j := 0) dX3_init_36 rfl rfl ?_
  refine eo_make (d' := 3) (mc' := 28) (ms' := 522) (j := 175) (Y' := zX4_init) (fs' := fsX4) tyX4 (fun q => blkX4 G q) clX4 tyX4_ok fsX4_ok (inA_of (is := [298, 124, 89]) (by decide +kernel)) (inA_of (is := [126, 89, 127]) (by decide +kernel)) (Or.inr (List.mem_of_getElem? (i := 300) (tb1 213 (by decide +kernel) rfl))) rfl rfl ⟨by decide, by decide, by decide +kernel⟩ (by decide) (by decide) (Nat.le_of_ble_eq_true rfl) dX3_init_37 dX3_init_40 dX3_init_41 (ce_X4 hao) (blkX4_len) (by simp only [List.length_append, List.length_cons, List.length_nil, List.length_replicate, List.length_set, blkX0_len, blkX8_len, blkX2_len, blkX9_len, blkX4_len]) (by decide) (by decide) ?_
  refine eo_aast (j := 0) (jo := 175) dX3_init_44 rfl rfl (by decide) (by decide) (by decide) ?_
  refine eo_shape (tl' := [] ++ [.inl (cyG G 3, 8, .inr (.inr (.inr (.inr _))))] ++ blkX4 G (pre.length + 1 + 1) ++ blkX4 G (pre.length + 1 + 30) ++ blkX4 G (pre.length + 1 + 59) ++ blkX4 G (pre.length + 1 + 88) ++ blkX4 G (pre.length + 1 + 117) ++ blkX4 G (pre.length + 1 + 146) ++ blkX4 G (pre.length + 1 + 175)) rfl ?_
  refine ec_iinc (j := 0) dX3_init_45 rfl (by decide) rfl ?_
  refine ec_goto 26 dX3_init_48 (by decide) ?_
  refine ec_iload (j := 0) dX3_init_26 rfl rfl ?_
  refine ec_bipush (n := 8) dX3_init_27 (by decide) ?_
  refine ec_icmp_ge 51 dX3_init_29 (by decide) (i32 (by omega)) (i32 (by omega)) (fun z => absurd (by decide) z) (fun _ => ?_)
  refine ec_aload (j := 1) dX3_init_32 rfl rfl ?_
  refine eo_get (k := 0) clX3 (by decide) (inA_of (is := [301]) (by decide +kernel)) dX3_init_33 rfl ?_
  refine ec_iload (j := 0) dX3_init_36 rfl rfl ?_
  refine eo_make (d' := 3) (mc' := 28) (ms' := 522) (j := 204) (Y' := zX4_init) (fs' := fsX4) tyX4 (fun q => blkX4 G q) clX4 tyX4_ok fsX4_ok (inA_of (is := [298, 124, 89]) (by decide +kernel)) (inA_of (is := [126, 89, 127]) (by decide +kernel)) (Or.inr (List.mem_of_getElem? (i := 300) (tb1 213 (by decide +kernel) rfl))) rfl rfl ⟨by decide, by decide, by decide +kernel⟩ (by decide) (by decide) (Nat.le_of_ble_eq_true rfl) dX3_init_37 dX3_init_40 dX3_init_41 (ce_X4 hao) (blkX4_len) (by simp only [List.length_append, List.length_cons, List.length_nil, List.length_replicate, List.length_set, blkX0_len, blkX8_len, blkX2_len, blkX9_len, blkX4_len]) (by decide) (by decide) ?_
  refine eo_aast (j := 0) (jo := 204) dX3_init_44 rfl rfl (by decide) (by decide) (by decide) ?_
  refine eo_shape (tl' := [] ++ [.inl (cyG G 3, 8, .inr (.inr (.inr (.inr _))))] ++ blkX4 G (pre.length + 1 + 1) ++ blkX4 G (pre.length + 1 + 30) ++ blkX4 G (pre.length + 1 + 59) ++ blkX4 G (pre.length + 1 + 88) ++ blkX4 G (pre.length + 1 + 117) ++ blkX4 G (pre.length + 1 + 146) ++ blkX4 G (pre.length + 1 + 175) ++ blkX4 G (pre.length + 1 + 204)) rfl ?_
  refine ec_iinc (j := 0) dX3_init_45 rfl (by decide) rfl ?_
  refine ec_goto 26 dX3_init_48 (by decide) ?_
  refine ec_iload (j := 0) dX3_init_26 rfl rfl ?_
  refine ec_bipush (n := 8) dX3_init_27 (by decide) ?_
  refine ec_icmp_ge 51 dX3_init_29 (by decide) (i32 (by omega)) (i32 (by omega)) (fun z => absurd (by decide) z) (fun _ => ?_)
  refine ec_aload (j := 1) dX3_init_32 rfl rfl ?_
  refine eo_get (k := 0) clX3 (by decide) (inA_of (is := [301]) (by decide +kernel)) dX3_init_33 rfl ?_
  refine ec_iload (j := 0) dX3_init_36 rfl rfl ?_
  refine eo_make (d' := 3) (mc' := 28) (ms' := 522) (j := 233) (Y' := zX4_init) (fs' := fsX4) tyX4 (fun q => blkX4 G q) clX4 tyX4_ok fsX4_ok (inA_of (is := [298, 124, 89]) (by decide +kernel)) (inA_of (is := [126, 89, 127]) (by decide +kernel)) (Or.inr (List.mem_of_getElem? (i := 300) (tb1 213 (by decide +kernel) rfl))) rfl rfl ⟨by decide, by decide, by decide +kernel⟩ (by decide) (by decide) (Nat.le_of_ble_eq_true rfl) dX3_init_37 dX3_init_40 dX3_init_41 (ce_X4 hao) (blkX4_len) (by simp only [List.length_append, List.length_cons, List.length_nil, List.length_replicate, List.length_set, blkX0_len, blkX8_len, blkX2_len, blkX9_len, blkX4_len]) (by decide) (by decide) ?_
  refine eo_aast (j := 0) (jo := 233) dX3_init_44 rfl rfl (by decide) (by decide) (by decide) ?_
  refine eo_shape (tl' := [] ++ [.inl (cyG G 3, 8, .inr (.inr (.inr (.inr _))))] ++ blkX4 G (pre.length + 1 + 1) ++ blkX4 G (pre.length + 1 + 30) ++ blkX4 G (pre.length + 1 + 59) ++ blkX4 G (pre.length + 1 + 88) ++ blkX4 G (pre.length + 1 + 117) ++ blkX4 G (pre.length + 1 + 146) ++ blkX4 G (pre.length + 1 + 175) ++ blkX4 G (pre.length + 1 + 204) ++ blkX4 G (pre.length + 1 + 233)) rfl ?_
  refine ec_iinc (j := 0) dX3_init_45 rfl (by decide) rfl ?_
  refine ec_goto 26 dX3_init_48 (by decide) ?_
  refine ec_iload (j := 0) dX3_init_26 rfl rfl ?_
  refine ec_bipush (n := 8) dX3_init_27 (by decide) ?_
  refine ec_icmp_ge 51 dX3_init_29 (by decide) (i32 (by omega)) (i32 (by omega)) (fun _ => ?_) (fun z => absurd z (by decide))
  refine eo_tell (j := 0) (b := (8, .inr (.inr (.inr (.inr (fun i => some (bG G + (pre.length + 1 + 30 + 29 * i)))))))) rfl (vpQ_cg (fun j hj => ?_)) ?_
  · match j, hj with
    | 0, _ => rfl
    | 1, _ => rfl
    | 2, _ => rfl
    | 3, _ => rfl
    | 4, _ => rfl
    | 5, _ => rfl
    | 6, _ => rfl
    | 7, _ => rfl
    | n + 8, hj => exact absurd hj (by omega)
  exact ec_ret dX3_init_51 rfl (by show (pre ++ _ :: _).length ≤ _; rw [mid_len]; first | (simp only [List.length_append, List.length_cons, List.length_nil, List.length_replicate, List.length_set, blkX0_len, blkX8_len, blkX2_len, blkX9_len, blkX4_len, blkX3_len]; omega) | (show pre.length + 1 + 262 ≤ pre.length + 1 + 262; omega)) (by decide) rfl
def blkX1 (G : GT) (q : Nat) : List va_E := .inr (3, [.ref (bG G + (q + 1 + 0)), .ref (bG G + (q + 1 + 31)), iv 0, iv 0, iv 0, .ref (bG G + (q + 1 + 62)), .ref (bG G + (q + 1 + 65)), .ref (bG G + (q + 1 + 66)), .ref (bG G + (q + 1 + 67)), .ref (bG G + (q + 1 + 68)), .ref (bG G + (q + 1 + 69))]) :: (((((((([] ++ (aQ (cyG G 4) 30 (fun i => some (bG G + (q + 1 + 0) + 1 + i)) :: List.replicate 30 (.inl (cyG G 0, 12, .inl (fun _ => (0 : Int32)))))) ++ (aQ (cyG G 4) 30 (fun i => some (bG G + (q + 1 + 31) + 1 + i)) :: List.replicate 30 (.inl (cyG G 0, 12, .inl (fun _ => (0 : Int32)))))) ++ (aQ (cyG G 4) 2 (fun i => some (bG G + (q + 1 + 62) + 1 + i)) :: List.replicate 2 (.inl (cyG G 0, 12, .inl (fun _ => (0 : Int32)))))) ++ [.inl (cyG G 0, 10, .inl (fun _ => (0 : Int32)))]) ++ [.inl (cyG G 0, 10, .inl (fun _ => (0 : Int32)))]) ++ [.inl (cyG G 0, 10, .inl (fun _ => (0 : Int32)))]) ++ [.inl (cyG G 0, 10, .inl (fun _ => (0 : Int32)))]) ++ blkX4 G (q + 1 + 69))
theorem blkX1_len {G : GT} : ∀ q, (blkX1 G q).length = 99 := fun q => by simp only [blkX1, List.length_append, List.length_cons, List.length_nil, List.length_replicate, List.length_set, blkX0_len, blkX8_len, blkX2_len, blkX9_len, blkX4_len, blkX3_len]
set_option maxHeartbeats 20000000 in
theorem ce_X1 {G : GT} (hao : AO G) : ∀ pre : List va_E, CallE G 4 98 1372 zX1_init [.ref (bG G + pre.length)] (pre ++ [.inr (3, fsX1)]) (pre ++ blkX1 G pre.length) := by
  intro pre
  refine eo_intro (by decide) rfl (Nat.le_of_ble_eq_true rfl) ?_
  refine ec_aload (j := 0) dX1_init_0 rfl rfl ?_
  refine ec_obj (inA_of (is := [321, 121, 122]) (by decide +kernel)) dX1_init_1 (by decide) (by decide) ?_
  refine ec_aload (j := 0) dX1_init_4 rfl rfl ?_
  refine ec_bipush (n := 30) dX1_init_5 (by decide) ?_
  refine ec_bipush (n := 12) dX1_init_7 (by decide) ?_
  refine eo_mna (n := 30) (k9 := 12) (j := 0) (inA_of (is := [322, 166]) (by decide +kernel)) hao dX1_init_9 (by decide) (by decide) (by simp only [List.length_append, List.length_cons, List.length_nil, List.length_replicate, List.length_set, blkX0_len, blkX8_len, blkX2_len, blkX9_len, blkX4_len, blkX3_len]) (by decide) (by decide) ?_
  refine eo_put (k := 0) (ty := .array (.array .int)) tyX1 clX1 (by decide) (inA_of (is := [325]) (by decide +kernel)) tyX1_ok nmX1 rfl rfl (by decide +kernel) rfl rfl (Nat.le_of_ble_eq_true rfl) dX1_init_13 ?_
  refine ec_aload (j := 0) dX1_init_16 rfl rfl ?_
  refine ec_bipush (n := 30) dX1_init_17 (by decide) ?_
  refine ec_bipush (n := 12) dX1_init_19 (by decide) ?_
  refine eo_mna (n := 30) (k9 := 12) (j := 31) (inA_of (is := [322, 166]) (by decide +kernel)) hao dX1_init_21 (by decide) (by decide) (by simp only [List.length_append, List.length_cons, List.length_nil, List.length_replicate, List.length_set, blkX0_len, blkX8_len, blkX2_len, blkX9_len, blkX4_len, blkX3_len]) (by decide) (by decide) ?_
  refine eo_put (k := 1) (ty := .array (.array .int)) tyX1 clX1 (by decide) (inA_of (is := [327]) (by decide +kernel)) tyX1_ok nmX1 rfl rfl (by decide +kernel) rfl rfl (Nat.le_of_ble_eq_true rfl) dX1_init_25 ?_
  refine ec_aload (j := 0) dX1_init_28 rfl rfl ?_
  refine ec_iconst (n := 2) dX1_init_29 ?_
  refine ec_bipush (n := 12) dX1_init_30 (by decide) ?_
  refine eo_mna (n := 2) (k9 := 12) (j := 62) (inA_of (is := [322, 166]) (by decide +kernel)) hao dX1_init_32 (by decide) (by decide) (by simp only [List.length_append, List.length_cons, List.length_nil, List.length_replicate, List.length_set, blkX0_len, blkX8_len, blkX2_len, blkX9_len, blkX4_len, blkX3_len]) (by decide) (by decide) ?_
  refine eo_put (k := 5) (ty := .array (.array .int)) tyX1 clX1 (by decide) (inA_of (is := [335]) (by decide +kernel)) tyX1_ok nmX1 rfl rfl (by decide +kernel) rfl rfl (Nat.le_of_ble_eq_true rfl) dX1_init_36 ?_
  refine ec_aload (j := 0) dX1_init_39 rfl rfl ?_
  refine ec_bipush (n := 10) dX1_init_40 (by decide) ?_
  refine eo_newa (t := 0) (n := 10) (ty := .int) (j := 65) dX1_init_42 rfl acI rfl rfl (fun _ => rfl) (by decide) (by decide) (by simp only [List.length_append, List.length_cons, List.length_nil, List.length_replicate, List.length_set, blkX0_len, blkX8_len, blkX2_len, blkX9_len, blkX4_len, blkX3_len]) (by decide) (by decide) ?_
  refine eo_put (k := 6) (ty := .array .int) tyX1 clX1 (by decide) (inA_of (is := [336]) (by decide +kernel)) tyX1_ok nmX1 rfl rfl (by decide +kernel) rfl rfl (Nat.le_of_ble_eq_true rfl) dX1_init_44 ?_
  refine ec_aload (j := 0) dX1_init_47 rfl rfl ?_
  refine ec_bipush (n := 10) dX1_init_48 (by decide) ?_
  refine eo_newa (t := 0) (n := 10) (ty := .int) (j := 66) dX1_init_50 rfl acI rfl rfl (fun _ => rfl) (by decide) (by decide) (by simp only [List.length_append, List.length_cons, List.length_nil, List.length_replicate, List.length_set, blkX0_len, blkX8_len, blkX2_len, blkX9_len, blkX4_len, blkX3_len]) (by decide) (by decide) ?_
  refine eo_put (k := 7) (ty := .array .int) tyX1 clX1 (by decide) (inA_of (is := [337]) (by decide +kernel)) tyX1_ok nmX1 rfl rfl (by decide +kernel) rfl rfl (Nat.le_of_ble_eq_true rfl) dX1_init_52 ?_
  refine ec_aload (j := 0) dX1_init_55 rfl rfl ?_
  refine ec_bipush (n := 10) dX1_init_56 (by decide) ?_
  refine eo_newa (t := 0) (n := 10) (ty := .int) (j := 67) dX1_init_58 rfl acI rfl rfl (fun _ => rfl) (by decide) (by decide) (by simp only [List.length_append, List.length_cons, List.length_nil, List.length_replicate, List.length_set, blkX0_len, blkX8_len, blkX2_len, blkX9_len, blkX4_len, blkX3_len]) (by decide) (by decide) ?_
  refine eo_put (k := 8) (ty := .array .int) tyX1 clX1 (by decide) (inA_of (is := [338]) (by decide +kernel)) tyX1_ok nmX1 rfl rfl (by decide +kernel) rfl rfl (Nat.le_of_ble_eq_true rfl) dX1_init_60 ?_
  refine ec_aload (j := 0) dX1_init_63 rfl rfl ?_
  refine ec_bipush (n := 10) dX1_init_64 (by decide) ?_
  refine eo_newa (t := 0) (n := 10) (ty := .int) (j := 68) dX1_init_66 rfl acI rfl rfl (fun _ => rfl) (by decide) (by decide) (by simp only [List.length_append, List.length_cons, List.length_nil, List.length_replicate, List.length_set, blkX0_len, blkX8_len, blkX2_len, blkX9_len, blkX4_len, blkX3_len]) (by decide) (by decide) ?_
  refine eo_put (k := 9) (ty := .array .int) tyX1 clX1 (by decide) (inA_of (is := [339]) (by decide +kernel)) tyX1_ok nmX1 rfl rfl (by decide +kernel) rfl rfl (Nat.le_of_ble_eq_true rfl) dX1_init_68 ?_
  refine ec_aload (j := 0) dX1_init_71 rfl rfl ?_
  refine eo_make (d' := 3) (mc' := 28) (ms' := 522) (j := 69) (Y' := zX4_init) (fs' := fsX4) tyX4 (fun q => blkX4 G q) clX4 tyX4_ok fsX4_ok (inA_of (is := [323, 124, 89]) (by decide +kernel)) (inA_of (is := [126, 89, 127]) (by decide +kernel)) (Or.inr (List.mem_of_getElem? (i := 324) (tb1 237 (by decide +kernel) rfl))) rfl rfl ⟨by decide, by decide, by decide +kernel⟩ (by decide) (by decide) (Nat.le_of_ble_eq_true rfl) dX1_init_72 dX1_init_75 dX1_init_76 (ce_X4 hao) (blkX4_len) (by simp only [List.length_append, List.length_cons, List.length_nil, List.length_replicate, List.length_set, blkX0_len, blkX8_len, blkX2_len, blkX9_len, blkX4_len, blkX3_len]) (by decide) (by decide) ?_
  refine eo_put (k := 10) (ty := .object "TramLines$Line") tyX1 clX1 (by decide) (inA_of (is := [340]) (by decide +kernel)) tyX1_ok nmX1 rfl rfl (by decide +kernel) rfl rfl (Nat.le_of_ble_eq_true rfl) dX1_init_79 ?_
  exact ec_ret dX1_init_82 rfl (by show (pre ++ _ :: _).length ≤ _; rw [mid_len]; first | (simp only [List.length_append, List.length_cons, List.length_nil, List.length_replicate, List.length_set, blkX0_len, blkX8_len, blkX2_len, blkX9_len, blkX4_len, blkX3_len, blkX1_len]; omega) | (show pre.length + 1 + 98 ≤ pre.length + 1 + 98; omega)) (by decide) rfl
def blkX7 (G : GT) (q : Nat) : List va_E := .inr (9, [.ref (bG G + (q + 1 + 0)), .ref (bG G + (q + 1 + 1)), iv 0]) :: (([] ++ [.inl (cyG G 0, 30, .inl (fun _ => (0 : Int32)))]) ++ [.inl (cyG G 0, 30, .inl (fun _ => (0 : Int32)))])
theorem blkX7_len {G : GT} : ∀ q, (blkX7 G q).length = 3 := fun q => by simp only [blkX7, List.length_append, List.length_cons, List.length_nil, List.length_replicate, List.length_set, blkX0_len, blkX8_len, blkX2_len, blkX9_len, blkX4_len, blkX3_len, blkX1_len]
set_option maxHeartbeats 20000000 in
theorem ce_X7 {G : GT} (hao : AO G) : ∀ pre : List va_E, CallE G 1 2 60 zX7_init [.ref (bG G + pre.length)] (pre ++ [.inr (9, fsX7)]) (pre ++ blkX7 G pre.length) := by
  intro pre
  refine eo_intro (by decide) rfl (Nat.le_of_ble_eq_true rfl) ?_
  refine ec_aload (j := 0) dX7_init_0 rfl rfl ?_
  refine ec_obj (inA_of (is := [375, 121, 122]) (by decide +kernel)) dX7_init_1 (by decide) (by decide) ?_
  refine ec_aload (j := 0) dX7_init_4 rfl rfl ?_
  refine ec_bipush (n := 30) dX7_init_5 (by decide) ?_
  refine eo_newa (t := 0) (n := 30) (ty := .int) (j := 0) dX7_init_7 rfl acI rfl rfl (fun _ => rfl) (by decide) (by decide) rfl (by decide) (by decide) ?_
  refine eo_put (k := 0) (ty := .array .int) tyX7 clX7 (by decide) (inA_of (is := [376]) (by decide +kernel)) tyX7_ok nmX7 rfl rfl (by decide +kernel) rfl rfl (Nat.le_of_ble_eq_true rfl) dX7_init_9 ?_
  refine ec_aload (j := 0) dX7_init_12 rfl rfl ?_
  refine ec_bipush (n := 30) dX7_init_13 (by decide) ?_
  refine eo_newa (t := 0) (n := 30) (ty := .int) (j := 1) dX7_init_15 rfl acI rfl rfl (fun _ => rfl) (by decide) (by decide) rfl (by decide) (by decide) ?_
  refine eo_put (k := 1) (ty := .array .int) tyX7 clX7 (by decide) (inA_of (is := [378]) (by decide +kernel)) tyX7_ok nmX7 rfl rfl (by decide +kernel) rfl rfl (Nat.le_of_ble_eq_true rfl) dX7_init_17 ?_
  exact ec_ret dX7_init_20 rfl (by show (pre ++ _ :: _).length ≤ _; rw [mid_len]; first | (simp only [List.length_append, List.length_cons, List.length_nil, List.length_replicate, List.length_set, blkX0_len, blkX8_len, blkX2_len, blkX9_len, blkX4_len, blkX3_len, blkX1_len, blkX7_len]; omega) | (show pre.length + 1 + 2 ≤ pre.length + 1 + 2; omega)) (by decide) rfl
def blkX6 (G : GT) (q : Nat) : List va_E := .inr (8, [.ref (bG G + (q + 1 + 0)), .ref (bG G + (q + 1 + 3)), .ref (bG G + (q + 1 + 6)), .ref (bG G + (q + 1 + 7)), iv 0]) :: (((([] ++ blkX7 G (q + 1 + 0)) ++ blkX7 G (q + 1 + 3)) ++ [.inl (cyG G 0, 30, .inl (fun _ => (0 : Int32)))]) ++ [.inl (cyG G 0, 30, .inl (fun _ => (0 : Int32)))])
theorem blkX6_len {G : GT} : ∀ q, (blkX6 G q).length = 9 := fun q => by simp only [blkX6, List.length_append, List.length_cons, List.length_nil, List.length_replicate, List.length_set, blkX0_len, blkX8_len, blkX2_len, blkX9_len, blkX4_len, blkX3_len, blkX1_len, blkX7_len]
set_option maxHeartbeats 20000000 in
theorem ce_X6 {G : GT} (hao : AO G) : ∀ pre : List va_E, CallE G 2 8 186 zX6_init [.ref (bG G + pre.length)] (pre ++ [.inr (8, fsX6)]) (pre ++ blkX6 G pre.length) := by
  intro pre
  refine eo_intro (by decide) rfl (Nat.le_of_ble_eq_true rfl) ?_
  refine ec_aload (j := 0) dX6_init_0 rfl rfl ?_
  refine ec_obj (inA_of (is := [369, 121, 122]) (by decide +kernel)) dX6_init_1 (by decide) (by decide) ?_
  refine ec_aload (j := 0) dX6_init_4 rfl rfl ?_
  refine eo_make (d' := 1) (mc' := 2) (ms' := 60) (j := 0) (Y' := zX7_init) (fs' := fsX7) tyX7 (fun q => blkX7 G q) clX7 tyX7_ok fsX7_ok (inA_of (is := [370, 371, 99]) (by decide +kernel)) (inA_of (is := [373, 99, 374]) (by decide +kernel)) (Or.inr (List.mem_of_getElem? (i := 372) (tb2 45 (by decide +kernel) rfl))) rfl rfl ⟨by decide, by decide, by decide +kernel⟩ (by decide) (by decide) (Nat.le_of_ble_eq_true rfl) dX6_init_5 dX6_init_8 dX6_init_9 (ce_X7 hao) (blkX7_len) rfl (by decide) (by decide) ?_
  refine eo_put (k := 0) (ty := .object "TramLines$Sequence") tyX6 clX6 (by decide) (inA_of (is := [391]) (by decide +kernel)) tyX6_ok nmX6 rfl rfl (by decide +kernel) rfl rfl (Nat.le_of_ble_eq_true rfl) dX6_init_12 ?_
  refine ec_aload (j := 0) dX6_init_15 rfl rfl ?_
  refine eo_make (d' := 1) (mc' := 2) (ms' := 60) (j := 3) (Y' := zX7_init) (fs' := fsX7) tyX7 (fun q => blkX7 G q) clX7 tyX7_ok fsX7_ok (inA_of (is := [370, 371, 99]) (by decide +kernel)) (inA_of (is := [373, 99, 374]) (by decide +kernel)) (Or.inr (List.mem_of_getElem? (i := 372) (tb2 45 (by decide +kernel) rfl))) rfl rfl ⟨by decide, by decide, by decide +kernel⟩ (by decide) (by decide) (Nat.le_of_ble_eq_true rfl) dX6_init_16 dX6_init_19 dX6_init_20 (ce_X7 hao) (blkX7_len) rfl (by decide) (by decide) ?_
  refine eo_put (k := 1) (ty := .object "TramLines$Sequence") tyX6 clX6 (by decide) (inA_of (is := [392]) (by decide +kernel)) tyX6_ok nmX6 rfl rfl (by decide +kernel) rfl rfl (Nat.le_of_ble_eq_true rfl) dX6_init_23 ?_
  refine ec_aload (j := 0) dX6_init_26 rfl rfl ?_
  refine ec_bipush (n := 30) dX6_init_27 (by decide) ?_
  refine eo_newa (t := 0) (n := 30) (ty := .int) (j := 6) dX6_init_29 rfl acI rfl rfl (fun _ => rfl) (by decide) (by decide) rfl (by decide) (by decide) ?_
  refine eo_put (k := 2) (ty := .array .int) tyX6 clX6 (by decide) (inA_of (is := [393]) (by decide +kernel)) tyX6_ok nmX6 rfl rfl (by decide +kernel) rfl rfl (Nat.le_of_ble_eq_true rfl) dX6_init_31 ?_
  refine ec_aload (j := 0) dX6_init_34 rfl rfl ?_
  refine ec_bipush (n := 30) dX6_init_35 (by decide) ?_
  refine eo_newa (t := 0) (n := 30) (ty := .int) (j := 7) dX6_init_37 rfl acI rfl rfl (fun _ => rfl) (by decide) (by decide) rfl (by decide) (by decide) ?_
  refine eo_put (k := 3) (ty := .array .int) tyX6 clX6 (by decide) (inA_of (is := [394]) (by decide +kernel)) tyX6_ok nmX6 rfl rfl (by decide +kernel) rfl rfl (Nat.le_of_ble_eq_true rfl) dX6_init_39 ?_
  exact ec_ret dX6_init_42 rfl (by show (pre ++ _ :: _).length ≤ _; rw [mid_len]; first | (simp only [List.length_append, List.length_cons, List.length_nil, List.length_replicate, List.length_set, blkX0_len, blkX8_len, blkX2_len, blkX9_len, blkX4_len, blkX3_len, blkX1_len, blkX7_len, blkX6_len]; omega) | (show pre.length + 1 + 8 ≤ pre.length + 1 + 8; omega)) (by decide) rfl
def blkX5 (G : GT) (q : Nat) : List va_E := .inr (7, [.ref (bG G + (q + 1 + 0)), .ref (bG G + (q + 1 + 32)), .ref (bG G + (q + 1 + 33)), .ref (bG G + (q + 1 + 34)), .ref (bG G + (q + 1 + 35)), .ref (bG G + (q + 1 + 36)), .ref (bG G + (q + 1 + 37)), iv 0]) :: ((((((([] ++ (aQ (cyG G 4) 31 (fun i => some (bG G + (q + 1 + 0) + 1 + i)) :: List.replicate 31 (.inl (cyG G 0, 31, .inl (fun _ => (0 : Int32)))))) ++ [.inl (cyG G 0, 31, .inl (fun _ => (0 : Int32)))]) ++ [.inl (cyG G 0, 31, .inl (fun _ => (0 : Int32)))]) ++ [.inl (cyG G 0, 31, .inl (fun _ => (0 : Int32)))]) ++ [.inl (cyG G 0, 31, .inl (fun _ => (0 : Int32)))]) ++ [.inl (cyG G 0, 31, .inl (fun _ => (0 : Int32)))]) ++ [.inl (cyG G 1, 31, .inl (fun _ => (0 : Int32)))])
theorem blkX5_len {G : GT} : ∀ q, (blkX5 G q).length = 39 := fun q => by simp only [blkX5, List.length_append, List.length_cons, List.length_nil, List.length_replicate, List.length_set, blkX0_len, blkX8_len, blkX2_len, blkX9_len, blkX4_len, blkX3_len, blkX1_len, blkX7_len, blkX6_len]
set_option maxHeartbeats 20000000 in
theorem ce_X5 {G : GT} (hao : AO G) : ∀ pre : List va_E, CallE G 1 38 1178 zX5_init [.ref (bG G + pre.length)] (pre ++ [.inr (7, fsX5)]) (pre ++ blkX5 G pre.length) := by
  intro pre
  refine eo_intro (by decide) rfl (Nat.le_of_ble_eq_true rfl) ?_
  refine ec_aload (j := 0) dX5_init_0 rfl rfl ?_
  refine ec_obj (inA_of (is := [412, 121, 122]) (by decide +kernel)) dX5_init_1 (by decide) (by decide) ?_
  refine ec_aload (j := 0) dX5_init_4 rfl rfl ?_
  refine ec_bipush (n := 31) dX5_init_5 (by decide) ?_
  refine ec_bipush (n := 31) dX5_init_7 (by decide) ?_
  refine eo_mna (n := 31) (k9 := 31) (j := 0) (inA_of (is := [413, 166]) (by decide +kernel)) hao dX5_init_9 (by decide) (by decide) (by simp only [List.length_append, List.length_cons, List.length_nil, List.length_replicate, List.length_set, blkX0_len, blkX8_len, blkX2_len, blkX9_len, blkX4_len, blkX3_len, blkX1_len, blkX7_len, blkX6_len]) (by decide) (by decide) ?_
  refine eo_put (k := 0) (ty := .array (.array .int)) tyX5 clX5 (by decide) (inA_of (is := [414]) (by decide +kernel)) tyX5_ok nmX5 rfl rfl (by decide +kernel) rfl rfl (Nat.le_of_ble_eq_true rfl) dX5_init_13 ?_
  refine ec_aload (j := 0) dX5_init_16 rfl rfl ?_
  refine ec_bipush (n := 31) dX5_init_17 (by decide) ?_
  refine eo_newa (t := 0) (n := 31) (ty := .int) (j := 32) dX5_init_19 rfl acI rfl rfl (fun _ => rfl) (by decide) (by decide) (by simp only [List.length_append, List.length_cons, List.length_nil, List.length_replicate, List.length_set, blkX0_len, blkX8_len, blkX2_len, blkX9_len, blkX4_len, blkX3_len, blkX1_len, blkX7_len, blkX6_len]) (by decide) (by decide) ?_
  refine eo_put (k := 1) (ty := .array .int) tyX5 clX5 (by decide) (inA_of (is := [415]) (by decide +kernel)) tyX5_ok nmX5 rfl rfl (by decide +kernel) rfl rfl (Nat.le_of_ble_eq_true rfl) dX5_init_21 ?_
  refine ec_aload (j := 0) dX5_init_24 rfl rfl ?_
  refine ec_bipush (n := 31) dX5_init_25 (by decide) ?_
  refine eo_newa (t := 0) (n := 31) (ty := .int) (j := 33) dX5_init_27 rfl acI rfl rfl (fun _ => rfl) (by decide) (by decide) (by simp only [List.length_append, List.length_cons, List.length_nil, List.length_replicate, List.length_set, blkX0_len, blkX8_len, blkX2_len, blkX9_len, blkX4_len, blkX3_len, blkX1_len, blkX7_len, blkX6_len]) (by decide) (by decide) ?_
  refine eo_put (k := 2) (ty := .array .int) tyX5 clX5 (by decide) (inA_of (is := [416]) (by decide +kernel)) tyX5_ok nmX5 rfl rfl (by decide +kernel) rfl rfl (Nat.le_of_ble_eq_true rfl) dX5_init_29 ?_
  refine ec_aload (j := 0) dX5_init_32 rfl rfl ?_
  refine ec_bipush (n := 31) dX5_init_33 (by decide) ?_
  refine eo_newa (t := 0) (n := 31) (ty := .int) (j := 34) dX5_init_35 rfl acI rfl rfl (fun _ => rfl) (by decide) (by decide) (by simp only [List.length_append, List.length_cons, List.length_nil, List.length_replicate, List.length_set, blkX0_len, blkX8_len, blkX2_len, blkX9_len, blkX4_len, blkX3_len, blkX1_len, blkX7_len, blkX6_len]) (by decide) (by decide) ?_
  refine eo_put (k := 3) (ty := .array .int) tyX5 clX5 (by decide) (inA_of (is := [417]) (by decide +kernel)) tyX5_ok nmX5 rfl rfl (by decide +kernel) rfl rfl (Nat.le_of_ble_eq_true rfl) dX5_init_37 ?_
  refine ec_aload (j := 0) dX5_init_40 rfl rfl ?_
  refine ec_bipush (n := 31) dX5_init_41 (by decide) ?_
  refine eo_newa (t := 0) (n := 31) (ty := .int) (j := 35) dX5_init_43 rfl acI rfl rfl (fun _ => rfl) (by decide) (by decide) (by simp only [List.length_append, List.length_cons, List.length_nil, List.length_replicate, List.length_set, blkX0_len, blkX8_len, blkX2_len, blkX9_len, blkX4_len, blkX3_len, blkX1_len, blkX7_len, blkX6_len]) (by decide) (by decide) ?_
  refine eo_put (k := 4) (ty := .array .int) tyX5 clX5 (by decide) (inA_of (is := [418]) (by decide +kernel)) tyX5_ok nmX5 rfl rfl (by decide +kernel) rfl rfl (Nat.le_of_ble_eq_true rfl) dX5_init_45 ?_
  refine ec_aload (j := 0) dX5_init_48 rfl rfl ?_
  refine ec_bipush (n := 31) dX5_init_49 (by decide) ?_
  refine eo_newa (t := 0) (n := 31) (ty := .int) (j := 36) dX5_init_51 rfl acI rfl rfl (fun _ => rfl) (by decide) (by decide) (by simp only [List.length_append, List.length_cons, List.length_nil, List.length_replicate, List.length_set, blkX0_len, blkX8_len, blkX2_len, blkX9_len, blkX4_len, blkX3_len, blkX1_len, blkX7_len, blkX6_len]) (by decide) (by decide) ?_
  refine eo_put (k := 5) (ty := .array .int) tyX5 clX5 (by decide) (inA_of (is := [419]) (by decide +kernel)) tyX5_ok nmX5 rfl rfl (by decide +kernel) rfl rfl (Nat.le_of_ble_eq_true rfl) dX5_init_53 ?_
  refine ec_aload (j := 0) dX5_init_56 rfl rfl ?_
  refine ec_bipush (n := 31) dX5_init_57 (by decide) ?_
  refine eo_newa (t := 1) (n := 31) (ty := .boolean) (j := 37) dX5_init_59 rfl acZ rfl rfl (fun _ => rfl) (by decide) (by decide) (by simp only [List.length_append, List.length_cons, List.length_nil, List.length_replicate, List.length_set, blkX0_len, blkX8_len, blkX2_len, blkX9_len, blkX4_len, blkX3_len, blkX1_len, blkX7_len, blkX6_len]) (by decide) (by decide) ?_
  refine eo_put (k := 6) (ty := .array .boolean) tyX5 clX5 (by decide) (inA_of (is := [420]) (by decide +kernel)) tyX5_ok nmX5 rfl rfl (by decide +kernel) rfl rfl (Nat.le_of_ble_eq_true rfl) dX5_init_61 ?_
  exact ec_ret dX5_init_64 rfl (by show (pre ++ _ :: _).length ≤ _; rw [mid_len]; first | (simp only [List.length_append, List.length_cons, List.length_nil, List.length_replicate, List.length_set, blkX0_len, blkX8_len, blkX2_len, blkX9_len, blkX4_len, blkX3_len, blkX1_len, blkX7_len, blkX6_len, blkX5_len]; omega) | (show pre.length + 1 + 38 ≤ pre.length + 1 + 38; omega)) (by decide) rfl
def blkX10 (G : GT) (q : Nat) : List va_E := .inr (12, [.ref (bG G + (q + 1 + 0)), iv 0, iv 0, .ref (bG G + (q + 1 + 1)), .ref (bG G + (q + 1 + 2)), .ref (bG G + (q + 1 + 3)), iv 0, iv (-1)]) :: (((([] ++ [.inl (cyG G 2, 60, .inl (fun _ => (0 : Int32)))]) ++ [.inl (cyG G 0, 10, .inl (fun _ => (0 : Int32)))]) ++ [.inl (cyG G 0, 10, .inl (fun _ => (0 : Int32)))]) ++ [.inl (cyG G 0, 10, .inl (fun _ => (0 : Int32)))])
theorem blkX10_len {G : GT} : ∀ q, (blkX10 G q).length = 5 := fun q => by simp only [blkX10, List.length_append, List.length_cons, List.length_nil, List.length_replicate, List.length_set, blkX0_len, blkX8_len, blkX2_len, blkX9_len, blkX4_len, blkX3_len, blkX1_len, blkX7_len, blkX6_len, blkX5_len]
set_option maxHeartbeats 20000000 in
theorem ce_X10 {G : GT} (hao : AO G) : ∀ pre : List va_E, CallE G 1 4 90 zX10_init [.ref (bG G + pre.length)] (pre ++ [.inr (12, fsX10)]) (pre ++ blkX10 G pre.length) := by
  intro pre
  refine eo_intro (by decide) rfl (Nat.le_of_ble_eq_true rfl) ?_
  refine ec_aload (j := 0) dX10_init_0 rfl rfl ?_
  refine ec_obj (inA_of (is := [446, 121, 122]) (by decide +kernel)) dX10_init_1 (by decide) (by decide) ?_
  refine ec_aload (j := 0) dX10_init_4 rfl rfl ?_
  refine ec_bipush (n := 60) dX10_init_5 (by decide) ?_
  refine eo_newa (t := 2) (n := 60) (ty := .char) (j := 0) dX10_init_7 rfl acC rfl rfl (fun _ => rfl) (by decide) (by decide) rfl (by decide) (by decide) ?_
  refine eo_put (k := 0) (ty := .array .char) tyX10 clX10 (by decide) (inA_of (is := [447]) (by decide +kernel)) tyX10_ok nmX10 rfl rfl (by decide +kernel) rfl rfl (Nat.le_of_ble_eq_true rfl) dX10_init_9 ?_
  refine ec_aload (j := 0) dX10_init_12 rfl rfl ?_
  refine ec_bipush (n := 10) dX10_init_13 (by decide) ?_
  refine eo_newa (t := 0) (n := 10) (ty := .int) (j := 1) dX10_init_15 rfl acI rfl rfl (fun _ => rfl) (by decide) (by decide) rfl (by decide) (by decide) ?_
  refine eo_put (k := 3) (ty := .array .int) tyX10 clX10 (by decide) (inA_of (is := [450]) (by decide +kernel)) tyX10_ok nmX10 rfl rfl (by decide +kernel) rfl rfl (Nat.le_of_ble_eq_true rfl) dX10_init_17 ?_
  refine ec_aload (j := 0) dX10_init_20 rfl rfl ?_
  refine ec_bipush (n := 10) dX10_init_21 (by decide) ?_
  refine eo_newa (t := 0) (n := 10) (ty := .int) (j := 2) dX10_init_23 rfl acI rfl rfl (fun _ => rfl) (by decide) (by decide) rfl (by decide) (by decide) ?_
  refine eo_put (k := 4) (ty := .array .int) tyX10 clX10 (by decide) (inA_of (is := [451]) (by decide +kernel)) tyX10_ok nmX10 rfl rfl (by decide +kernel) rfl rfl (Nat.le_of_ble_eq_true rfl) dX10_init_25 ?_
  refine ec_aload (j := 0) dX10_init_28 rfl rfl ?_
  refine ec_bipush (n := 10) dX10_init_29 (by decide) ?_
  refine eo_newa (t := 0) (n := 10) (ty := .int) (j := 3) dX10_init_31 rfl acI rfl rfl (fun _ => rfl) (by decide) (by decide) rfl (by decide) (by decide) ?_
  refine eo_put (k := 5) (ty := .array .int) tyX10 clX10 (by decide) (inA_of (is := [452]) (by decide +kernel)) tyX10_ok nmX10 rfl rfl (by decide +kernel) rfl rfl (Nat.le_of_ble_eq_true rfl) dX10_init_33 ?_
  refine ec_aload (j := 0) dX10_init_36 rfl rfl ?_
  refine ec_iconst (n := -1) dX10_init_37 ?_
  refine eo_put (k := 7) (ty := .int) tyX10 clX10 (by decide) (inA_of (is := [455]) (by decide +kernel)) tyX10_ok nmX10 rfl rfl (by decide +kernel) rfl rfl (Nat.le_of_ble_eq_true rfl) dX10_init_38 ?_
  exact ec_ret dX10_init_41 rfl (by show (pre ++ _ :: _).length ≤ _; rw [mid_len]; first | (simp only [List.length_append, List.length_cons, List.length_nil, List.length_replicate, List.length_set, blkX0_len, blkX8_len, blkX2_len, blkX9_len, blkX4_len, blkX3_len, blkX1_len, blkX7_len, blkX6_len, blkX5_len, blkX10_len]; omega) | (show pre.length + 1 + 4 ≤ pre.length + 1 + 4; omega)) (by decide) rfl
def blkX11 (G : GT) (q : Nat) : List va_E := .inr (13, [.ref (bG G + (q + 1 + 0)), .ref (bG G + (q + 1 + 29)), .ref (bG G + (q + 1 + 58)), .ref (bG G + (q + 1 + 321)), .ref (bG G + (q + 1 + 420)), .ref (bG G + (q + 1 + 429)), .ref (bG G + (q + 1 + 468)), .ref (bG G + (q + 1 + 471)), iv (-1)]) :: (((((((([] ++ blkX4 G (q + 1 + 0)) ++ blkX4 G (q + 1 + 29)) ++ blkX3 G (q + 1 + 58)) ++ blkX1 G (q + 1 + 321)) ++ blkX6 G (q + 1 + 420)) ++ blkX5 G (q + 1 + 429)) ++ blkX7 G (q + 1 + 468)) ++ blkX10 G (q + 1 + 471))
theorem blkX11_len {G : GT} : ∀ q, (blkX11 G q).length = 477 := fun q => by simp only [blkX11, List.length_append, List.length_cons, List.length_nil, List.length_replicate, List.length_set, blkX0_len, blkX8_len, blkX2_len, blkX9_len, blkX4_len, blkX3_len, blkX1_len, blkX7_len, blkX6_len, blkX5_len, blkX10_len]
set_option maxHeartbeats 20000000 in
theorem ce_X11 {G : GT} (hao : AO G) : ∀ pre : List va_E, CallE G 5 476 8719 zX11_init [.ref (bG G + pre.length)] (pre ++ [.inr (13, fsX11)]) (pre ++ blkX11 G pre.length) := by
  intro pre
  refine eo_intro (by decide) rfl (Nat.le_of_ble_eq_true rfl) ?_
  refine ec_aload (j := 0) dX11_init_0 rfl rfl ?_
  refine ec_obj (inA_of (is := [120, 121, 122]) (by decide +kernel)) dX11_init_1 (by decide) (by decide) ?_
  refine ec_aload (j := 0) dX11_init_4 rfl rfl ?_
  refine eo_make (d' := 3) (mc' := 28) (ms' := 522) (j := 0) (Y' := zX4_init) (fs' := fsX4) tyX4 (fun q => blkX4 G q) clX4 tyX4_ok fsX4_ok (inA_of (is := [123, 124, 89]) (by decide +kernel)) (inA_of (is := [126, 89, 127]) (by decide +kernel)) (Or.inr (List.mem_of_getElem? (i := 125) (tb1 38 (by decide +kernel) rfl))) rfl rfl ⟨by decide, by decide, by decide +kernel⟩ (by decide) (by decide) (Nat.le_of_ble_eq_true rfl) dX11_init_5 dX11_init_8 dX11_init_9 (ce_X4 hao) (blkX4_len) (by simp only [List.length_append, List.length_cons, List.length_nil, List.length_replicate, List.length_set, blkX0_len, blkX8_len, blkX2_len, blkX9_len, blkX4_len, blkX3_len, blkX1_len, blkX7_len, blkX6_len, blkX5_len, blkX10_len]) (by decide) (by decide) ?_
  refine eo_put (k := 0) (ty := .object "TramLines$Line") tyX11 clX11 (by decide) (inA_of (is := [475]) (by decide +kernel)) tyX11_ok nmX11 rfl rfl (by decide +kernel) rfl rfl (Nat.le_of_ble_eq_true rfl) dX11_init_12 ?_
  refine ec_aload (j := 0) dX11_init_15 rfl rfl ?_
  refine eo_make (d' := 3) (mc' := 28) (ms' := 522) (j := 29) (Y' := zX4_init) (fs' := fsX4) tyX4 (fun q => blkX4 G q) clX4 tyX4_ok fsX4_ok (inA_of (is := [123, 124, 89]) (by decide +kernel)) (inA_of (is := [126, 89, 127]) (by decide +kernel)) (Or.inr (List.mem_of_getElem? (i := 125) (tb1 38 (by decide +kernel) rfl))) rfl rfl ⟨by decide, by decide, by decide +kernel⟩ (by decide) (by decide) (Nat.le_of_ble_eq_true rfl) dX11_init_16 dX11_init_19 dX11_init_20 (ce_X4 hao) (blkX4_len) (by simp only [List.length_append, List.length_cons, List.length_nil, List.length_replicate, List.length_set, blkX0_len, blkX8_len, blkX2_len, blkX9_len, blkX4_len, blkX3_len, blkX1_len, blkX7_len, blkX6_len, blkX5_len, blkX10_len]) (by decide) (by decide) ?_
  refine eo_put (k := 1) (ty := .object "TramLines$Line") tyX11 clX11 (by decide) (inA_of (is := [476]) (by decide +kernel)) tyX11_ok nmX11 rfl rfl (by decide +kernel) rfl rfl (Nat.le_of_ble_eq_true rfl) dX11_init_23 ?_
  refine ec_aload (j := 0) dX11_init_26 rfl rfl ?_
  refine eo_make (d' := 4) (mc' := 262) (ms' := 4742) (j := 58) (Y' := zX3_init) (fs' := fsX3) tyX3 (fun q => blkX3 G q) clX3 tyX3_ok fsX3_ok (inA_of (is := [292, 293, 96]) (by decide +kernel)) (inA_of (is := [295, 96, 296]) (by decide +kernel)) (Or.inl (mem_all 294 (tb1 207 (by decide +kernel) rfl) (by decide +kernel))) rfl rfl ⟨by decide, by decide, by decide +kernel⟩ (by decide) (by decide) (Nat.le_of_ble_eq_true rfl) dX11_init_27 dX11_init_30 dX11_init_31 (ce_X3 hao) (blkX3_len) (by simp only [List.length_append, List.length_cons, List.length_nil, List.length_replicate, List.length_set, blkX0_len, blkX8_len, blkX2_len, blkX9_len, blkX4_len, blkX3_len, blkX1_len, blkX7_len, blkX6_len, blkX5_len, blkX10_len]) (by decide) (by decide) ?_
  refine eo_put (k := 2) (ty := .object "TramLines$History") tyX11 clX11 (by decide) (inA_of (is := [477]) (by decide +kernel)) tyX11_ok nmX11 rfl rfl (by decide +kernel) rfl rfl (Nat.le_of_ble_eq_true rfl) dX11_init_34 ?_
  refine ec_aload (j := 0) dX11_init_37 rfl rfl ?_
  refine eo_make (d' := 4) (mc' := 98) (ms' := 1372) (j := 321) (Y' := zX1_init) (fs' := fsX1) tyX1 (fun q => blkX1 G q) clX1 tyX1_ok fsX1_ok (inA_of (is := [316, 317, 97]) (by decide +kernel)) (inA_of (is := [319, 97, 320]) (by decide +kernel)) (Or.inr (List.mem_of_getElem? (i := 318) (tb1 231 (by decide +kernel) rfl))) rfl rfl ⟨by decide, by decide, by decide +kernel⟩ (by decide) (by decide) (Nat.le_of_ble_eq_true rfl) dX11_init_38 dX11_init_41 dX11_init_42 (ce_X1 hao) (blkX1_len) (by simp only [List.length_append, List.length_cons, List.length_nil, List.length_replicate, List.length_set, blkX0_len, blkX8_len, blkX2_len, blkX9_len, blkX4_len, blkX3_len, blkX1_len, blkX7_len, blkX6_len, blkX5_len, blkX10_len]) (by decide) (by decide) ?_
  refine eo_put (k := 3) (ty := .object "TramLines$Day") tyX11 clX11 (by decide) (inA_of (is := [478]) (by decide +kernel)) tyX11_ok nmX11 rfl rfl (by decide +kernel) rfl rfl (Nat.le_of_ble_eq_true rfl) dX11_init_45 ?_
  refine ec_aload (j := 0) dX11_init_48 rfl rfl ?_
  refine eo_make (d' := 2) (mc' := 8) (ms' := 186) (j := 420) (Y' := zX6_init) (fs' := fsX6) tyX6 (fun q => blkX6 G q) clX6 tyX6_ok fsX6_ok (inA_of (is := [364, 365, 98]) (by decide +kernel)) (inA_of (is := [367, 98, 368]) (by decide +kernel)) (Or.inr (List.mem_of_getElem? (i := 366) (tb2 39 (by decide +kernel) rfl))) rfl rfl ⟨by decide, by decide, by decide +kernel⟩ (by decide) (by decide) (Nat.le_of_ble_eq_true rfl) dX11_init_49 dX11_init_52 dX11_init_53 (ce_X6 hao) (blkX6_len) (by simp only [List.length_append, List.length_cons, List.length_nil, List.length_replicate, List.length_set, blkX0_len, blkX8_len, blkX2_len, blkX9_len, blkX4_len, blkX3_len, blkX1_len, blkX7_len, blkX6_len, blkX5_len, blkX10_len]) (by decide) (by decide) ?_
  refine eo_put (k := 4) (ty := .object "TramLines$Planner") tyX11 clX11 (by decide) (inA_of (is := [479]) (by decide +kernel)) tyX11_ok nmX11 rfl rfl (by decide +kernel) rfl rfl (Nat.le_of_ble_eq_true rfl) dX11_init_56 ?_
  refine ec_aload (j := 0) dX11_init_59 rfl rfl ?_
  refine eo_make (d' := 1) (mc' := 38) (ms' := 1178) (j := 429) (Y' := zX5_init) (fs' := fsX5) tyX5 (fun q => blkX5 G q) clX5 tyX5_ok fsX5_ok (inA_of (is := [407, 408, 100]) (by decide +kernel)) (inA_of (is := [410, 100, 411]) (by decide +kernel)) (Or.inr (List.mem_of_getElem? (i := 409) (tb2 82 (by decide +kernel) rfl))) rfl rfl ⟨by decide, by decide, by decide +kernel⟩ (by decide) (by decide) (Nat.le_of_ble_eq_true rfl) dX11_init_60 dX11_init_63 dX11_init_64 (ce_X5 hao) (blkX5_len) (by simp only [List.length_append, List.length_cons, List.length_nil, List.length_replicate, List.length_set, blkX0_len, blkX8_len, blkX2_len, blkX9_len, blkX4_len, blkX3_len, blkX1_len, blkX7_len, blkX6_len, blkX5_len, blkX10_len]) (by decide) (by decide) ?_
  refine eo_put (k := 5) (ty := .object "TramLines$Pairing") tyX11 clX11 (by decide) (inA_of (is := [480]) (by decide +kernel)) tyX11_ok nmX11 rfl rfl (by decide +kernel) rfl rfl (Nat.le_of_ble_eq_true rfl) dX11_init_67 ?_
  refine ec_aload (j := 0) dX11_init_70 rfl rfl ?_
  refine eo_make (d' := 1) (mc' := 2) (ms' := 60) (j := 468) (Y' := zX7_init) (fs' := fsX7) tyX7 (fun q => blkX7 G q) clX7 tyX7_ok fsX7_ok (inA_of (is := [439, 371, 99]) (by decide +kernel)) (inA_of (is := [373, 99, 374]) (by decide +kernel)) (Or.inr (List.mem_of_getElem? (i := 440) (tb2 113 (by decide +kernel) rfl))) rfl rfl ⟨by decide, by decide, by decide +kernel⟩ (by decide) (by decide) (Nat.le_of_ble_eq_true rfl) dX11_init_71 dX11_init_74 dX11_init_75 (ce_X7 hao) (blkX7_len) (by simp only [List.length_append, List.length_cons, List.length_nil, List.length_replicate, List.length_set, blkX0_len, blkX8_len, blkX2_len, blkX9_len, blkX4_len, blkX3_len, blkX1_len, blkX7_len, blkX6_len, blkX5_len, blkX10_len]) (by decide) (by decide) ?_
  refine eo_put (k := 6) (ty := .object "TramLines$Sequence") tyX11 clX11 (by decide) (inA_of (is := [481]) (by decide +kernel)) tyX11_ok nmX11 rfl rfl (by decide +kernel) rfl rfl (Nat.le_of_ble_eq_true rfl) dX11_init_78 ?_
  refine ec_aload (j := 0) dX11_init_81 rfl rfl ?_
  refine eo_make (d' := 1) (mc' := 4) (ms' := 90) (j := 471) (Y' := zX10_init) (fs' := fsX10) tyX10 (fun q => blkX10 G q) clX10 tyX10_ok fsX10_ok (inA_of (is := [441, 442, 101]) (by decide +kernel)) (inA_of (is := [444, 101, 445]) (by decide +kernel)) (Or.inr (List.mem_of_getElem? (i := 443) (tb2 116 (by decide +kernel) rfl))) rfl rfl ⟨by decide, by decide, by decide +kernel⟩ (by decide) (by decide) (Nat.le_of_ble_eq_true rfl) dX11_init_82 dX11_init_85 dX11_init_86 (ce_X10 hao) (blkX10_len) (by simp only [List.length_append, List.length_cons, List.length_nil, List.length_replicate, List.length_set, blkX0_len, blkX8_len, blkX2_len, blkX9_len, blkX4_len, blkX3_len, blkX1_len, blkX7_len, blkX6_len, blkX5_len, blkX10_len]) (by decide) (by decide) ?_
  refine eo_put (k := 7) (ty := .object "TramLines$TripText") tyX11 clX11 (by decide) (inA_of (is := [482]) (by decide +kernel)) tyX11_ok nmX11 rfl rfl (by decide +kernel) rfl rfl (Nat.le_of_ble_eq_true rfl) dX11_init_89 ?_
  refine ec_aload (j := 0) dX11_init_92 rfl rfl ?_
  refine ec_iconst (n := -1) dX11_init_93 ?_
  refine eo_put (k := 8) (ty := .int) tyX11 clX11 (by decide) (inA_of (is := [483]) (by decide +kernel)) tyX11_ok nmX11 rfl rfl (by decide +kernel) rfl rfl (Nat.le_of_ble_eq_true rfl) dX11_init_94 ?_
  exact ec_ret dX11_init_97 rfl (by show (pre ++ _ :: _).length ≤ _; rw [mid_len]; first | (simp only [List.length_append, List.length_cons, List.length_nil, List.length_replicate, List.length_set, blkX0_len, blkX8_len, blkX2_len, blkX9_len, blkX4_len, blkX3_len, blkX1_len, blkX7_len, blkX6_len, blkX5_len, blkX10_len, blkX11_len]; omega) | (show pre.length + 1 + 476 ≤ pre.length + 1 + 476; omega)) (by decide) rfl
