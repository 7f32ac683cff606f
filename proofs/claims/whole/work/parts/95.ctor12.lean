/-! ===== making: the reference's constructor ===== -/
theorem ha_int (n : Nat) (cA : ClassId) : vp_cell cA (n, .inl (fun _ => (0 : Int32))) = arrV cA n (fun _ => defaultValue .int) := rfl
theorem ha_boo (n : Nat) (cA : ClassId) : vp_cell cA (n, .inl (fun _ => (0 : Int32))) = arrV cA n (fun _ => defaultValue .boolean) := rfl
def g0M (k : Nat) : Int := if k < 11 then 3 else if k = 22 ∨ k = 33 then 1 else if k = 34 then 2 else if k = 35 then 4 else if k = 36 then 1 else 0
theorem tell_g0B : ((List.range 500).all fun j => decide ((upd (upd (upd (upd (upd (upd (upd (upd (upd (upd (upd (upd (upd (upd (upd (upd (fun _ => (0 : Int32)) 0 (J 3)) 1 (J 3)) 2 (J 3)) 3 (J 3)) 4 (J 3)) 5 (J 3)) 6 (J 3)) 7 (J 3)) 8 (J 3)) 9 (J 3)) 10 (J 3)) 22 (J 1)) 33 (J 1)) 34 (J 2)) 35 (J 4)) 36 (J 1)) j = J (g0M j))) = true := by decide +kernel
theorem tell_g0 (j : Nat) (hj : j < 500) : (upd (upd (upd (upd (upd (upd (upd (upd (upd (upd (upd (upd (upd (upd (upd (upd (fun _ => (0 : Int32)) 0 (J 3)) 1 (J 3)) 2 (J 3)) 3 (J 3)) 4 (J 3)) 5 (J 3)) 6 (J 3)) 7 (J 3)) 8 (J 3)) 9 (J 3)) 10 (J 3)) 22 (J 1)) 33 (J 1)) 34 (J 2)) 35 (J 4)) 36 (J 1)) j = J (g0M j) := of_decide_eq_true (List.all_eq_true.mp tell_g0B j (List.mem_range.mpr hj))
theorem eo_shapeX {G : GT} {Y : YT} {d mc ms w pc : Nat} {pre es' : List va_E} {lv : List (Nat × Value)} {st : List Value} {x0 x' : va_E} {tl : List va_E} (h : x0 = x') (k : EvO G Y d mc ms pre es' w pc lv st x' tl) : EvO G Y d mc ms pre es' w pc lv st x0 tl := by rw [h]; exact k
abbrev rowsX12 (G : GT) (a : va_E) : List va_E := [a, .inl (cyG G 0, 500, .inl (fun _ => (0 : Int32))), .inl (cyG G 0, 500, .inl (fun _ => (0 : Int32))), .inl (cyG G 0, 4000, .inl (fun _ => (0 : Int32))), .inl (cyG G 0, 30, .inl (fun _ => (0 : Int32))), .inl (cyG G 0, 30, .inl (fun _ => (0 : Int32))), .inl (cyG G 0, 30, .inl (fun _ => (0 : Int32))), .inl (cyG G 0, 10, .inl (fun _ => (0 : Int32))), .inl (cyG G 0, 10, .inl (fun _ => (0 : Int32))), .inl (cyG G 0, 10, .inl (fun _ => (0 : Int32))), .inl (cyG G 0, 24, .inl (fun _ => (0 : Int32))), .inl (cyG G 0, 360, .inl (fun _ => (0 : Int32))), .inl (cyG G 0, 360, .inl (fun _ => (0 : Int32))), .inl (cyG G 0, 30, .inl (fun _ => (0 : Int32))), .inl (cyG G 1, 30, .inl (fun _ => (0 : Int32))), .inl (cyG G 0, 30, .inl (fun _ => (0 : Int32))), .inl (cyG G 0, 30, .inl (fun _ => (0 : Int32))), .inl (cyG G 0, 30, .inl (fun _ => (0 : Int32))), .inl (cyG G 0, 30, .inl (fun _ => (0 : Int32))), .inl (cyG G 0, 30, .inl (fun _ => (0 : Int32))), .inl (cyG G 0, 30, .inl (fun _ => (0 : Int32))), .inl (cyG G 0, 60, .inl (fun _ => (0 : Int32))), .inl (cyG G 0, 60, .inl (fun _ => (0 : Int32)))]
def blkX12 (G : GT) (q : Nat) : List va_E := .inr (14, [.ref (bG G + (q + 1 + 0)), .ref (bG G + (q + 1 + 1)), .ref (bG G + (q + 1 + 2)), iv 0, .ref (bG G + (q + 1 + 3)), iv 0, iv 0, iv 0, .ref (bG G + (q + 1 + 4)), .ref (bG G + (q + 1 + 5)), iv 0, .ref (bG G + (q + 1 + 6)), .ref (bG G + (q + 1 + 7)), .ref (bG G + (q + 1 + 8)), .ref (bG G + (q + 1 + 9)), .ref (bG G + (q + 1 + 10)), .ref (bG G + (q + 1 + 11)), .ref (bG G + (q + 1 + 12)), iv 0, iv 0, iv 0, iv 0, iv 0, iv 0, .ref (bG G + (q + 1 + 13)), .ref (bG G + (q + 1 + 14)), .ref (bG G + (q + 1 + 15)), .ref (bG G + (q + 1 + 16)), .ref (bG G + (q + 1 + 17)), .ref (bG G + (q + 1 + 18)), .ref (bG G + (q + 1 + 19)), .ref (bG G + (q + 1 + 20)), .ref (bG G + (q + 1 + 21)), iv 0, iv 0, iv 0, iv (-1), .ref (bG G + (q + 1 + 22)), iv 0]) :: rowsX12 G (.inl (cyG G 0, 500, .inl (fun k => J (g0M k))))
theorem blkX12_len {G : GT} : ∀ q, (blkX12 G q).length = 24 := fun q => by simp only [blkX12, rowsX12, List.length_append, List.length_cons, List.length_nil, List.length_replicate, List.length_set, blkX0_len, blkX8_len, blkX2_len, blkX9_len, blkX4_len, blkX3_len, blkX1_len, blkX7_len, blkX6_len, blkX5_len, blkX10_len, blkX11_len]
set_option maxHeartbeats 20000000 in
theorem ce_X12 {G : GT} (hao : AO G) : ∀ pre : List va_E, CallE G 1 23 6724 zX12_init [.ref (bG G + pre.length)] (pre ++ [.inr (14, fsX12)]) (pre ++ blkX12 G pre.length) := by
  intro pre
  refine eo_intro (by decide) rfl (Nat.le_of_ble_eq_true rfl) ?_
  refine ec_aload (j := 0) dX12_init_0 rfl rfl ?_
  refine ec_obj (inA_of (is := [1444, 121, 122]) (by decide +kernel)) dX12_init_1 (by decide) (by decide) ?_
  refine ec_aload (j := 0) dX12_init_4 rfl rfl ?_
  refine ec_sipush (n := 500) dX12_init_5 (by decide) ?_
  refine eo_newa (t := 0) (n := 500) (ty := .int) (j := 0) dX12_init_8 rfl acI rfl rfl (ha_int _) (by decide) (by decide) rfl (by decide) (by decide) ?_
  refine eo_put (k := 0) (ty := .array .int) tyX12 clX12 (by decide) (inA_of (is := [1445]) (by decide +kernel)) tyX12_ok nmX12 rfl rfl (by decide +kernel) rfl rfl (Nat.le_of_ble_eq_true rfl) dX12_init_10 ?_
  refine eo_shape (tl' := [.inl (cyG G 0, 500, .inl (fun _ => (0 : Int32)))]) rfl ?_
  refine eo_shapeX (x' := .inr (14, [.ref (bG G + (pre.length + 1 + 0)), .null, .null, iv 0, .null, iv 0, iv 0, iv 0, .null, .null, iv 0, .null, .null, .null, .null, .null, .null, .null, iv 0, iv 0, iv 0, iv 0, iv 0, iv 0, .null, .null, .null, .null, .null, .null, .null, .null, .null, iv 0, iv 0, iv 0, iv 0, .null, iv 0])) rfl ?_
  refine ec_aload (j := 0) dX12_init_13 rfl rfl ?_
  refine ec_sipush (n := 500) dX12_init_14 (by decide) ?_
  refine eo_newa (t := 0) (n := 500) (ty := .int) (j := 1) dX12_init_17 rfl acI rfl rfl (ha_int _) (by decide) (by decide) rfl (by decide) (by decide) ?_
  refine eo_put (k := 1) (ty := .array .int) tyX12 clX12 (by decide) (inA_of (is := [1446]) (by decide +kernel)) tyX12_ok nmX12 rfl rfl (by decide +kernel) rfl rfl (Nat.le_of_ble_eq_true rfl) dX12_init_19 ?_
  refine eo_shape (tl' := [.inl (cyG G 0, 500, .inl (fun _ => (0 : Int32))), .inl (cyG G 0, 500, .inl (fun _ => (0 : Int32)))]) rfl ?_
  refine eo_shapeX (x' := .inr (14, [.ref (bG G + (pre.length + 1 + 0)), .ref (bG G + (pre.length + 1 + 1)), .null, iv 0, .null, iv 0, iv 0, iv 0, .null, .null, iv 0, .null, .null, .null, .null, .null, .null, .null, iv 0, iv 0, iv 0, iv 0, iv 0, iv 0, .null, .null, .null, .null, .null, .null, .null, .null, .null, iv 0, iv 0, iv 0, iv 0, .null, iv 0])) rfl ?_
  refine ec_aload (j := 0) dX12_init_22 rfl rfl ?_
  refine ec_sipush (n := 500) dX12_init_23 (by decide) ?_
  refine eo_newa (t := 0) (n := 500) (ty := .int) (j := 2) dX12_init_26 rfl acI rfl rfl (ha_int _) (by decide) (by decide) rfl (by decide) (by decide) ?_
  refine eo_put (k := 2) (ty := .array .int) tyX12 clX12 (by decide) (inA_of (is := [1447]) (by decide +kernel)) tyX12_ok nmX12 rfl rfl (by decide +kernel) rfl rfl (Nat.le_of_ble_eq_true rfl) dX12_init_28 ?_
  refine eo_shape (tl' := [.inl (cyG G 0, 500, .inl (fun _ => (0 : Int32))), .inl (cyG G 0, 500, .inl (fun _ => (0 : Int32))), .inl (cyG G 0, 500, .inl (fun _ => (0 : Int32)))]) rfl ?_
  refine eo_shapeX (x' := .inr (14, [.ref (bG G + (pre.length + 1 + 0)), .ref (bG G + (pre.length + 1 + 1)), .ref (bG G + (pre.length + 1 + 2)), iv 0, .null, iv 0, iv 0, iv 0, .null, .null, iv 0, .null, .null, .null, .null, .null, .null, .null, iv 0, iv 0, iv 0, iv 0, iv 0, iv 0, .null, .null, .null, .null, .null, .null, .null, .null, .null, iv 0, iv 0, iv 0, iv 0, .null, iv 0])) rfl ?_
  refine ec_aload (j := 0) dX12_init_31 rfl rfl ?_
  refine ec_sipush (n := 4000) dX12_init_32 (by decide) ?_
  refine eo_newa (t := 0) (n := 4000) (ty := .int) (j := 3) dX12_init_35 rfl acI rfl rfl (ha_int _) (by decide) (by decide) rfl (by decide) (by decide) ?_
  refine eo_put (k := 4) (ty := .array .int) tyX12 clX12 (by decide) (inA_of (is := [1449]) (by decide +kernel)) tyX12_ok nmX12 rfl rfl (by decide +kernel) rfl rfl (Nat.le_of_ble_eq_true rfl) dX12_init_37 ?_
  refine eo_shape (tl' := [.inl (cyG G 0, 500, .inl (fun _ => (0 : Int32))), .inl (cyG G 0, 500, .inl (fun _ => (0 : Int32))), .inl (cyG G 0, 500, .inl (fun _ => (0 : Int32))), .inl (cyG G 0, 4000, .inl (fun _ => (0 : Int32)))]) rfl ?_
  refine eo_shapeX (x' := .inr (14, [.ref (bG G + (pre.length + 1 + 0)), .ref (bG G + (pre.length + 1 + 1)), .ref (bG G + (pre.length + 1 + 2)), iv 0, .ref (bG G + (pre.length + 1 + 3)), iv 0, iv 0, iv 0, .null, .null, iv 0, .null, .null, .null, .null, .null, .null, .null, iv 0, iv 0, iv 0, iv 0, iv 0, iv 0, .null, .null, .null, .null, .null, .null, .null, .null, .null, iv 0, iv 0, iv 0, iv 0, .null, iv 0])) rfl ?_
  refine ec_aload (j := 0) dX12_init_40 rfl rfl ?_
  refine ec_bipush (n := 30) dX12_init_41 (by decide) ?_
  refine eo_newa (t := 0) (n := 30) (ty := .int) (j := 4) dX12_init_43 rfl acI rfl rfl (ha_int _) (by decide) (by decide) rfl (by decide) (by decide) ?_
  refine eo_put (k := 8) (ty := .array .int) tyX12 clX12 (by decide) (inA_of (is := [1453]) (by decide +kernel)) tyX12_ok nmX12 rfl rfl (by decide +kernel) rfl rfl (Nat.le_of_ble_eq_true rfl) dX12_init_45 ?_
  refine eo_shape (tl' := [.inl (cyG G 0, 500, .inl (fun _ => (0 : Int32))), .inl (cyG G 0, 500, .inl (fun _ => (0 : Int32))), .inl (cyG G 0, 500, .inl (fun _ => (0 : Int32))), .inl (cyG G 0, 4000, .inl (fun _ => (0 : Int32))), .inl (cyG G 0, 30, .inl (fun _ => (0 : Int32)))]) rfl ?_
  refine eo_shapeX (x' := .inr (14, [.ref (bG G + (pre.length + 1 + 0)), .ref (bG G + (pre.length + 1 + 1)), .ref (bG G + (pre.length + 1 + 2)), iv 0, .ref (bG G + (pre.length + 1 + 3)), iv 0, iv 0, iv 0, .ref (bG G + (pre.length + 1 + 4)), .null, iv 0, .null, .null, .null, .null, .null, .null, .null, iv 0, iv 0, iv 0, iv 0, iv 0, iv 0, .null, .null, .null, .null, .null, .null, .null, .null, .null, iv 0, iv 0, iv 0, iv 0, .null, iv 0])) rfl ?_
  refine ec_aload (j := 0) dX12_init_48 rfl rfl ?_
  refine ec_bipush (n := 30) dX12_init_49 (by decide) ?_
  refine eo_newa (t := 0) (n := 30) (ty := .int) (j := 5) dX12_init_51 rfl acI rfl rfl (ha_int _) (by decide) (by decide) rfl (by decide) (by decide) ?_
  refine eo_put (k := 9) (ty := .array .int) tyX12 clX12 (by decide) (inA_of (is := [1454]) (by decide +kernel)) tyX12_ok nmX12 rfl rfl (by decide +kernel) rfl rfl (Nat.le_of_ble_eq_true rfl) dX12_init_53 ?_
  refine eo_shape (tl' := [.inl (cyG G 0, 500, .inl (fun _ => (0 : Int32))), .inl (cyG G 0, 500, .inl (fun _ => (0 : Int32))), .inl (cyG G 0, 500, .inl (fun _ => (0 : Int32))), .inl (cyG G 0, 4000, .inl (fun _ => (0 : Int32))), .inl (cyG G 0, 30, .inl (fun _ => (0 : Int32))), .inl (cyG G 0, 30, .inl (fun _ => (0 : Int32)))]) rfl ?_
  refine eo_shapeX (x' := .inr (14, [.ref (bG G + (pre.length + 1 + 0)), .ref (bG G + (pre.length + 1 + 1)), .ref (bG G + (pre.length + 1 + 2)), iv 0, .ref (bG G + (pre.length + 1 + 3)), iv 0, iv 0, iv 0, .ref (bG G + (pre.length + 1 + 4)), .ref (bG G + (pre.length + 1 + 5)), iv 0, .null, .null, .null, .null, .null, .null, .null, iv 0, iv 0, iv 0, iv 0, iv 0, iv 0, .null, .null, .null, .null, .null, .null, .null, .null, .null, iv 0, iv 0, iv 0, iv 0, .null, iv 0])) rfl ?_
  refine ec_aload (j := 0) dX12_init_56 rfl rfl ?_
  refine ec_bipush (n := 30) dX12_init_57 (by decide) ?_
  refine eo_newa (t := 0) (n := 30) (ty := .int) (j := 6) dX12_init_59 rfl acI rfl rfl (ha_int _) (by decide) (by decide) rfl (by decide) (by decide) ?_
  refine eo_put (k := 11) (ty := .array .int) tyX12 clX12 (by decide) (inA_of (is := [1456]) (by decide +kernel)) tyX12_ok nmX12 rfl rfl (by decide +kernel) rfl rfl (Nat.le_of_ble_eq_true rfl) dX12_init_61 ?_
  refine eo_shape (tl' := [.inl (cyG G 0, 500, .inl (fun _ => (0 : Int32))), .inl (cyG G 0, 500, .inl (fun _ => (0 : Int32))), .inl (cyG G 0, 500, .inl (fun _ => (0 : Int32))), .inl (cyG G 0, 4000, .inl (fun _ => (0 : Int32))), .inl (cyG G 0, 30, .inl (fun _ => (0 : Int32))), .inl (cyG G 0, 30, .inl (fun _ => (0 : Int32))), .inl (cyG G 0, 30, .inl (fun _ => (0 : Int32)))]) rfl ?_
  refine eo_shapeX (x' := .inr (14, [.ref (bG G + (pre.length + 1 + 0)), .ref (bG G + (pre.length + 1 + 1)), .ref (bG G + (pre.length + 1 + 2)), iv 0, .ref (bG G + (pre.length + 1 + 3)), iv 0, iv 0, iv 0, .ref (bG G + (pre.length + 1 + 4)), .ref (bG G + (pre.length + 1 + 5)), iv 0, .ref (bG G + (pre.length + 1 + 6)), .null, .null, .null, .null, .null, .null, iv 0, iv 0, iv 0, iv 0, iv 0, iv 0, .null, .null, .null, .null, .null, .null, .null, .null, .null, iv 0, iv 0, iv 0, iv 0, .null, iv 0])) rfl ?_
  refine ec_aload (j := 0) dX12_init_64 rfl rfl ?_
  refine ec_bipush (n := 10) dX12_init_65 (by decide) ?_
  refine eo_newa (t := 0) (n := 10) (ty := .int) (j := 7) dX12_init_67 rfl acI rfl rfl (ha_int _) (by decide) (by decide) rfl (by decide) (by decide) ?_
  refine eo_put (k := 12) (ty := .array .int) tyX12 clX12 (by decide) (inA_of (is := [1457]) (by decide +kernel)) tyX12_ok nmX12 rfl rfl (by decide +kernel) rfl rfl (Nat.le_of_ble_eq_true rfl) dX12_init_69 ?_
  refine eo_shape (tl' := [.inl (cyG G 0, 500, .inl (fun _ => (0 : Int32))), .inl (cyG G 0, 500, .inl (fun _ => (0 : Int32))), .inl (cyG G 0, 500, .inl (fun _ => (0 : Int32))), .inl (cyG G 0, 4000, .inl (fun _ => (0 : Int32))), .inl (cyG G 0, 30, .inl (fun _ => (0 : Int32))), .inl (cyG G 0, 30, .inl (fun _ => (0 : Int32))), .inl (cyG G 0, 30, .inl (fun _ => (0 : Int32))), .inl (cyG G 0, 10, .inl (fun _ => (0 : Int32)))]) rfl ?_
  refine eo_shapeX (x' := .inr (14, [.ref (bG G + (pre.length + 1 + 0)), .ref (bG G + (pre.length + 1 + 1)), .ref (bG G + (pre.length + 1 + 2)), iv 0, .ref (bG G + (pre.length + 1 + 3)), iv 0, iv 0, iv 0, .ref (bG G + (pre.length + 1 + 4)), .ref (bG G + (pre.length + 1 + 5)), iv 0, .ref (bG G + (pre.length + 1 + 6)), .ref (bG G + (pre.length + 1 + 7)), .null, .null, .null, .null, .null, iv 0, iv 0, iv 0, iv 0, iv 0, iv 0, .null, .null, .null, .null, .null, .null, .null, .null, .null, iv 0, iv 0, iv 0, iv 0, .null, iv 0])) rfl ?_
  refine ec_aload (j := 0) dX12_init_72 rfl rfl ?_
  refine ec_bipush (n := 10) dX12_init_73 (by decide) ?_
  refine eo_newa (t := 0) (n := 10) (ty := .int) (j := 8) dX12_init_75 rfl acI rfl rfl (ha_int _) (by decide) (by decide) rfl (by decide) (by decide) ?_
  refine eo_put (k := 13) (ty := .array .int) tyX12 clX12 (by decide) (inA_of (is := [1458]) (by decide +kernel)) tyX12_ok nmX12 rfl rfl (by decide +kernel) rfl rfl (Nat.le_of_ble_eq_true rfl) dX12_init_77 ?_
  refine eo_shape (tl' := [.inl (cyG G 0, 500, .inl (fun _ => (0 : Int32))), .inl (cyG G 0, 500, .inl (fun _ => (0 : Int32))), .inl (cyG G 0, 500, .inl (fun _ => (0 : Int32))), .inl (cyG G 0, 4000, .inl (fun _ => (0 : Int32))), .inl (cyG G 0, 30, .inl (fun _ => (0 : Int32))), .inl (cyG G 0, 30, .inl (fun _ => (0 : Int32))), .inl (cyG G 0, 30, .inl (fun _ => (0 : Int32))), .inl (cyG G 0, 10, .inl (fun _ => (0 : Int32))), .inl (cyG G 0, 10, .inl (fun _ => (0 : Int32)))]) rfl ?_
  refine eo_shapeX (x' := .inr (14, [.ref (bG G + (pre.length + 1 + 0)), .ref (bG G + (pre.length + 1 + 1)), .ref (bG G + (pre.length + 1 + 2)), iv 0, .ref (bG G + (pre.length + 1 + 3)), iv 0, iv 0, iv 0, .ref (bG G + (pre.length + 1 + 4)), .ref (bG G + (pre.length + 1 + 5)), iv 0, .ref (bG G + (pre.length + 1 + 6)), .ref (bG G + (pre.length + 1 + 7)), .ref (bG G + (pre.length + 1 + 8)), .null, .null, .null, .null, iv 0, iv 0, iv 0, iv 0, iv 0, iv 0, .null, .null, .null, .null, .null, .null, .null, .null, .null, iv 0, iv 0, iv 0, iv 0, .null, iv 0])) rfl ?_
  refine ec_aload (j := 0) dX12_init_80 rfl rfl ?_
  refine ec_bipush (n := 10) dX12_init_81 (by decide) ?_
  refine eo_newa (t := 0) (n := 10) (ty := .int) (j := 9) dX12_init_83 rfl acI rfl rfl (ha_int _) (by decide) (by decide) rfl (by decide) (by decide) ?_
  refine eo_put (k := 14) (ty := .array .int) tyX12 clX12 (by decide) (inA_of (is := [1459]) (by decide +kernel)) tyX12_ok nmX12 rfl rfl (by decide +kernel) rfl rfl (Nat.le_of_ble_eq_true rfl) dX12_init_85 ?_
  refine eo_shape (tl' := [.inl (cyG G 0, 500, .inl (fun _ => (0 : Int32))), .inl (cyG G 0, 500, .inl (fun _ => (0 : Int32))), .inl (cyG G 0, 500, .inl (fun _ => (0 : Int32))), .inl (cyG G 0, 4000, .inl (fun _ => (0 : Int32))), .inl (cyG G 0, 30, .inl (fun _ => (0 : Int32))), .inl (cyG G 0, 30, .inl (fun _ => (0 : Int32))), .inl (cyG G 0, 30, .inl (fun _ => (0 : Int32))), .inl (cyG G 0, 10, .inl (fun _ => (0 : Int32))), .inl (cyG G 0, 10, .inl (fun _ => (0 : Int32))), .inl (cyG G 0, 10, .inl (fun _ => (0 : Int32)))]) rfl ?_
  refine eo_shapeX (x' := .inr (14, [.ref (bG G + (pre.length + 1 + 0)), .ref (bG G + (pre.length + 1 + 1)), .ref (bG G + (pre.length + 1 + 2)), iv 0, .ref (bG G + (pre.length + 1 + 3)), iv 0, iv 0, iv 0, .ref (bG G + (pre.length + 1 + 4)), .ref (bG G + (pre.length + 1 + 5)), iv 0, .ref (bG G + (pre.length + 1 + 6)), .ref (bG G + (pre.length + 1 + 7)), .ref (bG G + (pre.length + 1 + 8)), .ref (bG G + (pre.length + 1 + 9)), .null, .null, .null, iv 0, iv 0, iv 0, iv 0, iv 0, iv 0, .null, .null, .null, .null, .null, .null, .null, .null, .null, iv 0, iv 0, iv 0, iv 0, .null, iv 0])) rfl ?_
  refine ec_aload (j := 0) dX12_init_88 rfl rfl ?_
  refine ec_bipush (n := 24) dX12_init_89 (by decide) ?_
  refine eo_newa (t := 0) (n := 24) (ty := .int) (j := 10) dX12_init_91 rfl acI rfl rfl (ha_int _) (by decide) (by decide) rfl (by decide) (by decide) ?_
  refine eo_put (k := 15) (ty := .array .int) tyX12 clX12 (by decide) (inA_of (is := [1460]) (by decide +kernel)) tyX12_ok nmX12 rfl rfl (by decide +kernel) rfl rfl (Nat.le_of_ble_eq_true rfl) dX12_init_93 ?_
  refine eo_shape (tl' := [.inl (cyG G 0, 500, .inl (fun _ => (0 : Int32))), .inl (cyG G 0, 500, .inl (fun _ => (0 : Int32))), .inl (cyG G 0, 500, .inl (fun _ => (0 : Int32))), .inl (cyG G 0, 4000, .inl (fun _ => (0 : Int32))), .inl (cyG G 0, 30, .inl (fun _ => (0 : Int32))), .inl (cyG G 0, 30, .inl (fun _ => (0 : Int32))), .inl (cyG G 0, 30, .inl (fun _ => (0 : Int32))), .inl (cyG G 0, 10, .inl (fun _ => (0 : Int32))), .inl (cyG G 0, 10, .inl (fun _ => (0 : Int32))), .inl (cyG G 0, 10, .inl (fun _ => (0 : Int32))), .inl (cyG G 0, 24, .inl (fun _ => (0 : Int32)))]) rfl ?_
  refine eo_shapeX (x' := .inr (14, [.ref (bG G + (pre.length + 1 + 0)), .ref (bG G + (pre.length + 1 + 1)), .ref (bG G + (pre.length + 1 + 2)), iv 0, .ref (bG G + (pre.length + 1 + 3)), iv 0, iv 0, iv 0, .ref (bG G + (pre.length + 1 + 4)), .ref (bG G + (pre.length + 1 + 5)), iv 0, .ref (bG G + (pre.length + 1 + 6)), .ref (bG G + (pre.length + 1 + 7)), .ref (bG G + (pre.length + 1 + 8)), .ref (bG G + (pre.length + 1 + 9)), .ref (bG G + (pre.length + 1 + 10)), .null, .null, iv 0, iv 0, iv 0, iv 0, iv 0, iv 0, .null, .null, .null, .null, .null, .null, .null, .null, .null, iv 0, iv 0, iv 0, iv 0, .null, iv 0])) rfl ?_
  refine ec_aload (j := 0) dX12_init_96 rfl rfl ?_
  refine ec_sipush (n := 360) dX12_init_97 (by decide) ?_
  refine eo_newa (t := 0) (n := 360) (ty := .int) (j := 11) dX12_init_100 rfl acI rfl rfl (ha_int _) (by decide) (by decide) rfl (by decide) (by decide) ?_
  refine eo_put (k := 16) (ty := .array .int) tyX12 clX12 (by decide) (inA_of (is := [1461]) (by decide +kernel)) tyX12_ok nmX12 rfl rfl (by decide +kernel) rfl rfl (Nat.le_of_ble_eq_true rfl) dX12_init_102 ?_
  refine eo_shape (tl' := [.inl (cyG G 0, 500, .inl (fun _ => (0 : Int32))), .inl (cyG G 0, 500, .inl (fun _ => (0 : Int32))), .inl (cyG G 0, 500, .inl (fun _ => (0 : Int32))), .inl (cyG G 0, 4000, .inl (fun _ => (0 : Int32))), .inl (cyG G 0, 30, .inl (fun _ => (0 : Int32))), .inl (cyG G 0, 30, .inl (fun _ => (0 : Int32))), .inl (cyG G 0, 30, .inl (fun _ => (0 : Int32))), .inl (cyG G 0, 10, .inl (fun _ => (0 : Int32))), .inl (cyG G 0, 10, .inl (fun _ => (0 : Int32))), .inl (cyG G 0, 10, .inl (fun _ => (0 : Int32))), .inl (cyG G 0, 24, .inl (fun _ => (0 : Int32))), .inl (cyG G 0, 360, .inl (fun _ => (0 : Int32)))]) rfl ?_
  refine eo_shapeX (x' := .inr (14, [.ref (bG G + (pre.length + 1 + 0)), .ref (bG G + (pre.length + 1 + 1)), .ref (bG G + (pre.length + 1 + 2)), iv 0, .ref (bG G + (pre.length + 1 + 3)), iv 0, iv 0, iv 0, .ref (bG G + (pre.length + 1 + 4)), .ref (bG G + (pre.length + 1 + 5)), iv 0, .ref (bG G + (pre.length + 1 + 6)), .ref (bG G + (pre.length + 1 + 7)), .ref (bG G + (pre.length + 1 + 8)), .ref (bG G + (pre.length + 1 + 9)), .ref (bG G + (pre.length + 1 + 10)), .ref (bG G + (pre.length + 1 + 11)), .null, iv 0, iv 0, iv 0, iv 0, iv 0, iv 0, .null, .null, .null, .null, .null, .null, .null, .null, .null, iv 0, iv 0, iv 0, iv 0, .null, iv 0])) rfl ?_
  refine ec_aload (j := 0) dX12_init_105 rfl rfl ?_
  refine ec_sipush (n := 360) dX12_init_106 (by decide) ?_
  refine eo_newa (t := 0) (n := 360) (ty := .int) (j := 12) dX12_init_109 rfl acI rfl rfl (ha_int _) (by decide) (by decide) rfl (by decide) (by decide) ?_
  refine eo_put (k := 17) (ty := .array .int) tyX12 clX12 (by decide) (inA_of (is := [1462]) (by decide +kernel)) tyX12_ok nmX12 rfl rfl (by decide +kernel) rfl rfl (Nat.le_of_ble_eq_true rfl) dX12_init_111 ?_
  refine eo_shape (tl' := [.inl (cyG G 0, 500, .inl (fun _ => (0 : Int32))), .inl (cyG G 0, 500, .inl (fun _ => (0 : Int32))), .inl (cyG G 0, 500, .inl (fun _ => (0 : Int32))), .inl (cyG G 0, 4000, .inl (fun _ => (0 : Int32))), .inl (cyG G 0, 30, .inl (fun _ => (0 : Int32))), .inl (cyG G 0, 30, .inl (fun _ => (0 : Int32))), .inl (cyG G 0, 30, .inl (fun _ => (0 : Int32))), .inl (cyG G 0, 10, .inl (fun _ => (0 : Int32))), .inl (cyG G 0, 10, .inl (fun _ => (0 : Int32))), .inl (cyG G 0, 10, .inl (fun _ => (0 : Int32))), .inl (cyG G 0, 24, .inl (fun _ => (0 : Int32))), .inl (cyG G 0, 360, .inl (fun _ => (0 : Int32))), .inl (cyG G 0, 360, .inl (fun _ => (0 : Int32)))]) rfl ?_
  refine eo_shapeX (x' := .inr (14, [.ref (bG G + (pre.length + 1 + 0)), .ref (bG G + (pre.length + 1 + 1)), .ref (bG G + (pre.length + 1 + 2)), iv 0, .ref (bG G + (pre.length + 1 + 3)), iv 0, iv 0, iv 0, .ref (bG G + (pre.length + 1 + 4)), .ref (bG G + (pre.length + 1 + 5)), iv 0, .ref (bG G + (pre.length + 1 + 6)), .ref (bG G + (pre.length + 1 + 7)), .ref (bG G + (pre.length + 1 + 8)), .ref (bG G + (pre.length + 1 + 9)), .ref (bG G + (pre.length + 1 + 10)), .ref (bG G + (pre.length + 1 + 11)), .ref (bG G + (pre.length + 1 + 12)), iv 0, iv 0, iv 0, iv 0, iv 0, iv 0, .null, .null, .null, .null, .null, .null, .null, .null, .null, iv 0, iv 0, iv 0, iv 0, .null, iv 0])) rfl ?_
  refine ec_aload (j := 0) dX12_init_114 rfl rfl ?_
  refine ec_bipush (n := 30) dX12_init_115 (by decide) ?_
  refine eo_newa (t := 0) (n := 30) (ty := .int) (j := 13) dX12_init_117 rfl acI rfl rfl (ha_int _) (by decide) (by decide) rfl (by decide) (by decide) ?_
  refine eo_put (k := 24) (ty := .array .int) tyX12 clX12 (by decide) (inA_of (is := [1469]) (by decide +kernel)) tyX12_ok nmX12 rfl rfl (by decide +kernel) rfl rfl (Nat.le_of_ble_eq_true rfl) dX12_init_119 ?_
  refine eo_shape (tl' := [.inl (cyG G 0, 500, .inl (fun _ => (0 : Int32))), .inl (cyG G 0, 500, .inl (fun _ => (0 : Int32))), .inl (cyG G 0, 500, .inl (fun _ => (0 : Int32))), .inl (cyG G 0, 4000, .inl (fun _ => (0 : Int32))), .inl (cyG G 0, 30, .inl (fun _ => (0 : Int32))), .inl (cyG G 0, 30, .inl (fun _ => (0 : Int32))), .inl (cyG G 0, 30, .inl (fun _ => (0 : Int32))), .inl (cyG G 0, 10, .inl (fun _ => (0 : Int32))), .inl (cyG G 0, 10, .inl (fun _ => (0 : Int32))), .inl (cyG G 0, 10, .inl (fun _ => (0 : Int32))), .inl (cyG G 0, 24, .inl (fun _ => (0 : Int32))), .inl (cyG G 0, 360, .inl (fun _ => (0 : Int32))), .inl (cyG G 0, 360, .inl (fun _ => (0 : Int32))), .inl (cyG G 0, 30, .inl (fun _ => (0 : Int32)))]) rfl ?_
  refine eo_shapeX (x' := .inr (14, [.ref (bG G + (pre.length + 1 + 0)), .ref (bG G + (pre.length + 1 + 1)), .ref (bG G + (pre.length + 1 + 2)), iv 0, .ref (bG G + (pre.length + 1 + 3)), iv 0, iv 0, iv 0, .ref (bG G + (pre.length + 1 + 4)), .ref (bG G + (pre.length + 1 + 5)), iv 0, .ref (bG G + (pre.length + 1 + 6)), .ref (bG G + (pre.length + 1 + 7)), .ref (bG G + (pre.length + 1 + 8)), .ref (bG G + (pre.length + 1 + 9)), .ref (bG G + (pre.length + 1 + 10)), .ref (bG G + (pre.length + 1 + 11)), .ref (bG G + (pre.length + 1 + 12)), iv 0, iv 0, iv 0, iv 0, iv 0, iv 0, .ref (bG G + (pre.length + 1 + 13)), .null, .null, .null, .null, .null, .null, .null, .null, iv 0, iv 0, iv 0, iv 0, .null, iv 0])) rfl ?_
  refine ec_aload (j := 0) dX12_init_122 rfl rfl ?_
  refine ec_bipush (n := 30) dX12_init_123 (by decide) ?_
  refine eo_newa (t := 1) (n := 30) (ty := .boolean) (j := 14) dX12_init_125 rfl acZ rfl rfl (ha_boo _) (by decide) (by decide) rfl (by decide) (by decide) ?_
  refine eo_put (k := 25) (ty := .array .boolean) tyX12 clX12 (by decide) (inA_of (is := [1470]) (by decide +kernel)) tyX12_ok nmX12 rfl rfl (by decide +kernel) rfl rfl (Nat.le_of_ble_eq_true rfl) dX12_init_127 ?_
  refine eo_shape (tl' := [.inl (cyG G 0, 500, .inl (fun _ => (0 : Int32))), .inl (cyG G 0, 500, .inl (fun _ => (0 : Int32))), .inl (cyG G 0, 500, .inl (fun _ => (0 : Int32))), .inl (cyG G 0, 4000, .inl (fun _ => (0 : Int32))), .inl (cyG G 0, 30, .inl (fun _ => (0 : Int32))), .inl (cyG G 0, 30, .inl (fun _ => (0 : Int32))), .inl (cyG G 0, 30, .inl (fun _ => (0 : Int32))), .inl (cyG G 0, 10, .inl (fun _ => (0 : Int32))), .inl (cyG G 0, 10, .inl (fun _ => (0 : Int32))), .inl (cyG G 0, 10, .inl (fun _ => (0 : Int32))), .inl (cyG G 0, 24, .inl (fun _ => (0 : Int32))), .inl (cyG G 0, 360, .inl (fun _ => (0 : Int32))), .inl (cyG G 0, 360, .inl (fun _ => (0 : Int32))), .inl (cyG G 0, 30, .inl (fun _ => (0 : Int32))), .inl (cyG G 1, 30, .inl (fun _ => (0 : Int32)))]) rfl ?_
  refine eo_shapeX (x' := .inr (14, [.ref (bG G + (pre.length + 1 + 0)), .ref (bG G + (pre.length + 1 + 1)), .ref (bG G + (pre.length + 1 + 2)), iv 0, .ref (bG G + (pre.length + 1 + 3)), iv 0, iv 0, iv 0, .ref (bG G + (pre.length + 1 + 4)), .ref (bG G + (pre.length + 1 + 5)), iv 0, .ref (bG G + (pre.length + 1 + 6)), .ref (bG G + (pre.length + 1 + 7)), .ref (bG G + (pre.length + 1 + 8)), .ref (bG G + (pre.length + 1 + 9)), .ref (bG G + (pre.length + 1 + 10)), .ref (bG G + (pre.length + 1 + 11)), .ref (bG G + (pre.length + 1 + 12)), iv 0, iv 0, iv 0, iv 0, iv 0, iv 0, .ref (bG G + (pre.length + 1 + 13)), .ref (bG G + (pre.length + 1 + 14)), .null, .null, .null, .null, .null, .null, .null, iv 0, iv 0, iv 0, iv 0, .null, iv 0])) rfl ?_
  refine ec_aload (j := 0) dX12_init_130 rfl rfl ?_
  refine ec_bipush (n := 30) dX12_init_131 (by decide) ?_
  refine eo_newa (t := 0) (n := 30) (ty := .int) (j := 15) dX12_init_133 rfl acI rfl rfl (ha_int _) (by decide) (by decide) rfl (by decide) (by decide) ?_
  refine eo_put (k := 26) (ty := .array .int) tyX12 clX12 (by decide) (inA_of (is := [1471]) (by decide +kernel)) tyX12_ok nmX12 rfl rfl (by decide +kernel) rfl rfl (Nat.le_of_ble_eq_true rfl) dX12_init_135 ?_
  refine eo_shape (tl' := [.inl (cyG G 0, 500, .inl (fun _ => (0 : Int32))), .inl (cyG G 0, 500, .inl (fun _ => (0 : Int32))), .inl (cyG G 0, 500, .inl (fun _ => (0 : Int32))), .inl (cyG G 0, 4000, .inl (fun _ => (0 : Int32))), .inl (cyG G 0, 30, .inl (fun _ => (0 : Int32))), .inl (cyG G 0, 30, .inl (fun _ => (0 : Int32))), .inl (cyG G 0, 30, .inl (fun _ => (0 : Int32))), .inl (cyG G 0, 10, .inl (fun _ => (0 : Int32))), .inl (cyG G 0, 10, .inl (fun _ => (0 : Int32))), .inl (cyG G 0, 10, .inl (fun _ => (0 : Int32))), .inl (cyG G 0, 24, .inl (fun _ => (0 : Int32))), .inl (cyG G 0, 360, .inl (fun _ => (0 : Int32))), .inl (cyG G 0, 360, .inl (fun _ => (0 : Int32))), .inl (cyG G 0, 30, .inl (fun _ => (0 : Int32))), .inl (cyG G 1, 30, .inl (fun _ => (0 : Int32))), .inl (cyG G 0, 30, .inl (fun _ => (0 : Int32)))]) rfl ?_
  refine eo_shapeX (x' := .inr (14, [.ref (bG G + (pre.length + 1 + 0)), .ref (bG G + (pre.length + 1 + 1)), .ref (bG G + (pre.length + 1 + 2)), iv 0, .ref (bG G + (pre.length + 1 + 3)), iv 0, iv 0, iv 0, .ref (bG G + (pre.length + 1 + 4)), .ref (bG G + (pre.length + 1 + 5)), iv 0, .ref (bG G + (pre.length + 1 + 6)), .ref (bG G + (pre.length + 1 + 7)), .ref (bG G + (pre.length + 1 + 8)), .ref (bG G + (pre.length + 1 + 9)), .ref (bG G + (pre.length + 1 + 10)), .ref (bG G + (pre.length + 1 + 11)), .ref (bG G + (pre.length + 1 + 12)), iv 0, iv 0, iv 0, iv 0, iv 0, iv 0, .ref (bG G + (pre.length + 1 + 13)), .ref (bG G + (pre.length + 1 + 14)), .ref (bG G + (pre.length + 1 + 15)), .null, .null, .null, .null, .null, .null, iv 0, iv 0, iv 0, iv 0, .null, iv 0])) rfl ?_
  refine ec_aload (j := 0) dX12_init_138 rfl rfl ?_
  refine ec_bipush (n := 30) dX12_init_139 (by decide) ?_
  refine eo_newa (t := 0) (n := 30) (ty := .int) (j := 16) dX12_init_141 rfl acI rfl rfl (ha_int _) (by decide) (by decide) rfl (by decide) (by decide) ?_
  refine eo_put (k := 27) (ty := .array .int) tyX12 clX12 (by decide) (inA_of (is := [1472]) (by decide +kernel)) tyX12_ok nmX12 rfl rfl (by decide +kernel) rfl rfl (Nat.le_of_ble_eq_true rfl) dX12_init_143 ?_
  refine eo_shape (tl' := [.inl (cyG G 0, 500, .inl (fun _ => (0 : Int32))), .inl (cyG G 0, 500, .inl (fun _ => (0 : Int32))), .inl (cyG G 0, 500, .inl (fun _ => (0 : Int32))), .inl (cyG G 0, 4000, .inl (fun _ => (0 : Int32))), .inl (cyG G 0, 30, .inl (fun _ => (0 : Int32))), .inl (cyG G 0, 30, .inl (fun _ => (0 : Int32))), .inl (cyG G 0, 30, .inl (fun _ => (0 : Int32))), .inl (cyG G 0, 10, .inl (fun _ => (0 : Int32))), .inl (cyG G 0, 10, .inl (fun _ => (0 : Int32))), .inl (cyG G 0, 10, .inl (fun _ => (0 : Int32))), .inl (cyG G 0, 24, .inl (fun _ => (0 : Int32))), .inl (cyG G 0, 360, .inl (fun _ => (0 : Int32))), .inl (cyG G 0, 360, .inl (fun _ => (0 : Int32))), .inl (cyG G 0, 30, .inl (fun _ => (0 : Int32))), .inl (cyG G 1, 30, .inl (fun _ => (0 : Int32))), .inl (cyG G 0, 30, .inl (fun _ => (0 : Int32))), .inl (cyG G 0, 30, .inl (fun _ => (0 : Int32)))]) rfl ?_
  refine eo_shapeX (x' := .inr (14, [.ref (bG G + (pre.length + 1 + 0)), .ref (bG G + (pre.length + 1 + 1)), .ref (bG G + (pre.length + 1 + 2)), iv 0, .ref (bG G + (pre.length + 1 + 3)), iv 0, iv 0, iv 0, .ref (bG G + (pre.length + 1 + 4)), .ref (bG G + (pre.length + 1 + 5)), iv 0, .ref (bG G + (pre.length + 1 + 6)), .ref (bG G + (pre.length + 1 + 7)), .ref (bG G + (pre.length + 1 + 8)), .ref (bG G + (pre.length + 1 + 9)), .ref (bG G + (pre.length + 1 + 10)), .ref (bG G + (pre.length + 1 + 11)), .ref (bG G + (pre.length + 1 + 12)), iv 0, iv 0, iv 0, iv 0, iv 0, iv 0, .ref (bG G + (pre.length + 1 + 13)), .ref (bG G + (pre.length + 1 + 14)), .ref (bG G + (pre.length + 1 + 15)), .ref (bG G + (pre.length + 1 + 16)), .null, .null, .null, .null, .null, iv 0, iv 0, iv 0, iv 0, .null, iv 0])) rfl ?_
  refine ec_aload (j := 0) dX12_init_146 rfl rfl ?_
  refine ec_bipush (n := 30) dX12_init_147 (by decide) ?_
  refine eo_newa (t := 0) (n := 30) (ty := .int) (j := 17) dX12_init_149 rfl acI rfl rfl (ha_int _) (by decide) (by decide) rfl (by decide) (by decide) ?_
  refine eo_put (k := 28) (ty := .array .int) tyX12 clX12 (by decide) (inA_of (is := [1473]) (by decide +kernel)) tyX12_ok nmX12 rfl rfl (by decide +kernel) rfl rfl (Nat.le_of_ble_eq_true rfl) dX12_init_151 ?_
  refine eo_shape (tl' := [.inl (cyG G 0, 500, .inl (fun _ => (0 : Int32))), .inl (cyG G 0, 500, .inl (fun _ => (0 : Int32))), .inl (cyG G 0, 500, .inl (fun _ => (0 : Int32))), .inl (cyG G 0, 4000, .inl (fun _ => (0 : Int32))), .inl (cyG G 0, 30, .inl (fun _ => (0 : Int32))), .inl (cyG G 0, 30, .inl (fun _ => (0 : Int32))), .inl (cyG G 0, 30, .inl (fun _ => (0 : Int32))), .inl (cyG G 0, 10, .inl (fun _ => (0 : Int32))), .inl (cyG G 0, 10, .inl (fun _ => (0 : Int32))), .inl (cyG G 0, 10, .inl (fun _ => (0 : Int32))), .inl (cyG G 0, 24, .inl (fun _ => (0 : Int32))), .inl (cyG G 0, 360, .inl (fun _ => (0 : Int32))), .inl (cyG G 0, 360, .inl (fun _ => (0 : Int32))), .inl (cyG G 0, 30, .inl (fun _ => (0 : Int32))), .inl (cyG G 1, 30, .inl (fun _ => (0 : Int32))), .inl (cyG G 0, 30, .inl (fun _ => (0 : Int32))), .inl (cyG G 0, 30, .inl (fun _ => (0 : Int32))), .inl (cyG G 0, 30, .inl (fun _ => (0 : Int32)))]) rfl ?_
  refine eo_shapeX (x' := .inr (14, [.ref (bG G + (pre.length + 1 + 0)), .ref (bG G + (pre.length + 1 + 1)), .ref (bG G + (pre.length + 1 + 2)), iv 0, .ref (bG G + (pre.length + 1 + 3)), iv 0, iv 0, iv 0, .ref (bG G + (pre.length + 1 + 4)), .ref (bG G + (pre.length + 1 + 5)), iv 0, .ref (bG G + (pre.length + 1 + 6)), .ref (bG G + (pre.length + 1 + 7)), .ref (bG G + (pre.length + 1 + 8)), .ref (bG G + (pre.length + 1 + 9)), .ref (bG G + (pre.length + 1 + 10)), .ref (bG G + (pre.length + 1 + 11)), .ref (bG G + (pre.length + 1 + 12)), iv 0, iv 0, iv 0, iv 0, iv 0, iv 0, .ref (bG G + (pre.length + 1 + 13)), .ref (bG G + (pre.length + 1 + 14)), .ref (bG G + (pre.length + 1 + 15)), .ref (bG G + (pre.length + 1 + 16)), .ref (bG G + (pre.length + 1 + 17)), .null, .null, .null, .null, iv 0, iv 0, iv 0, iv 0, .null, iv 0])) rfl ?_
  refine ec_aload (j := 0) dX12_init_154 rfl rfl ?_
  refine ec_bipush (n := 30) dX12_init_155 (by decide) ?_
  refine eo_newa (t := 0) (n := 30) (ty := .int) (j := 18) dX12_init_157 rfl acI rfl rfl (ha_int _) (by decide) (by decide) rfl (by decide) (by decide) ?_
  refine eo_put (k := 29) (ty := .array .int) tyX12 clX12 (by decide) (inA_of (is := [1474]) (by decide +kernel)) tyX12_ok nmX12 rfl rfl (by decide +kernel) rfl rfl (Nat.le_of_ble_eq_true rfl) dX12_init_159 ?_
  refine eo_shape (tl' := [.inl (cyG G 0, 500, .inl (fun _ => (0 : Int32))), .inl (cyG G 0, 500, .inl (fun _ => (0 : Int32))), .inl (cyG G 0, 500, .inl (fun _ => (0 : Int32))), .inl (cyG G 0, 4000, .inl (fun _ => (0 : Int32))), .inl (cyG G 0, 30, .inl (fun _ => (0 : Int32))), .inl (cyG G 0, 30, .inl (fun _ => (0 : Int32))), .inl (cyG G 0, 30, .inl (fun _ => (0 : Int32))), .inl (cyG G 0, 10, .inl (fun _ => (0 : Int32))), .inl (cyG G 0, 10, .inl (fun _ => (0 : Int32))), .inl (cyG G 0, 10, .inl (fun _ => (0 : Int32))), .inl (cyG G 0, 24, .inl (fun _ => (0 : Int32))), .inl (cyG G 0, 360, .inl (fun _ => (0 : Int32))), .inl (cyG G 0, 360, .inl (fun _ => (0 : Int32))), .inl (cyG G 0, 30, .inl (fun _ => (0 : Int32))), .inl (cyG G 1, 30, .inl (fun _ => (0 : Int32))), .inl (cyG G 0, 30, .inl (fun _ => (0 : Int32))), .inl (cyG G 0, 30, .inl (fun _ => (0 : Int32))), .inl (cyG G 0, 30, .inl (fun _ => (0 : Int32))), .inl (cyG G 0, 30, .inl (fun _ => (0 : Int32)))]) rfl ?_
  refine eo_shapeX (x' := .inr (14, [.ref (bG G + (pre.length + 1 + 0)), .ref (bG G + (pre.length + 1 + 1)), .ref (bG G + (pre.length + 1 + 2)), iv 0, .ref (bG G + (pre.length + 1 + 3)), iv 0, iv 0, iv 0, .ref (bG G + (pre.length + 1 + 4)), .ref (bG G + (pre.length + 1 + 5)), iv 0, .ref (bG G + (pre.length + 1 + 6)), .ref (bG G + (pre.length + 1 + 7)), .ref (bG G + (pre.length + 1 + 8)), .ref (bG G + (pre.length + 1 + 9)), .ref (bG G + (pre.length + 1 + 10)), .ref (bG G + (pre.length + 1 + 11)), .ref (bG G + (pre.length + 1 + 12)), iv 0, iv 0, iv 0, iv 0, iv 0, iv 0, .ref (bG G + (pre.length + 1 + 13)), .ref (bG G + (pre.length + 1 + 14)), .ref (bG G + (pre.length + 1 + 15)), .ref (bG G + (pre.length + 1 + 16)), .ref (bG G + (pre.length + 1 + 17)), .ref (bG G + (pre.length + 1 + 18)), .null, .null, .null, iv 0, iv 0, iv 0, iv 0, .null, iv 0])) rfl ?_
  refine ec_aload (j := 0) dX12_init_162 rfl rfl ?_
  refine ec_bipush (n := 30) dX12_init_163 (by decide) ?_
  refine eo_newa (t := 0) (n := 30) (ty := .int) (j := 19) dX12_init_165 rfl acI rfl rfl (ha_int _) (by decide) (by decide) rfl (by decide) (by decide) ?_
  refine eo_put (k := 30) (ty := .array .int) tyX12 clX12 (by decide) (inA_of (is := [1475]) (by decide +kernel)) tyX12_ok nmX12 rfl rfl (by decide +kernel) rfl rfl (Nat.le_of_ble_eq_true rfl) dX12_init_167 ?_
  refine eo_shape (tl' := [.inl (cyG G 0, 500, .inl (fun _ => (0 : Int32))), .inl (cyG G 0, 500, .inl (fun _ => (0 : Int32))), .inl (cyG G 0, 500, .inl (fun _ => (0 : Int32))), .inl (cyG G 0, 4000, .inl (fun _ => (0 : Int32))), .inl (cyG G 0, 30, .inl (fun _ => (0 : Int32))), .inl (cyG G 0, 30, .inl (fun _ => (0 : Int32))), .inl (cyG G 0, 30, .inl (fun _ => (0 : Int32))), .inl (cyG G 0, 10, .inl (fun _ => (0 : Int32))), .inl (cyG G 0, 10, .inl (fun _ => (0 : Int32))), .inl (cyG G 0, 10, .inl (fun _ => (0 : Int32))), .inl (cyG G 0, 24, .inl (fun _ => (0 : Int32))), .inl (cyG G 0, 360, .inl (fun _ => (0 : Int32))), .inl (cyG G 0, 360, .inl (fun _ => (0 : Int32))), .inl (cyG G 0, 30, .inl (fun _ => (0 : Int32))), .inl (cyG G 1, 30, .inl (fun _ => (0 : Int32))), .inl (cyG G 0, 30, .inl (fun _ => (0 : Int32))), .inl (cyG G 0, 30, .inl (fun _ => (0 : Int32))), .inl (cyG G 0, 30, .inl (fun _ => (0 : Int32))), .inl (cyG G 0, 30, .inl (fun _ => (0 : Int32))), .inl (cyG G 0, 30, .inl (fun _ => (0 : Int32)))]) rfl ?_
  refine eo_shapeX (x' := .inr (14, [.ref (bG G + (pre.length + 1 + 0)), .ref (bG G + (pre.length + 1 + 1)), .ref (bG G + (pre.length + 1 + 2)), iv 0, .ref (bG G + (pre.length + 1 + 3)), iv 0, iv 0, iv 0, .ref (bG G + (pre.length + 1 + 4)), .ref (bG G + (pre.length + 1 + 5)), iv 0, .ref (bG G + (pre.length + 1 + 6)), .ref (bG G + (pre.length + 1 + 7)), .ref (bG G + (pre.length + 1 + 8)), .ref (bG G + (pre.length + 1 + 9)), .ref (bG G + (pre.length + 1 + 10)), .ref (bG G + (pre.length + 1 + 11)), .ref (bG G + (pre.length + 1 + 12)), iv 0, iv 0, iv 0, iv 0, iv 0, iv 0, .ref (bG G + (pre.length + 1 + 13)), .ref (bG G + (pre.length + 1 + 14)), .ref (bG G + (pre.length + 1 + 15)), .ref (bG G + (pre.length + 1 + 16)), .ref (bG G + (pre.length + 1 + 17)), .ref (bG G + (pre.length + 1 + 18)), .ref (bG G + (pre.length + 1 + 19)), .null, .null, iv 0, iv 0, iv 0, iv 0, .null, iv 0])) rfl ?_
  refine ec_aload (j := 0) dX12_init_170 rfl rfl ?_
  refine ec_bipush (n := 30) dX12_init_171 (by decide) ?_
  refine eo_newa (t := 0) (n := 30) (ty := .int) (j := 20) dX12_init_173 rfl acI rfl rfl (ha_int _) (by decide) (by decide) rfl (by decide) (by decide) ?_
  refine eo_put (k := 31) (ty := .array .int) tyX12 clX12 (by decide) (inA_of (is := [1476]) (by decide +kernel)) tyX12_ok nmX12 rfl rfl (by decide +kernel) rfl rfl (Nat.le_of_ble_eq_true rfl) dX12_init_175 ?_
  refine eo_shape (tl' := [.inl (cyG G 0, 500, .inl (fun _ => (0 : Int32))), .inl (cyG G 0, 500, .inl (fun _ => (0 : Int32))), .inl (cyG G 0, 500, .inl (fun _ => (0 : Int32))), .inl (cyG G 0, 4000, .inl (fun _ => (0 : Int32))), .inl (cyG G 0, 30, .inl (fun _ => (0 : Int32))), .inl (cyG G 0, 30, .inl (fun _ => (0 : Int32))), .inl (cyG G 0, 30, .inl (fun _ => (0 : Int32))), .inl (cyG G 0, 10, .inl (fun _ => (0 : Int32))), .inl (cyG G 0, 10, .inl (fun _ => (0 : Int32))), .inl (cyG G 0, 10, .inl (fun _ => (0 : Int32))), .inl (cyG G 0, 24, .inl (fun _ => (0 : Int32))), .inl (cyG G 0, 360, .inl (fun _ => (0 : Int32))), .inl (cyG G 0, 360, .inl (fun _ => (0 : Int32))), .inl (cyG G 0, 30, .inl (fun _ => (0 : Int32))), .inl (cyG G 1, 30, .inl (fun _ => (0 : Int32))), .inl (cyG G 0, 30, .inl (fun _ => (0 : Int32))), .inl (cyG G 0, 30, .inl (fun _ => (0 : Int32))), .inl (cyG G 0, 30, .inl (fun _ => (0 : Int32))), .inl (cyG G 0, 30, .inl (fun _ => (0 : Int32))), .inl (cyG G 0, 30, .inl (fun _ => (0 : Int32))), .inl (cyG G 0, 30, .inl (fun _ => (0 : Int32)))]) rfl ?_
  refine eo_shapeX (x' := .inr (14, [.ref (bG G + (pre.length + 1 + 0)), .ref (bG G + (pre.length + 1 + 1)), .ref (bG G + (pre.length + 1 + 2)), iv 0, .ref (bG G + (pre.length + 1 + 3)), iv 0, iv 0, iv 0, .ref (bG G + (pre.length + 1 + 4)), .ref (bG G + (pre.length + 1 + 5)), iv 0, .ref (bG G + (pre.length + 1 + 6)), .ref (bG G + (pre.length + 1 + 7)), .ref (bG G + (pre.length + 1 + 8)), .ref (bG G + (pre.length + 1 + 9)), .ref (bG G + (pre.length + 1 + 10)), .ref (bG G + (pre.length + 1 + 11)), .ref (bG G + (pre.length + 1 + 12)), iv 0, iv 0, iv 0, iv 0, iv 0, iv 0, .ref (bG G + (pre.length + 1 + 13)), .ref (bG G + (pre.length + 1 + 14)), .ref (bG G + (pre.length + 1 + 15)), .ref (bG G + (pre.length + 1 + 16)), .ref (bG G + (pre.length + 1 + 17)), .ref (bG G + (pre.length + 1 + 18)), .ref (bG G + (pre.length + 1 + 19)), .ref (bG G + (pre.length + 1 + 20)), .null, iv 0, iv 0, iv 0, iv 0, .null, iv 0])) rfl ?_
  refine ec_aload (j := 0) dX12_init_178 rfl rfl ?_
  refine ec_bipush (n := 60) dX12_init_179 (by decide) ?_
  refine eo_newa (t := 0) (n := 60) (ty := .int) (j := 21) dX12_init_181 rfl acI rfl rfl (ha_int _) (by decide) (by decide) rfl (by decide) (by decide) ?_
  refine eo_put (k := 32) (ty := .array .int) tyX12 clX12 (by decide) (inA_of (is := [1477]) (by decide +kernel)) tyX12_ok nmX12 rfl rfl (by decide +kernel) rfl rfl (Nat.le_of_ble_eq_true rfl) dX12_init_183 ?_
  refine eo_shape (tl' := [.inl (cyG G 0, 500, .inl (fun _ => (0 : Int32))), .inl (cyG G 0, 500, .inl (fun _ => (0 : Int32))), .inl (cyG G 0, 500, .inl (fun _ => (0 : Int32))), .inl (cyG G 0, 4000, .inl (fun _ => (0 : Int32))), .inl (cyG G 0, 30, .inl (fun _ => (0 : Int32))), .inl (cyG G 0, 30, .inl (fun _ => (0 : Int32))), .inl (cyG G 0, 30, .inl (fun _ => (0 : Int32))), .inl (cyG G 0, 10, .inl (fun _ => (0 : Int32))), .inl (cyG G 0, 10, .inl (fun _ => (0 : Int32))), .inl (cyG G 0, 10, .inl (fun _ => (0 : Int32))), .inl (cyG G 0, 24, .inl (fun _ => (0 : Int32))), .inl (cyG G 0, 360, .inl (fun _ => (0 : Int32))), .inl (cyG G 0, 360, .inl (fun _ => (0 : Int32))), .inl (cyG G 0, 30, .inl (fun _ => (0 : Int32))), .inl (cyG G 1, 30, .inl (fun _ => (0 : Int32))), .inl (cyG G 0, 30, .inl (fun _ => (0 : Int32))), .inl (cyG G 0, 30, .inl (fun _ => (0 : Int32))), .inl (cyG G 0, 30, .inl (fun _ => (0 : Int32))), .inl (cyG G 0, 30, .inl (fun _ => (0 : Int32))), .inl (cyG G 0, 30, .inl (fun _ => (0 : Int32))), .inl (cyG G 0, 30, .inl (fun _ => (0 : Int32))), .inl (cyG G 0, 60, .inl (fun _ => (0 : Int32)))]) rfl ?_
  refine eo_shapeX (x' := .inr (14, [.ref (bG G + (pre.length + 1 + 0)), .ref (bG G + (pre.length + 1 + 1)), .ref (bG G + (pre.length + 1 + 2)), iv 0, .ref (bG G + (pre.length + 1 + 3)), iv 0, iv 0, iv 0, .ref (bG G + (pre.length + 1 + 4)), .ref (bG G + (pre.length + 1 + 5)), iv 0, .ref (bG G + (pre.length + 1 + 6)), .ref (bG G + (pre.length + 1 + 7)), .ref (bG G + (pre.length + 1 + 8)), .ref (bG G + (pre.length + 1 + 9)), .ref (bG G + (pre.length + 1 + 10)), .ref (bG G + (pre.length + 1 + 11)), .ref (bG G + (pre.length + 1 + 12)), iv 0, iv 0, iv 0, iv 0, iv 0, iv 0, .ref (bG G + (pre.length + 1 + 13)), .ref (bG G + (pre.length + 1 + 14)), .ref (bG G + (pre.length + 1 + 15)), .ref (bG G + (pre.length + 1 + 16)), .ref (bG G + (pre.length + 1 + 17)), .ref (bG G + (pre.length + 1 + 18)), .ref (bG G + (pre.length + 1 + 19)), .ref (bG G + (pre.length + 1 + 20)), .ref (bG G + (pre.length + 1 + 21)), iv 0, iv 0, iv 0, iv 0, .null, iv 0])) rfl ?_
  refine ec_aload (j := 0) dX12_init_186 rfl rfl ?_
  refine ec_iconst (n := -1) dX12_init_187 ?_
  refine eo_put (k := 36) (ty := .int) tyX12 clX12 (by decide) (inA_of (is := [1481]) (by decide +kernel)) tyX12_ok nmX12 rfl rfl (by decide +kernel) rfl rfl (Nat.le_of_ble_eq_true rfl) dX12_init_188 ?_
  refine eo_shape (tl' := [.inl (cyG G 0, 500, .inl (fun _ => (0 : Int32))), .inl (cyG G 0, 500, .inl (fun _ => (0 : Int32))), .inl (cyG G 0, 500, .inl (fun _ => (0 : Int32))), .inl (cyG G 0, 4000, .inl (fun _ => (0 : Int32))), .inl (cyG G 0, 30, .inl (fun _ => (0 : Int32))), .inl (cyG G 0, 30, .inl (fun _ => (0 : Int32))), .inl (cyG G 0, 30, .inl (fun _ => (0 : Int32))), .inl (cyG G 0, 10, .inl (fun _ => (0 : Int32))), .inl (cyG G 0, 10, .inl (fun _ => (0 : Int32))), .inl (cyG G 0, 10, .inl (fun _ => (0 : Int32))), .inl (cyG G 0, 24, .inl (fun _ => (0 : Int32))), .inl (cyG G 0, 360, .inl (fun _ => (0 : Int32))), .inl (cyG G 0, 360, .inl (fun _ => (0 : Int32))), .inl (cyG G 0, 30, .inl (fun _ => (0 : Int32))), .inl (cyG G 1, 30, .inl (fun _ => (0 : Int32))), .inl (cyG G 0, 30, .inl (fun _ => (0 : Int32))), .inl (cyG G 0, 30, .inl (fun _ => (0 : Int32))), .inl (cyG G 0, 30, .inl (fun _ => (0 : Int32))), .inl (cyG G 0, 30, .inl (fun _ => (0 : Int32))), .inl (cyG G 0, 30, .inl (fun _ => (0 : Int32))), .inl (cyG G 0, 30, .inl (fun _ => (0 : Int32))), .inl (cyG G 0, 60, .inl (fun _ => (0 : Int32)))]) rfl ?_
  refine eo_shapeX (x' := .inr (14, [.ref (bG G + (pre.length + 1 + 0)), .ref (bG G + (pre.length + 1 + 1)), .ref (bG G + (pre.length + 1 + 2)), iv 0, .ref (bG G + (pre.length + 1 + 3)), iv 0, iv 0, iv 0, .ref (bG G + (pre.length + 1 + 4)), .ref (bG G + (pre.length + 1 + 5)), iv 0, .ref (bG G + (pre.length + 1 + 6)), .ref (bG G + (pre.length + 1 + 7)), .ref (bG G + (pre.length + 1 + 8)), .ref (bG G + (pre.length + 1 + 9)), .ref (bG G + (pre.length + 1 + 10)), .ref (bG G + (pre.length + 1 + 11)), .ref (bG G + (pre.length + 1 + 12)), iv 0, iv 0, iv 0, iv 0, iv 0, iv 0, .ref (bG G + (pre.length + 1 + 13)), .ref (bG G + (pre.length + 1 + 14)), .ref (bG G + (pre.length + 1 + 15)), .ref (bG G + (pre.length + 1 + 16)), .ref (bG G + (pre.length + 1 + 17)), .ref (bG G + (pre.length + 1 + 18)), .ref (bG G + (pre.length + 1 + 19)), .ref (bG G + (pre.length + 1 + 20)), .ref (bG G + (pre.length + 1 + 21)), iv 0, iv 0, iv 0, iv (-1), .null, iv 0])) rfl ?_
  refine ec_aload (j := 0) dX12_init_191 rfl rfl ?_
  refine ec_bipush (n := 60) dX12_init_192 (by decide) ?_
  refine eo_newa (t := 0) (n := 60) (ty := .int) (j := 22) dX12_init_194 rfl acI rfl rfl (ha_int _) (by decide) (by decide) rfl (by decide) (by decide) ?_
  refine eo_put (k := 37) (ty := .array .int) tyX12 clX12 (by decide) (inA_of (is := [1482]) (by decide +kernel)) tyX12_ok nmX12 rfl rfl (by decide +kernel) rfl rfl (Nat.le_of_ble_eq_true rfl) dX12_init_196 ?_
  refine eo_shape (tl' := [.inl (cyG G 0, 500, .inl (fun _ => (0 : Int32))), .inl (cyG G 0, 500, .inl (fun _ => (0 : Int32))), .inl (cyG G 0, 500, .inl (fun _ => (0 : Int32))), .inl (cyG G 0, 4000, .inl (fun _ => (0 : Int32))), .inl (cyG G 0, 30, .inl (fun _ => (0 : Int32))), .inl (cyG G 0, 30, .inl (fun _ => (0 : Int32))), .inl (cyG G 0, 30, .inl (fun _ => (0 : Int32))), .inl (cyG G 0, 10, .inl (fun _ => (0 : Int32))), .inl (cyG G 0, 10, .inl (fun _ => (0 : Int32))), .inl (cyG G 0, 10, .inl (fun _ => (0 : Int32))), .inl (cyG G 0, 24, .inl (fun _ => (0 : Int32))), .inl (cyG G 0, 360, .inl (fun _ => (0 : Int32))), .inl (cyG G 0, 360, .inl (fun _ => (0 : Int32))), .inl (cyG G 0, 30, .inl (fun _ => (0 : Int32))), .inl (cyG G 1, 30, .inl (fun _ => (0 : Int32))), .inl (cyG G 0, 30, .inl (fun _ => (0 : Int32))), .inl (cyG G 0, 30, .inl (fun _ => (0 : Int32))), .inl (cyG G 0, 30, .inl (fun _ => (0 : Int32))), .inl (cyG G 0, 30, .inl (fun _ => (0 : Int32))), .inl (cyG G 0, 30, .inl (fun _ => (0 : Int32))), .inl (cyG G 0, 30, .inl (fun _ => (0 : Int32))), .inl (cyG G 0, 60, .inl (fun _ => (0 : Int32))), .inl (cyG G 0, 60, .inl (fun _ => (0 : Int32)))]) rfl ?_
  refine eo_shapeX (x' := .inr (14, [.ref (bG G + (pre.length + 1 + 0)), .ref (bG G + (pre.length + 1 + 1)), .ref (bG G + (pre.length + 1 + 2)), iv 0, .ref (bG G + (pre.length + 1 + 3)), iv 0, iv 0, iv 0, .ref (bG G + (pre.length + 1 + 4)), .ref (bG G + (pre.length + 1 + 5)), iv 0, .ref (bG G + (pre.length + 1 + 6)), .ref (bG G + (pre.length + 1 + 7)), .ref (bG G + (pre.length + 1 + 8)), .ref (bG G + (pre.length + 1 + 9)), .ref (bG G + (pre.length + 1 + 10)), .ref (bG G + (pre.length + 1 + 11)), .ref (bG G + (pre.length + 1 + 12)), iv 0, iv 0, iv 0, iv 0, iv 0, iv 0, .ref (bG G + (pre.length + 1 + 13)), .ref (bG G + (pre.length + 1 + 14)), .ref (bG G + (pre.length + 1 + 15)), .ref (bG G + (pre.length + 1 + 16)), .ref (bG G + (pre.length + 1 + 17)), .ref (bG G + (pre.length + 1 + 18)), .ref (bG G + (pre.length + 1 + 19)), .ref (bG G + (pre.length + 1 + 20)), .ref (bG G + (pre.length + 1 + 21)), iv 0, iv 0, iv 0, iv (-1), .ref (bG G + (pre.length + 1 + 22)), iv 0])) rfl ?_
  refine ec_iconst (n := 0) dX12_init_199 ?_
  refine ec_istore dX12_init_200 rfl (by decide) rfl ?_
  refine ec_iload (j := 0) dX12_init_201 rfl rfl ?_
  refine ec_bipush (n := 11) dX12_init_202 (by decide) ?_
  refine ec_icmp_ge 220 dX12_init_204 (by decide) (i32 (by omega)) (i32 (by omega)) (fun z => absurd (by decide) z) (fun _ => ?_)
  refine ec_aload (j := 1) dX12_init_207 rfl rfl ?_
  refine eo_get (k := 0) clX12 (by decide) (inA_of (is := [1445]) (by decide +kernel)) dX12_init_208 rfl ?_
  refine ec_iload (j := 0) dX12_init_211 rfl rfl ?_
  refine ec_iconst (n := 3) dX12_init_212 ?_
  refine eo_iast (j := 0) dX12_init_213 rfl (by decide) (by decide) (by decide) ?_
  refine eo_shape (tl' := rowsX12 G (.inl (cyG G 0, 500, .inl _))) rfl ?_
  refine ec_iinc (j := 0) dX12_init_214 rfl (by decide) rfl ?_
  refine ec_goto 201 dX12_init_217 (by decide) ?_
  refine ec_iload (j := 0) dX12_init_201 rfl rfl ?_
  refine ec_bipush (n := 11) dX12_init_202 (by decide) ?_
  refine ec_icmp_ge 220 dX12_init_204 (by decide) (i32 (by omega)) (i32 (by omega)) (fun z => absurd (by decide) z) (fun _ => ?_)
  refine ec_aload (j := 1) dX12_init_207 rfl rfl ?_
  refine eo_get (k := 0) clX12 (by decide) (inA_of (is := [1445]) (by decide +kernel)) dX12_init_208 rfl ?_
  refine ec_iload (j := 0) dX12_init_211 rfl rfl ?_
  refine ec_iconst (n := 3) dX12_init_212 ?_
  refine eo_iast (j := 0) dX12_init_213 rfl (by decide) (by decide) (by decide) ?_
  refine eo_shape (tl' := rowsX12 G (.inl (cyG G 0, 500, .inl _))) rfl ?_
  refine ec_iinc (j := 0) dX12_init_214 rfl (by decide) rfl ?_
  refine ec_goto 201 dX12_init_217 (by decide) ?_
  refine ec_iload (j := 0) dX12_init_201 rfl rfl ?_
  refine ec_bipush (n := 11) dX12_init_202 (by decide) ?_
  refine ec_icmp_ge 220 dX12_init_204 (by decide) (i32 (by omega)) (i32 (by omega)) (fun z => absurd (by decide) z) (fun _ => ?_)
  refine ec_aload (j := 1) dX12_init_207 rfl rfl ?_
  refine eo_get (k := 0) clX12 (by decide) (inA_of (is := [1445]) (by decide +kernel)) dX12_init_208 rfl ?_
  refine ec_iload (j := 0) dX12_init_211 rfl rfl ?_
  refine ec_iconst (n := 3) dX12_init_212 ?_
  refine eo_iast (j := 0) dX12_init_213 rfl (by decide) (by decide) (by decide) ?_
  refine eo_shape (tl' := rowsX12 G (.inl (cyG G 0, 500, .inl _))) rfl ?_
  refine ec_iinc (j := 0) dX12_init_214 rfl (by decide) rfl ?_
  refine ec_goto 201 dX12_init_217 (by decide) ?_
  refine ec_iload (j := 0) dX12_init_201 rfl rfl ?_
  refine ec_bipush (n := 11) dX12_init_202 (by decide) ?_
  refine ec_icmp_ge 220 dX12_init_204 (by decide) (i32 (by omega)) (i32 (by omega)) (fun z => absurd (by decide) z) (fun _ => ?_)
  refine ec_aload (j := 1) dX12_init_207 rfl rfl ?_
  refine eo_get (k := 0) clX12 (by decide) (inA_of (is := [1445]) (by decide +kernel)) dX12_init_208 rfl ?_
  refine ec_iload (j := 0) dX12_init_211 rfl rfl ?_
  refine ec_iconst (n := 3) dX12_init_212 ?_
  refine eo_iast (j := 0) dX12_init_213 rfl (by decide) (by decide) (by decide) ?_
  refine eo_shape (tl' := rowsX12 G (.inl (cyG G 0, 500, .inl _))) rfl ?_
  refine ec_iinc (j := 0) dX12_init_214 rfl (by decide) rfl ?_
  refine ec_goto 201 dX12_init_217 (by decide) ?_
  refine ec_iload (j := 0) dX12_init_201 rfl rfl ?_
  refine ec_bipush (n := 11) dX12_init_202 (by decide) ?_
  refine ec_icmp_ge 220 dX12_init_204 (by decide) (i32 (by omega)) (i32 (by omega)) (fun z => absurd (by decide) z) (fun _ => ?_)
  refine ec_aload (j := 1) dX12_init_207 rfl rfl ?_
  refine eo_get (k := 0) clX12 (by decide) (inA_of (is := [1445]) (by decide +kernel)) dX12_init_208 rfl ?_
  refine ec_iload (j := 0) dX12_init_211 rfl rfl ?_
  refine ec_iconst (n := 3) dX12_init_212 ?_
  refine eo_iast (j := 0) dX12_init_213 rfl (by decide) (by decide) (by decide) ?_
  refine eo_shape (tl' := rowsX12 G (.inl (cyG G 0, 500, .inl _))) rfl ?_
  refine ec_iinc (j := 0) dX12_init_214 rfl (by decide) rfl ?_
  refine ec_goto 201 dX12_init_217 (by decide) ?_
  refine ec_iload (j := 0) dX12_init_201 rfl rfl ?_
  refine ec_bipush (n := 11) dX12_init_202 (by decide) ?_
  refine ec_icmp_ge 220 dX12_init_204 (by decide) (i32 (by omega)) (i32 (by omega)) (fun z => absurd (by decide) z) (fun _ => ?_)
  refine ec_aload (j := 1) dX12_init_207 rfl rfl ?_
  refine eo_get (k := 0) clX12 (by decide) (inA_of (is := [1445]) (by decide +kernel)) dX12_init_208 rfl ?_
  refine ec_iload (j := 0) dX12_init_211 rfl rfl ?_
  refine ec_iconst (n := 3) dX12_init_212 ?_
  refine eo_iast (j := 0) dX12_init_213 rfl (by decide) (by decide) (by decide) ?_
  refine eo_shape (tl' := rowsX12 G (.inl (cyG G 0, 500, .inl _))) rfl ?_
  refine ec_iinc (j := 0) dX12_init_214 rfl (by decide) rfl ?_
  refine ec_goto 201 dX12_init_217 (by decide) ?_
  refine ec_iload (j := 0) dX12_init_201 rfl rfl ?_
  refine ec_bipush (n := 11) dX12_init_202 (by decide) ?_
  refine ec_icmp_ge 220 dX12_init_204 (by decide) (i32 (by omega)) (i32 (by omega)) (fun z => absurd (by decide) z) (fun _ => ?_)
  refine ec_aload (j := 1) dX12_init_207 rfl rfl ?_
  refine eo_get (k := 0) clX12 (by decide) (inA_of (is := [1445]) (by decide +kernel)) dX12_init_208 rfl ?_
  refine ec_iload (j := 0) dX12_init_211 rfl rfl ?_
  refine ec_iconst (n := 3) dX12_init_212 ?_
  refine eo_iast (j := 0) dX12_init_213 rfl (by decide) (by decide) (by decide) ?_
  refine eo_shape (tl' := rowsX12 G (.inl (cyG G 0, 500, .inl _))) rfl ?_
  refine ec_iinc (j := 0) dX12_init_214 rfl (by decide) rfl ?_
  refine ec_goto 201 dX12_init_217 (by decide) ?_
  refine ec_iload (j := 0) dX12_init_201 rfl rfl ?_
  refine ec_bipush (n := 11) dX12_init_202 (by decide) ?_
  refine ec_icmp_ge 220 dX12_init_204 (by decide) (i32 (by omega)) (i32 (by omega)) (fun z => absurd (by decide) z) (fun _ => ?_)
  refine ec_aload (j := 1) dX12_init_207 rfl rfl ?_
  refine eo_get (k := 0) clX12 (by decide) (inA_of (is := [1445]) (by decide +kernel)) dX12_init_208 rfl ?_
  refine ec_iload (j := 0) dX12_init_211 rfl rfl ?_
  refine ec_iconst (n := 3) dX12_init_212 ?_
  refine eo_iast (j := 0) dX12_init_213 rfl (by decide) (by decide) (by decide) ?_
  refine eo_shape (tl' := rowsX12 G (.inl (cyG G 0, 500, .inl _))) rfl ?_
  refine ec_iinc (j := 0) dX12_init_214 rfl (by decide) rfl ?_
  refine ec_goto 201 dX12_init_217 (by decide) ?_
  refine ec_iload (j := 0) dX12_init_201 rfl rfl ?_
  refine ec_bipush (n := 11) dX12_init_202 (by decide) ?_
  refine ec_icmp_ge 220 dX12_init_204 (by decide) (i32 (by omega)) (i32 (by omega)) (fun z => absurd (by decide) z) (fun _ => ?_)
  refine ec_aload (j := 1) dX12_init_207 rfl rfl ?_
  refine eo_get (k := 0) clX12 (by decide) (inA_of (is := [1445]) (by decide +kernel)) dX12_init_208 rfl ?_
  refine ec_iload (j := 0) dX12_init_211 rfl rfl ?_
  refine ec_iconst (n := 3) dX12_init_212 ?_
  refine eo_iast (j := 0) dX12_init_213 rfl (by decide) (by decide) (by decide) ?_
  refine eo_shape (tl' := rowsX12 G (.inl (cyG G 0, 500, .inl _))) rfl ?_
  refine ec_iinc (j := 0) dX12_init_214 rfl (by decide) rfl ?_
  refine ec_goto 201 dX12_init_217 (by decide) ?_
  refine ec_iload (j := 0) dX12_init_201 rfl rfl ?_
  refine ec_bipush (n := 11) dX12_init_202 (by decide) ?_
  refine ec_icmp_ge 220 dX12_init_204 (by decide) (i32 (by omega)) (i32 (by omega)) (fun z => absurd (by decide) z) (fun _ => ?_)
  refine ec_aload (j := 1) dX12_init_207 rfl rfl ?_
  refine eo_get (k := 0) clX12 (by decide) (inA_of (is := [1445]) (by decide +kernel)) dX12_init_208 rfl ?_
  refine ec_iload (j := 0) dX12_init_211 rfl rfl ?_
  refine ec_iconst (n := 3) dX12_init_212 ?_
  refine eo_iast (j := 0) dX12_init_213 rfl (by decide) (by decide) (by decide) ?_
  refine eo_shape (tl' := rowsX12 G (.inl (cyG G 0, 500, .inl _))) rfl ?_
  refine ec_iinc (j := 0) dX12_init_214 rfl (by decide) rfl ?_
  refine ec_goto 201 dX12_init_217 (by decide) ?_
  refine ec_iload (j := 0) dX12_init_201 rfl rfl ?_
  refine ec_bipush (n := 11) dX12_init_202 (by decide) ?_
  refine ec_icmp_ge 220 dX12_init_204 (by decide) (i32 (by omega)) (i32 (by omega)) (fun z => absurd (by decide) z) (fun _ => ?_)
  refine ec_aload (j := 1) dX12_init_207 rfl rfl ?_
  refine eo_get (k := 0) clX12 (by decide) (inA_of (is := [1445]) (by decide +kernel)) dX12_init_208 rfl ?_
  refine ec_iload (j := 0) dX12_init_211 rfl rfl ?_
  refine ec_iconst (n := 3) dX12_init_212 ?_
  refine eo_iast (j := 0) dX12_init_213 rfl (by decide) (by decide) (by decide) ?_
  refine eo_shape (tl' := rowsX12 G (.inl (cyG G 0, 500, .inl _))) rfl ?_
  refine ec_iinc (j := 0) dX12_init_214 rfl (by decide) rfl ?_
  refine ec_goto 201 dX12_init_217 (by decide) ?_
  refine ec_iload (j := 0) dX12_init_201 rfl rfl ?_
  refine ec_bipush (n := 11) dX12_init_202 (by decide) ?_
  refine ec_icmp_ge 220 dX12_init_204 (by decide) (i32 (by omega)) (i32 (by omega)) (fun _ => ?_) (fun z => absurd z (by decide))
  refine ec_aload (j := 1) dX12_init_220 rfl rfl ?_
  refine eo_get (k := 0) clX12 (by decide) (inA_of (is := [1445]) (by decide +kernel)) dX12_init_221 rfl ?_
  refine ec_bipush (n := 22) dX12_init_224 (by decide) ?_
  refine ec_iconst (n := 1) dX12_init_226 ?_
  refine eo_iast (j := 0) dX12_init_227 rfl (by decide) (by decide) (by decide) ?_
  refine eo_shape (tl' := rowsX12 G (.inl (cyG G 0, 500, .inl _))) rfl ?_
  refine ec_aload (j := 1) dX12_init_228 rfl rfl ?_
  refine eo_get (k := 0) clX12 (by decide) (inA_of (is := [1445]) (by decide +kernel)) dX12_init_229 rfl ?_
  refine ec_bipush (n := 33) dX12_init_232 (by decide) ?_
  refine ec_iconst (n := 1) dX12_init_234 ?_
  refine eo_iast (j := 0) dX12_init_235 rfl (by decide) (by decide) (by decide) ?_
  refine eo_shape (tl' := rowsX12 G (.inl (cyG G 0, 500, .inl _))) rfl ?_
  refine ec_aload (j := 1) dX12_init_236 rfl rfl ?_
  refine eo_get (k := 0) clX12 (by decide) (inA_of (is := [1445]) (by decide +kernel)) dX12_init_237 rfl ?_
  refine ec_bipush (n := 34) dX12_init_240 (by decide) ?_
  refine ec_iconst (n := 2) dX12_init_242 ?_
  refine eo_iast (j := 0) dX12_init_243 rfl (by decide) (by decide) (by decide) ?_
  refine eo_shape (tl' := rowsX12 G (.inl (cyG G 0, 500, .inl _))) rfl ?_
  refine ec_aload (j := 1) dX12_init_244 rfl rfl ?_
  refine eo_get (k := 0) clX12 (by decide) (inA_of (is := [1445]) (by decide +kernel)) dX12_init_245 rfl ?_
  refine ec_bipush (n := 35) dX12_init_248 (by decide) ?_
  refine ec_iconst (n := 4) dX12_init_250 ?_
  refine eo_iast (j := 0) dX12_init_251 rfl (by decide) (by decide) (by decide) ?_
  refine eo_shape (tl' := rowsX12 G (.inl (cyG G 0, 500, .inl _))) rfl ?_
  refine ec_aload (j := 1) dX12_init_252 rfl rfl ?_
  refine eo_get (k := 0) clX12 (by decide) (inA_of (is := [1445]) (by decide +kernel)) dX12_init_253 rfl ?_
  refine ec_bipush (n := 36) dX12_init_256 (by decide) ?_
  refine ec_iconst (n := 1) dX12_init_258 ?_
  refine eo_iast (j := 0) dX12_init_259 rfl (by decide) (by decide) (by decide) ?_
  refine eo_shape (tl' := rowsX12 G (.inl (cyG G 0, 500, .inl _))) rfl ?_
  refine eo_tell (j := 0) (b := (500, .inl (fun k => J (g0M k)))) rfl (vpI_cg (fun j hj => tell_g0 j hj)) ?_
  exact ec_ret dX12_init_260 rfl (by show (pre ++ _ :: _).length ≤ _; rw [mid_len]; first | (simp only [rowsX12, List.length_append, List.length_cons, List.length_nil, List.length_replicate, List.length_set, blkX0_len, blkX8_len, blkX2_len, blkX9_len, blkX4_len, blkX3_len, blkX1_len, blkX7_len, blkX6_len, blkX5_len, blkX10_len, blkX11_len, blkX12_len]; omega) | (show pre.length + 1 + 23 ≤ pre.length + 1 + 23; omega)) (by decide) rfl
