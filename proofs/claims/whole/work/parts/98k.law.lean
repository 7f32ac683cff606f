/-! ===== the law's cases (by program) ===== -/
theorem mfL_setSection : MFL zL_setSection 5 := ⟨mem_all 662 (tb3 95 (by decide +kernel) rfl) (by decide +kernel), mem_all 87 (tb1 0 (by decide +kernel) rfl) (by decide +kernel), mem_all 663 (tb3 96 rfl rfl) (by decide +kernel), ⟨by decide, by decide⟩, by decide +kernel⟩
theorem mfL_setTurn : MFL zL_setTurn 4 := ⟨mem_all 819 (tb4 12 (by decide +kernel) rfl) (by decide +kernel), mem_all 87 (tb1 0 (by decide +kernel) rfl) (by decide +kernel), mem_all 820 (tb4 13 rfl rfl) (by decide +kernel), ⟨by decide, by decide⟩, by decide +kernel⟩
theorem mfL_set : MFL zL_set 4 := ⟨mem_all 832 (tb4 25 (by decide +kernel) rfl) (by decide +kernel), mem_all 87 (tb1 0 (by decide +kernel) rfl) (by decide +kernel), mem_all 833 (tb4 26 rfl rfl) (by decide +kernel), ⟨by decide, by decide⟩, by decide +kernel⟩
theorem mfL_addTrip : MFL zL_addTrip 5 := ⟨mem_all 844 (tb4 37 (by decide +kernel) rfl) (by decide +kernel), mem_all 87 (tb1 0 (by decide +kernel) rfl) (by decide +kernel), mem_all 845 (tb4 38 rfl rfl) (by decide +kernel), ⟨by decide, by decide⟩, by decide +kernel⟩
theorem mfL_cancel : MFL zL_cancel 4 := ⟨mem_all 862 (tb4 55 (by decide +kernel) rfl) (by decide +kernel), mem_all 87 (tb1 0 (by decide +kernel) rfl) (by decide +kernel), mem_all 863 (tb4 56 rfl rfl) (by decide +kernel), ⟨by decide, by decide⟩, by decide +kernel⟩
theorem mfL_trip : MFL zL_trip 4 := ⟨mem_all 886 (tb4 79 (by decide +kernel) rfl) (by decide +kernel), mem_all 87 (tb1 0 (by decide +kernel) rfl) (by decide +kernel), mem_all 887 (tb4 80 rfl rfl) (by decide +kernel), ⟨by decide, by decide⟩, by decide +kernel⟩
theorem mfL_planned : MFL zL_planned 4 := ⟨mem_all 900 (tb4 93 (by decide +kernel) rfl) (by decide +kernel), mem_all 87 (tb1 0 (by decide +kernel) rfl) (by decide +kernel), mem_all 901 (tb4 94 rfl rfl) (by decide +kernel), ⟨by decide, by decide⟩, by decide +kernel⟩
theorem mfL_count : MFL zL_count 3 := ⟨mem_all 939 (tb4 132 (by decide +kernel) rfl) (by decide +kernel), mem_all 87 (tb1 0 (by decide +kernel) rfl) (by decide +kernel), mem_all 940 (tb4 133 rfl rfl) (by decide +kernel), ⟨by decide, by decide⟩, by decide +kernel⟩
theorem mfL_passage : MFL zL_passage 6 := ⟨mem_all 959 (tb4 152 (by decide +kernel) rfl) (by decide +kernel), mem_all 87 (tb1 0 (by decide +kernel) rfl) (by decide +kernel), mem_all 960 (tb4 153 rfl rfl) (by decide +kernel), ⟨by decide, by decide⟩, by decide +kernel⟩
theorem mfL_bunches : MFL zL_bunches 4 := ⟨mem_all 976 (tb4 169 (by decide +kernel) rfl) (by decide +kernel), mem_all 87 (tb1 0 (by decide +kernel) rfl) (by decide +kernel), mem_all 977 (tb4 170 rfl rfl) (by decide +kernel), ⟨by decide, by decide⟩, by decide +kernel⟩
theorem mfL_headway : MFL zL_headway 5 := ⟨mem_all 987 (tb4 180 (by decide +kernel) rfl) (by decide +kernel), mem_all 87 (tb1 0 (by decide +kernel) rfl) (by decide +kernel), mem_all 988 (tb4 181 rfl rfl) (by decide +kernel), ⟨by decide, by decide⟩, by decide +kernel⟩
theorem mfL_meanHeadway : MFL zL_meanHeadway 4 := ⟨mem_all 1009 (tb4 202 (by decide +kernel) rfl) (by decide +kernel), mem_all 87 (tb1 0 (by decide +kernel) rfl) (by decide +kernel), mem_all 1010 (tb4 203 rfl rfl) (by decide +kernel), ⟨by decide, by decide⟩, by decide +kernel⟩
theorem mfL_addVehicle : MFL zL_addVehicle 3 := ⟨mem_all 1033 (tb4 226 (by decide +kernel) rfl) (by decide +kernel), mem_all 87 (tb1 0 (by decide +kernel) rfl) (by decide +kernel), mem_all 1034 (tb4 227 rfl rfl) (by decide +kernel), ⟨by decide, by decide⟩, by decide +kernel⟩
theorem mfL_give : MFL zL_give 4 := ⟨mem_all 1045 (tb4 238 (by decide +kernel) rfl) (by decide +kernel), mem_all 87 (tb1 0 (by decide +kernel) rfl) (by decide +kernel), mem_all 1046 (tb4 239 rfl rfl) (by decide +kernel), ⟨by decide, by decide⟩, by decide +kernel⟩
theorem mfL_giveRound : MFL zL_giveRound 5 := ⟨mem_all 1077 (tb5 30 (by decide +kernel) rfl) (by decide +kernel), mem_all 87 (tb1 0 (by decide +kernel) rfl) (by decide +kernel), mem_all 1078 (tb5 31 rfl rfl) (by decide +kernel), ⟨by decide, by decide⟩, by decide +kernel⟩
theorem mfL_refusal : MFL zL_refusal 2 := ⟨mem_all 1089 (tb5 42 (by decide +kernel) rfl) (by decide +kernel), mem_all 87 (tb1 0 (by decide +kernel) rfl) (by decide +kernel), mem_all 1090 (tb5 43 rfl rfl) (by decide +kernel), ⟨by decide, by decide⟩, by decide +kernel⟩
theorem mfL_wouldRefuse : MFL zL_wouldRefuse 4 := ⟨mem_all 1097 (tb5 50 (by decide +kernel) rfl) (by decide +kernel), mem_all 87 (tb1 0 (by decide +kernel) rfl) (by decide +kernel), mem_all 1098 (tb5 51 rfl rfl) (by decide +kernel), ⟨by decide, by decide⟩, by decide +kernel⟩
theorem mfL_take : MFL zL_take 3 := ⟨mem_all 1104 (tb5 57 (by decide +kernel) rfl) (by decide +kernel), mem_all 87 (tb1 0 (by decide +kernel) rfl) (by decide +kernel), mem_all 1105 (tb5 58 rfl rfl) (by decide +kernel), ⟨by decide, by decide⟩, by decide +kernel⟩
theorem mfL_exchange : MFL zL_exchange 5 := ⟨mem_all 1113 (tb5 66 (by decide +kernel) rfl) (by decide +kernel), mem_all 87 (tb1 0 (by decide +kernel) rfl) (by decide +kernel), mem_all 1114 (tb5 67 rfl rfl) (by decide +kernel), ⟨by decide, by decide⟩, by decide +kernel⟩
theorem mfL_duty : MFL zL_duty 4 := ⟨mem_all 1126 (tb5 79 (by decide +kernel) rfl) (by decide +kernel), mem_all 87 (tb1 0 (by decide +kernel) rfl) (by decide +kernel), mem_all 1127 (tb5 80 rfl rfl) (by decide +kernel), ⟨by decide, by decide⟩, by decide +kernel⟩
theorem mfL_vehicle : MFL zL_vehicle 4 := ⟨mem_all 1134 (tb5 87 (by decide +kernel) rfl) (by decide +kernel), mem_all 87 (tb1 0 (by decide +kernel) rfl) (by decide +kernel), mem_all 1135 (tb5 88 rfl rfl) (by decide +kernel), ⟨by decide, by decide⟩, by decide +kernel⟩
theorem mfL_leaving : MFL zL_leaving 4 := ⟨mem_all 1163 (tb5 116 (by decide +kernel) rfl) (by decide +kernel), mem_all 87 (tb1 0 (by decide +kernel) rfl) (by decide +kernel), mem_all 1164 (tb5 117 rfl rfl) (by decide +kernel), ⟨by decide, by decide⟩, by decide +kernel⟩
theorem mfL_block : MFL zL_block 5 := ⟨mem_all 1175 (tb5 128 (by decide +kernel) rfl) (by decide +kernel), mem_all 87 (tb1 0 (by decide +kernel) rfl) (by decide +kernel), mem_all 1176 (tb5 129 rfl rfl) (by decide +kernel), ⟨by decide, by decide⟩, by decide +kernel⟩
theorem mfL_unblock : MFL zL_unblock 3 := ⟨mem_all 1188 (tb5 141 (by decide +kernel) rfl) (by decide +kernel), mem_all 87 (tb1 0 (by decide +kernel) rfl) (by decide +kernel), mem_all 1189 (tb5 142 rfl rfl) (by decide +kernel), ⟨by decide, by decide⟩, by decide +kernel⟩
theorem mfL_actual : MFL zL_actual 5 := ⟨mem_all 1199 (tb5 152 (by decide +kernel) rfl) (by decide +kernel), mem_all 87 (tb1 0 (by decide +kernel) rfl) (by decide +kernel), mem_all 1200 (tb5 153 rfl rfl) (by decide +kernel), ⟨by decide, by decide⟩, by decide +kernel⟩
theorem mfL_delay : MFL zL_delay 3 := ⟨mem_all 1245 (tb5 198 (by decide +kernel) rfl) (by decide +kernel), mem_all 87 (tb1 0 (by decide +kernel) rfl) (by decide +kernel), mem_all 1246 (tb5 199 rfl rfl) (by decide +kernel), ⟨by decide, by decide⟩, by decide +kernel⟩
theorem mfL_run : MFL zL_run 3 := ⟨mem_all 1266 (tb5 219 (by decide +kernel) rfl) (by decide +kernel), mem_all 87 (tb1 0 (by decide +kernel) rfl) (by decide +kernel), mem_all 1267 (tb5 220 rfl rfl) (by decide +kernel), ⟨by decide, by decide⟩, by decide +kernel⟩
theorem mfL_actualBunches : MFL zL_actualBunches 4 := ⟨mem_all 1288 (tb6 1 (by decide +kernel) rfl) (by decide +kernel), mem_all 87 (tb1 0 (by decide +kernel) rfl) (by decide +kernel), mem_all 1289 (tb6 2 rfl rfl) (by decide +kernel), ⟨by decide, by decide⟩, by decide +kernel⟩
theorem mfL_meanDelay : MFL zL_meanDelay 2 := ⟨mem_all 1301 (tb6 14 (by decide +kernel) rfl) (by decide +kernel), mem_all 87 (tb1 0 (by decide +kernel) rfl) (by decide +kernel), mem_all 1302 (tb6 15 rfl rfl) (by decide +kernel), ⟨by decide, by decide⟩, by decide +kernel⟩
theorem mfL_turnShort : MFL zL_turnShort 4 := ⟨mem_all 1309 (tb6 22 (by decide +kernel) rfl) (by decide +kernel), mem_all 87 (tb1 0 (by decide +kernel) rfl) (by decide +kernel), mem_all 1310 (tb6 23 rfl rfl) (by decide +kernel), ⟨by decide, by decide⟩, by decide +kernel⟩
theorem mfL_startLate : MFL zL_startLate 4 := ⟨mem_all 1326 (tb6 39 (by decide +kernel) rfl) (by decide +kernel), mem_all 87 (tb1 0 (by decide +kernel) rfl) (by decide +kernel), mem_all 1327 (tb6 40 rfl rfl) (by decide +kernel), ⟨by decide, by decide⟩, by decide +kernel⟩
theorem mfL_leastCost : MFL zL_leastCost 3 := ⟨mem_all 1335 (tb6 48 (by decide +kernel) rfl) (by decide +kernel), mem_all 87 (tb1 0 (by decide +kernel) rfl) (by decide +kernel), mem_all 1336 (tb6 49 rfl rfl) (by decide +kernel), ⟨by decide, by decide⟩, by decide +kernel⟩
theorem mfL_nextTrip : MFL zL_nextTrip 3 := ⟨mem_all 1350 (tb6 63 (by decide +kernel) rfl) (by decide +kernel), mem_all 87 (tb1 0 (by decide +kernel) rfl) (by decide +kernel), mem_all 1351 (tb6 64 rfl rfl) (by decide +kernel), ⟨by decide, by decide⟩, by decide +kernel⟩
theorem mfL_append : MFL zL_append 2 := ⟨mem_all 1362 (tb6 75 (by decide +kernel) rfl) (by decide +kernel), mem_all 87 (tb1 0 (by decide +kernel) rfl) (by decide +kernel), mem_all 1363 (tb6 76 rfl rfl) (by decide +kernel), ⟨by decide, by decide⟩, by decide +kernel⟩
theorem mfL_readTrips : MFL zL_readTrips 2 := ⟨mem_all 1378 (tb6 91 (by decide +kernel) rfl) (by decide +kernel), mem_all 87 (tb1 0 (by decide +kernel) rfl) (by decide +kernel), mem_all 1379 (tb6 92 rfl rfl) (by decide +kernel), ⟨by decide, by decide⟩, by decide +kernel⟩
theorem mfL_undo : MFL zL_undo 2 := ⟨mem_all 1416 (tb6 129 (by decide +kernel) rfl) (by decide +kernel), mem_all 87 (tb1 0 (by decide +kernel) rfl) (by decide +kernel), mem_all 1417 (tb6 130 rfl rfl) (by decide +kernel), ⟨by decide, by decide⟩, by decide +kernel⟩
theorem mfL_restore : MFL zL_restore 1 := ⟨mem_all 1428 (tb6 141 (by decide +kernel) rfl) (by decide +kernel), mem_all 87 (tb1 0 (by decide +kernel) rfl) (by decide +kernel), mem_all 1429 (tb6 142 rfl rfl) (by decide +kernel), ⟨by decide, by decide⟩, by decide +kernel⟩
section Lc
variable {G : GT} {M : Mem} {b L : Nat} {xs : Nat → Int32} {i : Int} {u : Nat}
theorem lc_0 (hN : NC G) (hX : va_X b L xs (s0G G) (s0G G).heap) (hb : b < bG G) (hL : L ≤ 2560) (i0 : 0 ≤ i) (i1 : i + 5 ≤ L) (hu : u ≤ 600000) (h : Rel M) (kk : ∀ M', Rel M' → EvL G b (u + 4) 2796 (LW G b i) [] M') : EvL G b u 224 (LW G b i) [] M := by
  refine ev_aload_n (j := 1) dL_law_224 rfl rfl ?_
  refine ev_aload_n (j := 0) dL_law_225 rfl rfl ?_
  refine ev_iload (j := 5) dL_law_226 rfl ?_
  refine ev_iconst dL_law_228 ?_
  refine ev_iadd dL_law_229 ?_
  refine ev_sld (n := 1) hX hb hL (by omega) (by omega) dL_law_230 ?_
  refine ev_aload_n (j := 0) dL_law_231 rfl rfl ?_
  refine ev_iload (j := 5) dL_law_232 rfl ?_
  refine ev_iconst dL_law_234 ?_
  refine ev_iadd dL_law_235 ?_
  refine ev_sld (n := 2) hX hb hL (by omega) (by omega) dL_law_236 ?_
  refine ev_aload_n (j := 0) dL_law_237 rfl rfl ?_
  refine ev_iload (j := 5) dL_law_238 rfl ?_
  refine ev_iconst dL_law_240 ?_
  refine ev_iadd dL_law_241 ?_
  refine ev_sld (n := 3) hX hb hL (by omega) (by omega) dL_law_242 ?_
  refine ev_aload_n (j := 3) dL_law_243 rfl rfl ?_
  refine el_callSH (n := 5) (As := [rr G 0 0 0, iv (ax xs i 1), iv (ax xs i 2), iv (ax xs i 3), rr G 9 0 0]) (st := []) mfL_setSection mlL_146 dL_law_244 rfl rfl (by decide) (by decide) (by omega) (by omega) (Nat.le_of_ble_eq_true rfl) (w_setSection hN h ax_i ax_i ax_i) (fun r M1 o => ?_)
  obtain ⟨c, v, rfl, hc, hv, nq⟩ := o
  refine ev_istore dL_law_247 (by decide) rfl ?_
  refine ev_aload_n (j := 3) dL_law_249 rfl rfl ?_
  refine ev_aload_n (j := 1) dL_law_250 rfl rfl ?_
  refine ev_iload (j := 6) dL_law_251 rfl ?_
  refine ev_iconst dL_law_253 ?_
  refine ev_iadd dL_law_254 ?_
  refine ev_sld (n := 1) hX hb hL (by omega) (by omega) dL_law_255 ?_
  refine ev_aload_n (j := 1) dL_law_256 rfl rfl ?_
  refine ev_iload (j := 6) dL_law_257 rfl ?_
  refine ev_iconst dL_law_259 ?_
  refine ev_iadd dL_law_260 ?_
  refine ev_sld (n := 2) hX hb hL (by omega) (by omega) dL_law_261 ?_
  refine ev_aload_n (j := 1) dL_law_262 rfl rfl ?_
  refine ev_iload (j := 6) dL_law_263 rfl ?_
  refine ev_iconst dL_law_265 ?_
  refine ev_iadd dL_law_266 ?_
  refine ev_sld (n := 3) hX hb hL (by omega) (by omega) dL_law_267 ?_
  refine el_callV (n := 3) (As := [iv (ax xs i 1), iv (ax xs i 2), iv (ax xs i 3)]) (st := []) mfX12_setSection mlL_151 dL_law_268 rfl dm8_0 en8_0 rfl rfl rfl (by decide) (by decide) (by decide) (by omega) (by omega) (Nat.le_of_ble_eq_true rfl) nq (fun r M2 o2 => ?_)
  obtain ⟨⟨bb, rfl, hbb⟩, e7, e9, hR⟩ := o2
  refine ev_istore dL_law_271 (by decide) rfl ?_
  refine ev_aload_n (j := 4) dL_law_273 rfl rfl ?_
  refine el_callV (n := 0) (As := []) (st := []) (K' := fun r M9 => r = [iv c] ∧ M2 = M9) mfX12_thrown mlL_152 dL_law_274 rfl dm8_0 en8_0 rfl rfl rfl (by decide) (by decide) (by decide) (by omega) (by omega) (Nat.le_of_ble_eq_true rfl) (bX12_thrown ⟨by rw [e7], rfl⟩) (fun r M3 o3 => ?_)
  obtain ⟨rfl, rfl⟩ := o3
  refine ev_iload (j := 1) dL_law_277 rfl ?_
  refine evx_icmpeq 284 dL_law_279 (by decide) (fun _ => ?_) (fun w => absurd rfl w)
  refine ev_iload (j := 1) dL_law_284 rfl ?_
  have done : EvL G b (u + 4) 301 [(7, iv bb), (6, iv c), (0, .ref b), (1, rr G 0 0 0), (2, rr G 8 0 0), (3, rr G 9 0 0), (4, rr G 9 0 1), (5, iv i)] [] M2 := ev_goto 2796 dL_law_301 (by decide) (ev_sub [2, 3, 4, 5, 6, 7] rfl (kk _ hR))
  refine evx_ne 301 dL_law_286 (by decide) (fun _ => done) (fun z => ?_)
  have c0 : c = 0 := (J_eq ⟨by omega, by omega⟩ I32_0).mp z
  refine ev_aload_n (j := 5) dL_law_289 rfl rfl ?_
  refine ev_iconst dL_law_290 ?_
  refine ev_lald dL_law_291 ?_
  refine ev_iload (j := 0) dL_law_292 rfl ?_
  refine ev_i2l dL_law_294 ?_
  refine ev_lcmp0 (by rw [e9, hv c0, hbb c0]; rfl) dL_law_295 ?_
  exact evx_eq 301 dL_law_296 (by decide) (fun _ => done) (fun w => absurd rfl w)
theorem lc_1 (hN : NC G) (hX : va_X b L xs (s0G G) (s0G G).heap) (hb : b < bG G) (hL : L ≤ 2560) (i0 : 0 ≤ i) (i1 : i + 5 ≤ L) (hu : u ≤ 600000) (h : Rel M) (kk : ∀ M', Rel M' → EvL G b (u + 4) 2796 (LW G b i) [] M') : EvL G b u 304 (LW G b i) [] M := by
  refine ev_aload_n (j := 1) dL_law_304 rfl rfl ?_
  refine ev_aload_n (j := 0) dL_law_305 rfl rfl ?_
  refine ev_iload (j := 5) dL_law_306 rfl ?_
  refine ev_iconst dL_law_308 ?_
  refine ev_iadd dL_law_309 ?_
  refine ev_sld (n := 1) hX hb hL (by omega) (by omega) dL_law_310 ?_
  refine ev_aload_n (j := 0) dL_law_311 rfl rfl ?_
  refine ev_iload (j := 5) dL_law_312 rfl ?_
  refine ev_iconst dL_law_314 ?_
  refine ev_iadd dL_law_315 ?_
  refine ev_sld (n := 2) hX hb hL (by omega) (by omega) dL_law_316 ?_
  refine ev_nz 324 325 ax_i dL_law_317 (by decide) dL_law_320 dL_law_321 (by decide) dL_law_324 (by decide) ?_
  refine ev_aload_n (j := 3) dL_law_325 rfl rfl ?_
  refine el_callSH (n := 4) (As := [rr G 0 0 0, iv (ax xs i 1), iv (nz (ax xs i 2)), rr G 9 0 0]) (st := []) mfL_setTurn mlL_155 dL_law_326 rfl rfl (by decide) (by decide) (by omega) (by omega) (Nat.le_of_ble_eq_true rfl) (w_setTurn hN h ax_i (nz_01 _)) (fun r M1 o => ?_)
  obtain ⟨c, v, rfl, hc, hv, nq⟩ := o
  refine ev_istore dL_law_329 (by decide) rfl ?_
  refine ev_aload_n (j := 3) dL_law_331 rfl rfl ?_
  refine ev_aload_n (j := 1) dL_law_332 rfl rfl ?_
  refine ev_iload (j := 6) dL_law_333 rfl ?_
  refine ev_iconst dL_law_335 ?_
  refine ev_iadd dL_law_336 ?_
  refine ev_sld (n := 1) hX hb hL (by omega) (by omega) dL_law_337 ?_
  refine ev_aload_n (j := 1) dL_law_338 rfl rfl ?_
  refine ev_iload (j := 6) dL_law_339 rfl ?_
  refine ev_iconst dL_law_341 ?_
  refine ev_iadd dL_law_342 ?_
  refine ev_sld (n := 2) hX hb hL (by omega) (by omega) dL_law_343 ?_
  refine ev_nz 351 352 ax_i dL_law_344 (by decide) dL_law_347 dL_law_348 (by decide) dL_law_351 (by decide) ?_
  refine el_callV (n := 2) (As := [iv (ax xs i 1), iv (nz (ax xs i 2))]) (st := []) mfX12_setTurn mlL_158 dL_law_352 rfl dm8_0 en8_0 rfl rfl rfl (by decide) (by decide) (by decide) (by omega) (by omega) (Nat.le_of_ble_eq_true rfl) nq (fun r M2 o2 => ?_)
  obtain ⟨⟨bb, rfl, hbb⟩, e7, e9, hR⟩ := o2
  refine ev_istore dL_law_355 (by decide) rfl ?_
  refine ev_aload_n (j := 4) dL_law_357 rfl rfl ?_
  refine el_callV (n := 0) (As := []) (st := []) (K' := fun r M9 => r = [iv c] ∧ M2 = M9) mfX12_thrown mlL_152 dL_law_358 rfl dm8_0 en8_0 rfl rfl rfl (by decide) (by decide) (by decide) (by omega) (by omega) (Nat.le_of_ble_eq_true rfl) (bX12_thrown ⟨by rw [e7], rfl⟩) (fun r M3 o3 => ?_)
  obtain ⟨rfl, rfl⟩ := o3
  refine ev_iload (j := 1) dL_law_361 rfl ?_
  refine evx_icmpeq 368 dL_law_363 (by decide) (fun _ => ?_) (fun w => absurd rfl w)
  refine ev_iload (j := 1) dL_law_368 rfl ?_
  have done : EvL G b (u + 4) 392 [(7, iv bb), (6, iv c), (0, .ref b), (1, rr G 0 0 0), (2, rr G 8 0 0), (3, rr G 9 0 0), (4, rr G 9 0 1), (5, iv i)] [] M2 := ev_goto 2796 dL_law_392 (by decide) (ev_sub [2, 3, 4, 5, 6, 7] rfl (kk _ hR))
  refine evx_ne 392 dL_law_370 (by decide) (fun _ => done) (fun z => ?_)
  have c0 : c = 0 := (J_eq ⟨by omega, by omega⟩ I32_0).mp z
  refine ev_aload_n (j := 5) dL_law_373 rfl rfl ?_
  refine ev_iconst dL_law_374 ?_
  refine ev_lald dL_law_375 ?_
  refine ev_iload (j := 0) dL_law_376 rfl ?_
  refine ev_nzL 385 386 (by rw [hbb c0]; exact (hv c0).2) dL_law_378 (by decide) dL_law_381 dL_law_382 (by decide) dL_law_385 (by decide) ?_
  refine ev_lcmp0 (by rw [e9, (hv c0).1, hbb c0]) dL_law_386 ?_
  exact evx_eq 392 dL_law_387 (by decide) (fun _ => done) (fun w => absurd rfl w)
theorem lc_2 (hN : NC G) (hX : va_X b L xs (s0G G) (s0G G).heap) (hb : b < bG G) (hL : L ≤ 2560) (i0 : 0 ≤ i) (i1 : i + 5 ≤ L) (hu : u ≤ 600000) (h : Rel M) (kk : ∀ M', Rel M' → EvL G b (u + 4) 2796 (LW G b i) [] M') : EvL G b u 395 (LW G b i) [] M := by
  refine ev_aload_n (j := 1) dL_law_395 rfl rfl ?_
  refine ev_aload_n (j := 0) dL_law_396 rfl rfl ?_
  refine ev_iload (j := 5) dL_law_397 rfl ?_
  refine ev_iconst dL_law_399 ?_
  refine ev_iadd dL_law_400 ?_
  refine ev_sld (n := 1) hX hb hL (by omega) (by omega) dL_law_401 ?_
  refine ev_aload_n (j := 0) dL_law_402 rfl rfl ?_
  refine ev_iload (j := 5) dL_law_403 rfl ?_
  refine ev_iconst dL_law_405 ?_
  refine ev_iadd dL_law_406 ?_
  refine ev_sld (n := 2) hX hb hL (by omega) (by omega) dL_law_407 ?_
  refine ev_aload_n (j := 3) dL_law_408 rfl rfl ?_
  refine el_callSH (n := 4) (As := [rr G 0 0 0, iv (ax xs i 1), iv (ax xs i 2), rr G 9 0 0]) (st := []) mfL_set mlL_159 dL_law_409 rfl rfl (by decide) (by decide) (by omega) (by omega) (Nat.le_of_ble_eq_true rfl) (w_set hN h ax_i ax_i) (fun r M1 o => ?_)
  obtain ⟨c, v, rfl, hc, hv, nq⟩ := o
  refine ev_istore dL_law_412 (by decide) rfl ?_
  refine ev_aload_n (j := 3) dL_law_414 rfl rfl ?_
  refine ev_aload_n (j := 1) dL_law_415 rfl rfl ?_
  refine ev_iload (j := 6) dL_law_416 rfl ?_
  refine ev_iconst dL_law_418 ?_
  refine ev_iadd dL_law_419 ?_
  refine ev_sld (n := 1) hX hb hL (by omega) (by omega) dL_law_420 ?_
  refine ev_aload_n (j := 1) dL_law_421 rfl rfl ?_
  refine ev_iload (j := 6) dL_law_422 rfl ?_
  refine ev_iconst dL_law_424 ?_
  refine ev_iadd dL_law_425 ?_
  refine ev_sld (n := 2) hX hb hL (by omega) (by omega) dL_law_426 ?_
  refine el_callV (n := 2) (As := [iv (ax xs i 1), iv (ax xs i 2)]) (st := []) mfX12_set mlL_162 dL_law_427 rfl dm8_0 en8_0 rfl rfl rfl (by decide) (by decide) (by decide) (by omega) (by omega) (Nat.le_of_ble_eq_true rfl) nq (fun r M2 o2 => ?_)
  obtain ⟨⟨bb, rfl, hbb⟩, e7, e9, hR⟩ := o2
  refine ev_istore dL_law_430 (by decide) rfl ?_
  refine ev_aload_n (j := 4) dL_law_432 rfl rfl ?_
  refine el_callV (n := 0) (As := []) (st := []) (K' := fun r M9 => r = [iv c] ∧ M2 = M9) mfX12_thrown mlL_152 dL_law_433 rfl dm8_0 en8_0 rfl rfl rfl (by decide) (by decide) (by decide) (by omega) (by omega) (Nat.le_of_ble_eq_true rfl) (bX12_thrown ⟨by rw [e7], rfl⟩) (fun r M3 o3 => ?_)
  obtain ⟨rfl, rfl⟩ := o3
  refine ev_iload (j := 1) dL_law_436 rfl ?_
  refine evx_icmpeq 443 dL_law_438 (by decide) (fun _ => ?_) (fun w => absurd rfl w)
  refine ev_iload (j := 1) dL_law_443 rfl ?_
  have done : EvL G b (u + 4) 460 [(7, iv bb), (6, iv c), (0, .ref b), (1, rr G 0 0 0), (2, rr G 8 0 0), (3, rr G 9 0 0), (4, rr G 9 0 1), (5, iv i)] [] M2 := ev_goto 2796 dL_law_460 (by decide) (ev_sub [2, 3, 4, 5, 6, 7] rfl (kk _ hR))
  refine evx_ne 460 dL_law_445 (by decide) (fun _ => done) (fun z => ?_)
  have c0 : c = 0 := (J_eq ⟨by omega, by omega⟩ I32_0).mp z
  refine ev_aload_n (j := 5) dL_law_448 rfl rfl ?_
  refine ev_iconst dL_law_449 ?_
  refine ev_lald dL_law_450 ?_
  refine ev_iload (j := 0) dL_law_451 rfl ?_
  refine ev_i2l dL_law_453 ?_
  refine ev_lcmp0 (by rw [e9, hv c0, hbb c0]; rfl) dL_law_454 ?_
  exact evx_eq 460 dL_law_455 (by decide) (fun _ => done) (fun w => absurd rfl w)
theorem lc_3 (hN : NC G) (hX : va_X b L xs (s0G G) (s0G G).heap) (hb : b < bG G) (hL : L ≤ 2560) (i0 : 0 ≤ i) (i1 : i + 5 ≤ L) (hu : u ≤ 600000) (h : Rel M) (kk : ∀ M', Rel M' → EvL G b (u + 4) 2796 (LW G b i) [] M') : EvL G b u 463 (LW G b i) [] M := by
  refine ev_aload_n (j := 1) dL_law_463 rfl rfl ?_
  refine ev_aload_n (j := 0) dL_law_464 rfl rfl ?_
  refine ev_iload (j := 5) dL_law_465 rfl ?_
  refine ev_iconst dL_law_467 ?_
  refine ev_iadd dL_law_468 ?_
  refine ev_sld (n := 1) hX hb hL (by omega) (by omega) dL_law_469 ?_
  refine ev_aload_n (j := 0) dL_law_470 rfl rfl ?_
  refine ev_iload (j := 5) dL_law_471 rfl ?_
  refine ev_iconst dL_law_473 ?_
  refine ev_iadd dL_law_474 ?_
  refine ev_sld (n := 2) hX hb hL (by omega) (by omega) dL_law_475 ?_
  refine ev_aload_n (j := 0) dL_law_476 rfl rfl ?_
  refine ev_iload (j := 5) dL_law_477 rfl ?_
  refine ev_iconst dL_law_479 ?_
  refine ev_iadd dL_law_480 ?_
  refine ev_sld (n := 3) hX hb hL (by omega) (by omega) dL_law_481 ?_
  refine ev_aload_n (j := 3) dL_law_482 rfl rfl ?_
  refine el_callSH (n := 5) (As := [rr G 0 0 0, iv (ax xs i 1), iv (ax xs i 2), iv (ax xs i 3), rr G 9 0 0]) (st := []) mfL_addTrip mlL_163 dL_law_483 rfl rfl (by decide) (by decide) (by omega) (by omega) (Nat.le_of_ble_eq_true rfl) (w_addTrip hN h ax_i ax_i ax_i) (fun r M1 o => ?_)
  obtain ⟨c, v, rfl, hc, hv, nq⟩ := o
  refine ev_istore dL_law_486 (by decide) rfl ?_
  refine ev_aload_n (j := 3) dL_law_488 rfl rfl ?_
  refine ev_aload_n (j := 1) dL_law_489 rfl rfl ?_
  refine ev_iload (j := 6) dL_law_490 rfl ?_
  refine ev_iconst dL_law_492 ?_
  refine ev_iadd dL_law_493 ?_
  refine ev_sld (n := 1) hX hb hL (by omega) (by omega) dL_law_494 ?_
  refine ev_aload_n (j := 1) dL_law_495 rfl rfl ?_
  refine ev_iload (j := 6) dL_law_496 rfl ?_
  refine ev_iconst dL_law_498 ?_
  refine ev_iadd dL_law_499 ?_
  refine ev_sld (n := 2) hX hb hL (by omega) (by omega) dL_law_500 ?_
  refine ev_aload_n (j := 1) dL_law_501 rfl rfl ?_
  refine ev_iload (j := 6) dL_law_502 rfl ?_
  refine ev_iconst dL_law_504 ?_
  refine ev_iadd dL_law_505 ?_
  refine ev_sld (n := 3) hX hb hL (by omega) (by omega) dL_law_506 ?_
  refine el_callV (n := 3) (As := [iv (ax xs i 1), iv (ax xs i 2), iv (ax xs i 3)]) (st := []) mfX12_addTrip mlL_165 dL_law_507 rfl dm8_0 en8_0 rfl rfl rfl (by decide) (by decide) (by decide) (by omega) (by omega) (Nat.le_of_ble_eq_true rfl) nq (fun r M2 o2 => ?_)
  obtain ⟨⟨bb, rfl, hbb⟩, e7, e9, hR⟩ := o2
  refine ev_istore dL_law_510 (by decide) rfl ?_
  refine ev_aload_n (j := 4) dL_law_512 rfl rfl ?_
  refine el_callV (n := 0) (As := []) (st := []) (K' := fun r M9 => r = [iv c] ∧ M2 = M9) mfX12_thrown mlL_152 dL_law_513 rfl dm8_0 en8_0 rfl rfl rfl (by decide) (by decide) (by decide) (by omega) (by omega) (Nat.le_of_ble_eq_true rfl) (bX12_thrown ⟨by rw [e7], rfl⟩) (fun r M3 o3 => ?_)
  obtain ⟨rfl, rfl⟩ := o3
  refine ev_iload (j := 1) dL_law_516 rfl ?_
  refine evx_icmpeq 523 dL_law_518 (by decide) (fun _ => ?_) (fun w => absurd rfl w)
  refine ev_iload (j := 1) dL_law_523 rfl ?_
  have done : EvL G b (u + 4) 540 [(7, iv bb), (6, iv c), (0, .ref b), (1, rr G 0 0 0), (2, rr G 8 0 0), (3, rr G 9 0 0), (4, rr G 9 0 1), (5, iv i)] [] M2 := ev_goto 2796 dL_law_540 (by decide) (ev_sub [2, 3, 4, 5, 6, 7] rfl (kk _ hR))
  refine evx_ne 540 dL_law_525 (by decide) (fun _ => done) (fun z => ?_)
  have c0 : c = 0 := (J_eq ⟨by omega, by omega⟩ I32_0).mp z
  refine ev_aload_n (j := 5) dL_law_528 rfl rfl ?_
  refine ev_iconst dL_law_529 ?_
  refine ev_lald dL_law_530 ?_
  refine ev_iload (j := 0) dL_law_531 rfl ?_
  refine ev_i2l dL_law_533 ?_
  refine ev_lcmp0 (by rw [e9, hv c0, hbb c0]; rfl) dL_law_534 ?_
  exact evx_eq 540 dL_law_535 (by decide) (fun _ => done) (fun w => absurd rfl w)
theorem lc_4 (hN : NC G) (hX : va_X b L xs (s0G G) (s0G G).heap) (hb : b < bG G) (hL : L ≤ 2560) (i0 : 0 ≤ i) (i1 : i + 5 ≤ L) (hu : u ≤ 600000) (h : Rel M) (kk : ∀ M', Rel M' → EvL G b (u + 4) 2796 (LW G b i) [] M') : EvL G b u 543 (LW G b i) [] M := by
  refine ev_aload_n (j := 1) dL_law_543 rfl rfl ?_
  refine ev_aload_n (j := 0) dL_law_544 rfl rfl ?_
  refine ev_iload (j := 5) dL_law_545 rfl ?_
  refine ev_iconst dL_law_547 ?_
  refine ev_iadd dL_law_548 ?_
  refine ev_sld (n := 1) hX hb hL (by omega) (by omega) dL_law_549 ?_
  refine ev_aload_n (j := 0) dL_law_550 rfl rfl ?_
  refine ev_iload (j := 5) dL_law_551 rfl ?_
  refine ev_iconst dL_law_553 ?_
  refine ev_iadd dL_law_554 ?_
  refine ev_sld (n := 2) hX hb hL (by omega) (by omega) dL_law_555 ?_
  refine ev_nz 563 564 ax_i dL_law_556 (by decide) dL_law_559 dL_law_560 (by decide) dL_law_563 (by decide) ?_
  refine ev_aload_n (j := 3) dL_law_564 rfl rfl ?_
  refine el_callSH (n := 4) (As := [rr G 0 0 0, iv (ax xs i 1), iv (nz (ax xs i 2)), rr G 9 0 0]) (st := []) mfL_cancel mlL_166 dL_law_565 rfl rfl (by decide) (by decide) (by omega) (by omega) (Nat.le_of_ble_eq_true rfl) (w_cancel hN h ax_i (nz_01 _)) (fun r M1 o => ?_)
  obtain ⟨c, v, rfl, hc, hv, nq⟩ := o
  refine ev_istore dL_law_568 (by decide) rfl ?_
  refine ev_aload_n (j := 3) dL_law_570 rfl rfl ?_
  refine ev_aload_n (j := 1) dL_law_571 rfl rfl ?_
  refine ev_iload (j := 6) dL_law_572 rfl ?_
  refine ev_iconst dL_law_574 ?_
  refine ev_iadd dL_law_575 ?_
  refine ev_sld (n := 1) hX hb hL (by omega) (by omega) dL_law_576 ?_
  refine ev_aload_n (j := 1) dL_law_577 rfl rfl ?_
  refine ev_iload (j := 6) dL_law_578 rfl ?_
  refine ev_iconst dL_law_580 ?_
  refine ev_iadd dL_law_581 ?_
  refine ev_sld (n := 2) hX hb hL (by omega) (by omega) dL_law_582 ?_
  refine ev_nz 590 591 ax_i dL_law_583 (by decide) dL_law_586 dL_law_587 (by decide) dL_law_590 (by decide) ?_
  refine el_callV (n := 2) (As := [iv (ax xs i 1), iv (nz (ax xs i 2))]) (st := []) mfX12_cancel mlL_168 dL_law_591 rfl dm8_0 en8_0 rfl rfl rfl (by decide) (by decide) (by decide) (by omega) (by omega) (Nat.le_of_ble_eq_true rfl) nq (fun r M2 o2 => ?_)
  obtain ⟨⟨bb, rfl, hbb⟩, e7, e9, hR⟩ := o2
  refine ev_istore dL_law_594 (by decide) rfl ?_
  refine ev_aload_n (j := 4) dL_law_596 rfl rfl ?_
  refine el_callV (n := 0) (As := []) (st := []) (K' := fun r M9 => r = [iv c] ∧ M2 = M9) mfX12_thrown mlL_152 dL_law_597 rfl dm8_0 en8_0 rfl rfl rfl (by decide) (by decide) (by decide) (by omega) (by omega) (Nat.le_of_ble_eq_true rfl) (bX12_thrown ⟨by rw [e7], rfl⟩) (fun r M3 o3 => ?_)
  obtain ⟨rfl, rfl⟩ := o3
  refine ev_iload (j := 1) dL_law_600 rfl ?_
  refine evx_icmpeq 607 dL_law_602 (by decide) (fun _ => ?_) (fun w => absurd rfl w)
  refine ev_iload (j := 1) dL_law_607 rfl ?_
  have done : EvL G b (u + 4) 631 [(7, iv bb), (6, iv c), (0, .ref b), (1, rr G 0 0 0), (2, rr G 8 0 0), (3, rr G 9 0 0), (4, rr G 9 0 1), (5, iv i)] [] M2 := ev_goto 2796 dL_law_631 (by decide) (ev_sub [2, 3, 4, 5, 6, 7] rfl (kk _ hR))
  refine evx_ne 631 dL_law_609 (by decide) (fun _ => done) (fun z => ?_)
  have c0 : c = 0 := (J_eq ⟨by omega, by omega⟩ I32_0).mp z
  refine ev_aload_n (j := 5) dL_law_612 rfl rfl ?_
  refine ev_iconst dL_law_613 ?_
  refine ev_lald dL_law_614 ?_
  refine ev_iload (j := 0) dL_law_615 rfl ?_
  refine ev_nzL 624 625 (by rw [hbb c0]; exact (hv c0).2) dL_law_617 (by decide) dL_law_620 dL_law_621 (by decide) dL_law_624 (by decide) ?_
  refine ev_lcmp0 (by rw [e9, (hv c0).1, hbb c0]) dL_law_625 ?_
  exact evx_eq 631 dL_law_626 (by decide) (fun _ => done) (fun w => absurd rfl w)
theorem lc_5 (hN : NC G) (hX : va_X b L xs (s0G G) (s0G G).heap) (hb : b < bG G) (hL : L ≤ 2560) (i0 : 0 ≤ i) (i1 : i + 5 ≤ L) (hu : u ≤ 600000) (h : Rel M) (kk : ∀ M', Rel M' → EvL G b (u + 4) 2796 (LW G b i) [] M') : EvL G b u 634 (LW G b i) [] M := by
  refine ev_aload_n (j := 1) dL_law_634 rfl rfl ?_
  refine ev_aload_n (j := 0) dL_law_635 rfl rfl ?_
  refine ev_iload (j := 5) dL_law_636 rfl ?_
  refine ev_iconst dL_law_638 ?_
  refine ev_iadd dL_law_639 ?_
  refine ev_sld (n := 1) hX hb hL (by omega) (by omega) dL_law_640 ?_
  refine ev_aload_n (j := 0) dL_law_641 rfl rfl ?_
  refine ev_iload (j := 5) dL_law_642 rfl ?_
  refine ev_iconst dL_law_644 ?_
  refine ev_iadd dL_law_645 ?_
  refine ev_sld (n := 2) hX hb hL (by omega) (by omega) dL_law_646 ?_
  refine ev_aload_n (j := 3) dL_law_647 rfl rfl ?_
  refine el_callSH (n := 4) (As := [rr G 0 0 0, iv (ax xs i 1), iv (ax xs i 2), rr G 9 0 0]) (st := []) mfL_trip mlL_169 dL_law_648 rfl rfl (by decide) (by decide) (by omega) (by omega) (Nat.le_of_ble_eq_true rfl) (w_trip hN h ax_i ax_i) (fun r M1 o => ?_)
  obtain ⟨c, v, rfl, hc, hv, nq⟩ := o
  refine ev_istore dL_law_651 (by decide) rfl ?_
  refine ev_aload_n (j := 3) dL_law_653 rfl rfl ?_
  refine ev_aload_n (j := 1) dL_law_654 rfl rfl ?_
  refine ev_iload (j := 6) dL_law_655 rfl ?_
  refine ev_iconst dL_law_657 ?_
  refine ev_iadd dL_law_658 ?_
  refine ev_sld (n := 1) hX hb hL (by omega) (by omega) dL_law_659 ?_
  refine ev_aload_n (j := 1) dL_law_660 rfl rfl ?_
  refine ev_iload (j := 6) dL_law_661 rfl ?_
  refine ev_iconst dL_law_663 ?_
  refine ev_iadd dL_law_664 ?_
  refine ev_sld (n := 2) hX hb hL (by omega) (by omega) dL_law_665 ?_
  refine el_callV (n := 2) (As := [iv (ax xs i 1), iv (ax xs i 2)]) (st := []) mfX12_trip mlL_171 dL_law_666 rfl dm8_0 en8_0 rfl rfl rfl (by decide) (by decide) (by decide) (by omega) (by omega) (Nat.le_of_ble_eq_true rfl) nq (fun r M2 o2 => ?_)
  obtain ⟨⟨bb, rfl, hbb⟩, e7, e9, hR⟩ := o2
  refine ev_istore dL_law_669 (by decide) rfl ?_
  refine ev_aload_n (j := 4) dL_law_671 rfl rfl ?_
  refine el_callV (n := 0) (As := []) (st := []) (K' := fun r M9 => r = [iv c] ∧ M2 = M9) mfX12_thrown mlL_152 dL_law_672 rfl dm8_0 en8_0 rfl rfl rfl (by decide) (by decide) (by decide) (by omega) (by omega) (Nat.le_of_ble_eq_true rfl) (bX12_thrown ⟨by rw [e7], rfl⟩) (fun r M3 o3 => ?_)
  obtain ⟨rfl, rfl⟩ := o3
  refine ev_iload (j := 1) dL_law_675 rfl ?_
  refine evx_icmpeq 682 dL_law_677 (by decide) (fun _ => ?_) (fun w => absurd rfl w)
  refine ev_iload (j := 1) dL_law_682 rfl ?_
  have done : EvL G b (u + 4) 699 [(7, iv bb), (6, iv c), (0, .ref b), (1, rr G 0 0 0), (2, rr G 8 0 0), (3, rr G 9 0 0), (4, rr G 9 0 1), (5, iv i)] [] M2 := ev_goto 2796 dL_law_699 (by decide) (ev_sub [2, 3, 4, 5, 6, 7] rfl (kk _ hR))
  refine evx_ne 699 dL_law_684 (by decide) (fun _ => done) (fun z => ?_)
  have c0 : c = 0 := (J_eq ⟨by omega, by omega⟩ I32_0).mp z
  refine ev_aload_n (j := 5) dL_law_687 rfl rfl ?_
  refine ev_iconst dL_law_688 ?_
  refine ev_lald dL_law_689 ?_
  refine ev_iload (j := 0) dL_law_690 rfl ?_
  refine ev_i2l dL_law_692 ?_
  refine ev_lcmp0 (by rw [e9, hv c0, hbb c0]; rfl) dL_law_693 ?_
  exact evx_eq 699 dL_law_694 (by decide) (fun _ => done) (fun w => absurd rfl w)
theorem lc_6 (hN : NC G) (hX : va_X b L xs (s0G G) (s0G G).heap) (hb : b < bG G) (hL : L ≤ 2560) (i0 : 0 ≤ i) (i1 : i + 5 ≤ L) (hu : u ≤ 600000) (h : Rel M) (kk : ∀ M', Rel M' → EvL G b (u + 4) 2796 (LW G b i) [] M') : EvL G b u 702 (LW G b i) [] M := by
  refine ev_aload_n (j := 1) dL_law_702 rfl rfl ?_
  refine ev_aload_n (j := 0) dL_law_703 rfl rfl ?_
  refine ev_iload (j := 5) dL_law_704 rfl ?_
  refine ev_iconst dL_law_706 ?_
  refine ev_iadd dL_law_707 ?_
  refine ev_sld (n := 1) hX hb hL (by omega) (by omega) dL_law_708 ?_
  refine ev_aload_n (j := 0) dL_law_709 rfl rfl ?_
  refine ev_iload (j := 5) dL_law_710 rfl ?_
  refine ev_iconst dL_law_712 ?_
  refine ev_iadd dL_law_713 ?_
  refine ev_sld (n := 2) hX hb hL (by omega) (by omega) dL_law_714 ?_
  refine ev_aload_n (j := 3) dL_law_715 rfl rfl ?_
  refine el_callSH (n := 4) (As := [rr G 0 0 0, iv (ax xs i 1), iv (ax xs i 2), rr G 9 0 0]) (st := []) mfL_planned mlL_172 dL_law_716 rfl rfl (by decide) (by decide) (by omega) (by omega) (Nat.le_of_ble_eq_true rfl) (w_planned hN h ax_i ax_i) (fun r M1 o => ?_)
  obtain ⟨c, v, rfl, hc, hv, nq⟩ := o
  refine ev_istore dL_law_719 (by decide) rfl ?_
  refine ev_aload_n (j := 3) dL_law_721 rfl rfl ?_
  refine ev_aload_n (j := 1) dL_law_722 rfl rfl ?_
  refine ev_iload (j := 6) dL_law_723 rfl ?_
  refine ev_iconst dL_law_725 ?_
  refine ev_iadd dL_law_726 ?_
  refine ev_sld (n := 1) hX hb hL (by omega) (by omega) dL_law_727 ?_
  refine ev_aload_n (j := 1) dL_law_728 rfl rfl ?_
  refine ev_iload (j := 6) dL_law_729 rfl ?_
  refine ev_iconst dL_law_731 ?_
  refine ev_iadd dL_law_732 ?_
  refine ev_sld (n := 2) hX hb hL (by omega) (by omega) dL_law_733 ?_
  refine el_callV (n := 2) (As := [iv (ax xs i 1), iv (ax xs i 2)]) (st := []) mfX12_planned mlL_174 dL_law_734 rfl dm8_0 en8_0 rfl rfl rfl (by decide) (by decide) (by decide) (by omega) (by omega) (Nat.le_of_ble_eq_true rfl) nq (fun r M2 o2 => ?_)
  obtain ⟨⟨bb, rfl, hbb⟩, e7, e9, hR⟩ := o2
  refine ev_istore dL_law_737 (by decide) rfl ?_
  refine ev_aload_n (j := 4) dL_law_739 rfl rfl ?_
  refine el_callV (n := 0) (As := []) (st := []) (K' := fun r M9 => r = [iv c] ∧ M2 = M9) mfX12_thrown mlL_152 dL_law_740 rfl dm8_0 en8_0 rfl rfl rfl (by decide) (by decide) (by decide) (by omega) (by omega) (Nat.le_of_ble_eq_true rfl) (bX12_thrown ⟨by rw [e7], rfl⟩) (fun r M3 o3 => ?_)
  obtain ⟨rfl, rfl⟩ := o3
  refine ev_iload (j := 1) dL_law_743 rfl ?_
  refine evx_icmpeq 750 dL_law_745 (by decide) (fun _ => ?_) (fun w => absurd rfl w)
  refine ev_iload (j := 1) dL_law_750 rfl ?_
  have done : EvL G b (u + 4) 767 [(7, iv bb), (6, iv c), (0, .ref b), (1, rr G 0 0 0), (2, rr G 8 0 0), (3, rr G 9 0 0), (4, rr G 9 0 1), (5, iv i)] [] M2 := ev_goto 2796 dL_law_767 (by decide) (ev_sub [2, 3, 4, 5, 6, 7] rfl (kk _ hR))
  refine evx_ne 767 dL_law_752 (by decide) (fun _ => done) (fun z => ?_)
  have c0 : c = 0 := (J_eq ⟨by omega, by omega⟩ I32_0).mp z
  refine ev_aload_n (j := 5) dL_law_755 rfl rfl ?_
  refine ev_iconst dL_law_756 ?_
  refine ev_lald dL_law_757 ?_
  refine ev_iload (j := 0) dL_law_758 rfl ?_
  refine ev_i2l dL_law_760 ?_
  refine ev_lcmp0 (by rw [e9, hv c0, hbb c0]; rfl) dL_law_761 ?_
  exact evx_eq 767 dL_law_762 (by decide) (fun _ => done) (fun w => absurd rfl w)
theorem lc_7 (hN : NC G) (hX : va_X b L xs (s0G G) (s0G G).heap) (hb : b < bG G) (hL : L ≤ 2560) (i0 : 0 ≤ i) (i1 : i + 5 ≤ L) (hu : u ≤ 600000) (h : Rel M) (kk : ∀ M', Rel M' → EvL G b (u + 4) 2796 (LW G b i) [] M') : EvL G b u 770 (LW G b i) [] M := by
  refine ev_aload_n (j := 1) dL_law_770 rfl rfl ?_
  refine ev_aload_n (j := 0) dL_law_771 rfl rfl ?_
  refine ev_iload (j := 5) dL_law_772 rfl ?_
  refine ev_iconst dL_law_774 ?_
  refine ev_iadd dL_law_775 ?_
  refine ev_sld (n := 1) hX hb hL (by omega) (by omega) dL_law_776 ?_
  refine ev_aload_n (j := 3) dL_law_777 rfl rfl ?_
  refine el_callSH (n := 3) (As := [rr G 0 0 0, iv (ax xs i 1), rr G 9 0 0]) (st := []) mfL_count mlL_175 dL_law_778 rfl rfl (by decide) (by decide) (by omega) (by omega) (Nat.le_of_ble_eq_true rfl) (w_count hN h ax_i) (fun r M1 o => ?_)
  obtain ⟨c, v, rfl, hc, hv, nq⟩ := o
  refine ev_istore dL_law_781 (by decide) rfl ?_
  refine ev_aload_n (j := 3) dL_law_783 rfl rfl ?_
  refine ev_aload_n (j := 1) dL_law_784 rfl rfl ?_
  refine ev_iload (j := 6) dL_law_785 rfl ?_
  refine ev_iconst dL_law_787 ?_
  refine ev_iadd dL_law_788 ?_
  refine ev_sld (n := 1) hX hb hL (by omega) (by omega) dL_law_789 ?_
  refine el_callV (n := 1) (As := [iv (ax xs i 1)]) (st := []) mfX12_count mlL_178 dL_law_790 rfl dm8_0 en8_0 rfl rfl rfl (by decide) (by decide) (by decide) (by omega) (by omega) (Nat.le_of_ble_eq_true rfl) nq (fun r M2 o2 => ?_)
  obtain ⟨⟨bb, rfl, hbb⟩, e7, e9, hR⟩ := o2
  refine ev_istore dL_law_793 (by decide) rfl ?_
  refine ev_aload_n (j := 4) dL_law_795 rfl rfl ?_
  refine el_callV (n := 0) (As := []) (st := []) (K' := fun r M9 => r = [iv c] ∧ M2 = M9) mfX12_thrown mlL_152 dL_law_796 rfl dm8_0 en8_0 rfl rfl rfl (by decide) (by decide) (by decide) (by omega) (by omega) (Nat.le_of_ble_eq_true rfl) (bX12_thrown ⟨by rw [e7], rfl⟩) (fun r M3 o3 => ?_)
  obtain ⟨rfl, rfl⟩ := o3
  refine ev_iload (j := 1) dL_law_799 rfl ?_
  refine evx_icmpeq 806 dL_law_801 (by decide) (fun _ => ?_) (fun w => absurd rfl w)
  refine ev_iload (j := 1) dL_law_806 rfl ?_
  have done : EvL G b (u + 4) 823 [(7, iv bb), (6, iv c), (0, .ref b), (1, rr G 0 0 0), (2, rr G 8 0 0), (3, rr G 9 0 0), (4, rr G 9 0 1), (5, iv i)] [] M2 := ev_goto 2796 dL_law_823 (by decide) (ev_sub [2, 3, 4, 5, 6, 7] rfl (kk _ hR))
  refine evx_ne 823 dL_law_808 (by decide) (fun _ => done) (fun z => ?_)
  have c0 : c = 0 := (J_eq ⟨by omega, by omega⟩ I32_0).mp z
  refine ev_aload_n (j := 5) dL_law_811 rfl rfl ?_
  refine ev_iconst dL_law_812 ?_
  refine ev_lald dL_law_813 ?_
  refine ev_iload (j := 0) dL_law_814 rfl ?_
  refine ev_i2l dL_law_816 ?_
  refine ev_lcmp0 (by rw [e9, hv c0, hbb c0]; rfl) dL_law_817 ?_
  exact evx_eq 823 dL_law_818 (by decide) (fun _ => done) (fun w => absurd rfl w)
theorem lc_8 (hN : NC G) (hX : va_X b L xs (s0G G) (s0G G).heap) (hb : b < bG G) (hL : L ≤ 2560) (i0 : 0 ≤ i) (i1 : i + 5 ≤ L) (hu : u ≤ 600000) (h : Rel M) (kk : ∀ M', Rel M' → EvL G b (u + 4) 2796 (LW G b i) [] M') : EvL G b u 826 (LW G b i) [] M := by
  refine ev_aload_n (j := 1) dL_law_826 rfl rfl ?_
  refine ev_aload_n (j := 0) dL_law_827 rfl rfl ?_
  refine ev_iload (j := 5) dL_law_828 rfl ?_
  refine ev_iconst dL_law_830 ?_
  refine ev_iadd dL_law_831 ?_
  refine ev_sld (n := 1) hX hb hL (by omega) (by omega) dL_law_832 ?_
  refine ev_aload_n (j := 0) dL_law_833 rfl rfl ?_
  refine ev_iload (j := 5) dL_law_834 rfl ?_
  refine ev_iconst dL_law_836 ?_
  refine ev_iadd dL_law_837 ?_
  refine ev_sld (n := 2) hX hb hL (by omega) (by omega) dL_law_838 ?_
  refine ev_aload_n (j := 0) dL_law_839 rfl rfl ?_
  refine ev_iload (j := 5) dL_law_840 rfl ?_
  refine ev_iconst dL_law_842 ?_
  refine ev_iadd dL_law_843 ?_
  refine ev_sld (n := 3) hX hb hL (by omega) (by omega) dL_law_844 ?_
  refine ev_aload_n (j := 0) dL_law_845 rfl rfl ?_
  refine ev_iload (j := 5) dL_law_846 rfl ?_
  refine ev_iconst dL_law_848 ?_
  refine ev_iadd dL_law_849 ?_
  refine ev_sld (n := 4) hX hb hL (by omega) (by omega) dL_law_850 ?_
  refine ev_nz 858 859 ax_i dL_law_851 (by decide) dL_law_854 dL_law_855 (by decide) dL_law_858 (by decide) ?_
  refine ev_aload_n (j := 3) dL_law_859 rfl rfl ?_
  refine el_callSH (n := 6) (As := [rr G 0 0 0, iv (ax xs i 1), iv (ax xs i 2), iv (ax xs i 3), iv (nz (ax xs i 4)), rr G 9 0 0]) (st := []) mfL_passage mlL_179 dL_law_860 rfl rfl (by decide) (by decide) (by omega) (by omega) (Nat.le_of_ble_eq_true rfl) (w_passage hN h ax_i ax_i ax_i (nz_i _)) (fun r M1 o => ?_)
  obtain ⟨c, v, rfl, hc, hv, nq⟩ := o
  refine ev_istore dL_law_863 (by decide) rfl ?_
  refine ev_aload_n (j := 3) dL_law_865 rfl rfl ?_
  refine ev_aload_n (j := 1) dL_law_866 rfl rfl ?_
  refine ev_iload (j := 6) dL_law_867 rfl ?_
  refine ev_iconst dL_law_869 ?_
  refine ev_iadd dL_law_870 ?_
  refine ev_sld (n := 1) hX hb hL (by omega) (by omega) dL_law_871 ?_
  refine ev_aload_n (j := 1) dL_law_872 rfl rfl ?_
  refine ev_iload (j := 6) dL_law_873 rfl ?_
  refine ev_iconst dL_law_875 ?_
  refine ev_iadd dL_law_876 ?_
  refine ev_sld (n := 2) hX hb hL (by omega) (by omega) dL_law_877 ?_
  refine ev_aload_n (j := 1) dL_law_878 rfl rfl ?_
  refine ev_iload (j := 6) dL_law_879 rfl ?_
  refine ev_iconst dL_law_881 ?_
  refine ev_iadd dL_law_882 ?_
  refine ev_sld (n := 3) hX hb hL (by omega) (by omega) dL_law_883 ?_
  refine ev_aload_n (j := 1) dL_law_884 rfl rfl ?_
  refine ev_iload (j := 6) dL_law_885 rfl ?_
  refine ev_iconst dL_law_887 ?_
  refine ev_iadd dL_law_888 ?_
  refine ev_sld (n := 4) hX hb hL (by omega) (by omega) dL_law_889 ?_
  refine ev_nz 897 898 ax_i dL_law_890 (by decide) dL_law_893 dL_law_894 (by decide) dL_law_897 (by decide) ?_
  refine el_callV (n := 4) (As := [iv (ax xs i 1), iv (ax xs i 2), iv (ax xs i 3), iv (nz (ax xs i 4))]) (st := []) mfX12_passage mlL_182 dL_law_898 rfl dm8_0 en8_0 rfl rfl rfl (by decide) (by decide) (by decide) (by omega) (by omega) (Nat.le_of_ble_eq_true rfl) nq (fun r M2 o2 => ?_)
  obtain ⟨⟨bb, rfl, hbb⟩, e7, e9, hR⟩ := o2
  refine ev_istore dL_law_901 (by decide) rfl ?_
  refine ev_aload_n (j := 4) dL_law_903 rfl rfl ?_
  refine el_callV (n := 0) (As := []) (st := []) (K' := fun r M9 => r = [iv c] ∧ M2 = M9) mfX12_thrown mlL_152 dL_law_904 rfl dm8_0 en8_0 rfl rfl rfl (by decide) (by decide) (by decide) (by omega) (by omega) (Nat.le_of_ble_eq_true rfl) (bX12_thrown ⟨by rw [e7], rfl⟩) (fun r M3 o3 => ?_)
  obtain ⟨rfl, rfl⟩ := o3
  refine ev_iload (j := 1) dL_law_907 rfl ?_
  refine evx_icmpeq 914 dL_law_909 (by decide) (fun _ => ?_) (fun w => absurd rfl w)
  refine ev_iload (j := 1) dL_law_914 rfl ?_
  have done : EvL G b (u + 4) 931 [(7, iv bb), (6, iv c), (0, .ref b), (1, rr G 0 0 0), (2, rr G 8 0 0), (3, rr G 9 0 0), (4, rr G 9 0 1), (5, iv i)] [] M2 := ev_goto 2796 dL_law_931 (by decide) (ev_sub [2, 3, 4, 5, 6, 7] rfl (kk _ hR))
  refine evx_ne 931 dL_law_916 (by decide) (fun _ => done) (fun z => ?_)
  have c0 : c = 0 := (J_eq ⟨by omega, by omega⟩ I32_0).mp z
  refine ev_aload_n (j := 5) dL_law_919 rfl rfl ?_
  refine ev_iconst dL_law_920 ?_
  refine ev_lald dL_law_921 ?_
  refine ev_iload (j := 0) dL_law_922 rfl ?_
  refine ev_i2l dL_law_924 ?_
  refine ev_lcmp0 (by rw [e9, hv c0, hbb c0]; rfl) dL_law_925 ?_
  exact evx_eq 931 dL_law_926 (by decide) (fun _ => done) (fun w => absurd rfl w)
theorem lc_9 (hN : NC G) (hX : va_X b L xs (s0G G) (s0G G).heap) (hb : b < bG G) (hL : L ≤ 2560) (i0 : 0 ≤ i) (i1 : i + 5 ≤ L) (hu : u ≤ 600000) (h : Rel M) (kk : ∀ M', Rel M' → EvL G b (u + 4) 2796 (LW G b i) [] M') : EvL G b u 934 (LW G b i) [] M := by
  refine ev_aload_n (j := 1) dL_law_934 rfl rfl ?_
  refine ev_aload_n (j := 0) dL_law_935 rfl rfl ?_
  refine ev_iload (j := 5) dL_law_936 rfl ?_
  refine ev_iconst dL_law_938 ?_
  refine ev_iadd dL_law_939 ?_
  refine ev_sld (n := 1) hX hb hL (by omega) (by omega) dL_law_940 ?_
  refine ev_aload_n (j := 0) dL_law_941 rfl rfl ?_
  refine ev_iload (j := 5) dL_law_942 rfl ?_
  refine ev_iconst dL_law_944 ?_
  refine ev_iadd dL_law_945 ?_
  refine ev_sld (n := 2) hX hb hL (by omega) (by omega) dL_law_946 ?_
  refine ev_aload_n (j := 3) dL_law_947 rfl rfl ?_
  refine el_callSH (n := 4) (As := [rr G 0 0 0, iv (ax xs i 1), iv (ax xs i 2), rr G 9 0 0]) (st := []) mfL_bunches mlL_183 dL_law_948 rfl rfl (by decide) (by decide) (by omega) (by omega) (Nat.le_of_ble_eq_true rfl) (w_bunches hN h ax_i ax_i) (fun r M1 o => ?_)
  obtain ⟨c, v, rfl, hc, hv, nq⟩ := o
  refine ev_istore dL_law_951 (by decide) rfl ?_
  refine ev_aload_n (j := 3) dL_law_953 rfl rfl ?_
  refine ev_aload_n (j := 1) dL_law_954 rfl rfl ?_
  refine ev_iload (j := 6) dL_law_955 rfl ?_
  refine ev_iconst dL_law_957 ?_
  refine ev_iadd dL_law_958 ?_
  refine ev_sld (n := 1) hX hb hL (by omega) (by omega) dL_law_959 ?_
  refine ev_aload_n (j := 1) dL_law_960 rfl rfl ?_
  refine ev_iload (j := 6) dL_law_961 rfl ?_
  refine ev_iconst dL_law_963 ?_
  refine ev_iadd dL_law_964 ?_
  refine ev_sld (n := 2) hX hb hL (by omega) (by omega) dL_law_965 ?_
  refine el_callV (n := 2) (As := [iv (ax xs i 1), iv (ax xs i 2)]) (st := []) mfX12_bunches mlL_185 dL_law_966 rfl dm8_0 en8_0 rfl rfl rfl (by decide) (by decide) (by decide) (by omega) (by omega) (Nat.le_of_ble_eq_true rfl) nq (fun r M2 o2 => ?_)
  obtain ⟨⟨bb, rfl, hbb⟩, e7, e9, hR⟩ := o2
  refine ev_istore dL_law_969 (by decide) rfl ?_
  refine ev_aload_n (j := 4) dL_law_971 rfl rfl ?_
  refine el_callV (n := 0) (As := []) (st := []) (K' := fun r M9 => r = [iv c] ∧ M2 = M9) mfX12_thrown mlL_152 dL_law_972 rfl dm8_0 en8_0 rfl rfl rfl (by decide) (by decide) (by decide) (by omega) (by omega) (Nat.le_of_ble_eq_true rfl) (bX12_thrown ⟨by rw [e7], rfl⟩) (fun r M3 o3 => ?_)
  obtain ⟨rfl, rfl⟩ := o3
  refine ev_iload (j := 1) dL_law_975 rfl ?_
  refine evx_icmpeq 982 dL_law_977 (by decide) (fun _ => ?_) (fun w => absurd rfl w)
  refine ev_iload (j := 1) dL_law_982 rfl ?_
  have done : EvL G b (u + 4) 999 [(7, iv bb), (6, iv c), (0, .ref b), (1, rr G 0 0 0), (2, rr G 8 0 0), (3, rr G 9 0 0), (4, rr G 9 0 1), (5, iv i)] [] M2 := ev_goto 2796 dL_law_999 (by decide) (ev_sub [2, 3, 4, 5, 6, 7] rfl (kk _ hR))
  refine evx_ne 999 dL_law_984 (by decide) (fun _ => done) (fun z => ?_)
  have c0 : c = 0 := (J_eq ⟨by omega, by omega⟩ I32_0).mp z
  refine ev_aload_n (j := 5) dL_law_987 rfl rfl ?_
  refine ev_iconst dL_law_988 ?_
  refine ev_lald dL_law_989 ?_
  refine ev_iload (j := 0) dL_law_990 rfl ?_
  refine ev_i2l dL_law_992 ?_
  refine ev_lcmp0 (by rw [e9, hv c0, hbb c0]; rfl) dL_law_993 ?_
  exact evx_eq 999 dL_law_994 (by decide) (fun _ => done) (fun w => absurd rfl w)
theorem lc_10 (hN : NC G) (hX : va_X b L xs (s0G G) (s0G G).heap) (hb : b < bG G) (hL : L ≤ 2560) (i0 : 0 ≤ i) (i1 : i + 5 ≤ L) (hu : u ≤ 600000) (h : Rel M) (kk : ∀ M', Rel M' → EvL G b (u + 4) 2796 (LW G b i) [] M') : EvL G b u 1002 (LW G b i) [] M := by
  refine ev_aload_n (j := 1) dL_law_1002 rfl rfl ?_
  refine ev_aload_n (j := 0) dL_law_1003 rfl rfl ?_
  refine ev_iload (j := 5) dL_law_1004 rfl ?_
  refine ev_iconst dL_law_1006 ?_
  refine ev_iadd dL_law_1007 ?_
  refine ev_sld (n := 1) hX hb hL (by omega) (by omega) dL_law_1008 ?_
  refine ev_aload_n (j := 0) dL_law_1009 rfl rfl ?_
  refine ev_iload (j := 5) dL_law_1010 rfl ?_
  refine ev_iconst dL_law_1012 ?_
  refine ev_iadd dL_law_1013 ?_
  refine ev_sld (n := 2) hX hb hL (by omega) (by omega) dL_law_1014 ?_
  refine ev_aload_n (j := 0) dL_law_1015 rfl rfl ?_
  refine ev_iload (j := 5) dL_law_1016 rfl ?_
  refine ev_iconst dL_law_1018 ?_
  refine ev_iadd dL_law_1019 ?_
  refine ev_sld (n := 3) hX hb hL (by omega) (by omega) dL_law_1020 ?_
  refine ev_nz 1028 1029 ax_i dL_law_1021 (by decide) dL_law_1024 dL_law_1025 (by decide) dL_law_1028 (by decide) ?_
  refine ev_aload_n (j := 3) dL_law_1029 rfl rfl ?_
  refine el_callSH (n := 5) (As := [rr G 0 0 0, iv (ax xs i 1), iv (ax xs i 2), iv (nz (ax xs i 3)), rr G 9 0 0]) (st := []) mfL_headway mlL_186 dL_law_1030 rfl rfl (by decide) (by decide) (by omega) (by omega) (Nat.le_of_ble_eq_true rfl) (w_headway hN h ax_i ax_i (nz_i _)) (fun r M1 o => ?_)
  obtain ⟨c, v, rfl, hc, hv, nq⟩ := o
  refine ev_istore dL_law_1033 (by decide) rfl ?_
  refine ev_aload_n (j := 3) dL_law_1035 rfl rfl ?_
  refine ev_aload_n (j := 1) dL_law_1036 rfl rfl ?_
  refine ev_iload (j := 6) dL_law_1037 rfl ?_
  refine ev_iconst dL_law_1039 ?_
  refine ev_iadd dL_law_1040 ?_
  refine ev_sld (n := 1) hX hb hL (by omega) (by omega) dL_law_1041 ?_
  refine ev_aload_n (j := 1) dL_law_1042 rfl rfl ?_
  refine ev_iload (j := 6) dL_law_1043 rfl ?_
  refine ev_iconst dL_law_1045 ?_
  refine ev_iadd dL_law_1046 ?_
  refine ev_sld (n := 2) hX hb hL (by omega) (by omega) dL_law_1047 ?_
  refine ev_aload_n (j := 1) dL_law_1048 rfl rfl ?_
  refine ev_iload (j := 6) dL_law_1049 rfl ?_
  refine ev_iconst dL_law_1051 ?_
  refine ev_iadd dL_law_1052 ?_
  refine ev_sld (n := 3) hX hb hL (by omega) (by omega) dL_law_1053 ?_
  refine ev_nz 1061 1062 ax_i dL_law_1054 (by decide) dL_law_1057 dL_law_1058 (by decide) dL_law_1061 (by decide) ?_
  refine el_callV (n := 3) (As := [iv (ax xs i 1), iv (ax xs i 2), iv (nz (ax xs i 3))]) (st := []) mfX12_headway mlL_189 dL_law_1062 rfl dm8_0 en8_0 rfl rfl rfl (by decide) (by decide) (by decide) (by omega) (by omega) (Nat.le_of_ble_eq_true rfl) nq (fun r M2 o2 => ?_)
  obtain ⟨⟨bb, rfl, hbb⟩, e7, e9, hR⟩ := o2
  refine ev_istore dL_law_1065 (by decide) rfl ?_
  refine ev_aload_n (j := 4) dL_law_1067 rfl rfl ?_
  refine el_callV (n := 0) (As := []) (st := []) (K' := fun r M9 => r = [iv c] ∧ M2 = M9) mfX12_thrown mlL_152 dL_law_1068 rfl dm8_0 en8_0 rfl rfl rfl (by decide) (by decide) (by decide) (by omega) (by omega) (Nat.le_of_ble_eq_true rfl) (bX12_thrown ⟨by rw [e7], rfl⟩) (fun r M3 o3 => ?_)
  obtain ⟨rfl, rfl⟩ := o3
  refine ev_iload (j := 1) dL_law_1071 rfl ?_
  refine evx_icmpeq 1078 dL_law_1073 (by decide) (fun _ => ?_) (fun w => absurd rfl w)
  refine ev_iload (j := 1) dL_law_1078 rfl ?_
  have done : EvL G b (u + 4) 1095 [(7, iv bb), (6, iv c), (0, .ref b), (1, rr G 0 0 0), (2, rr G 8 0 0), (3, rr G 9 0 0), (4, rr G 9 0 1), (5, iv i)] [] M2 := ev_goto 2796 dL_law_1095 (by decide) (ev_sub [2, 3, 4, 5, 6, 7] rfl (kk _ hR))
  refine evx_ne 1095 dL_law_1080 (by decide) (fun _ => done) (fun z => ?_)
  have c0 : c = 0 := (J_eq ⟨by omega, by omega⟩ I32_0).mp z
  refine ev_aload_n (j := 5) dL_law_1083 rfl rfl ?_
  refine ev_iconst dL_law_1084 ?_
  refine ev_lald dL_law_1085 ?_
  refine ev_iload (j := 0) dL_law_1086 rfl ?_
  refine ev_i2l dL_law_1088 ?_
  refine ev_lcmp0 (by rw [e9, hv c0, hbb c0]; rfl) dL_law_1089 ?_
  exact evx_eq 1095 dL_law_1090 (by decide) (fun _ => done) (fun w => absurd rfl w)
theorem lc_11 (hN : NC G) (hX : va_X b L xs (s0G G) (s0G G).heap) (hb : b < bG G) (hL : L ≤ 2560) (i0 : 0 ≤ i) (i1 : i + 5 ≤ L) (hu : u ≤ 600000) (h : Rel M) (kk : ∀ M', Rel M' → EvL G b (u + 4) 2796 (LW G b i) [] M') : EvL G b u 1098 (LW G b i) [] M := by
  refine ev_aload_n (j := 1) dL_law_1098 rfl rfl ?_
  refine ev_aload_n (j := 0) dL_law_1099 rfl rfl ?_
  refine ev_iload (j := 5) dL_law_1100 rfl ?_
  refine ev_iconst dL_law_1102 ?_
  refine ev_iadd dL_law_1103 ?_
  refine ev_sld (n := 1) hX hb hL (by omega) (by omega) dL_law_1104 ?_
  refine ev_aload_n (j := 0) dL_law_1105 rfl rfl ?_
  refine ev_iload (j := 5) dL_law_1106 rfl ?_
  refine ev_iconst dL_law_1108 ?_
  refine ev_iadd dL_law_1109 ?_
  refine ev_sld (n := 2) hX hb hL (by omega) (by omega) dL_law_1110 ?_
  refine ev_aload (j := 4) dL_law_1111 rfl ?_
  refine el_callSH (n := 4) (As := [rr G 0 0 0, iv (ax xs i 1), iv (ax xs i 2), rr G 9 0 1]) (st := []) mfL_meanHeadway mlL_190 dL_law_1113 rfl rfl (by decide) (by decide) (by omega) (by omega) (Nat.le_of_ble_eq_true rfl) (w_meanHeadway hN h ax_i ax_i) (fun r M1 o => ?_)
  obtain ⟨c, v, rfl, hc, hv, nq⟩ := o
  refine ev_istore dL_law_1116 (by decide) rfl ?_
  refine ev_aload_n (j := 3) dL_law_1118 rfl rfl ?_
  refine ev_aload_n (j := 1) dL_law_1119 rfl rfl ?_
  refine ev_iload (j := 6) dL_law_1120 rfl ?_
  refine ev_iconst dL_law_1122 ?_
  refine ev_iadd dL_law_1123 ?_
  refine ev_sld (n := 1) hX hb hL (by omega) (by omega) dL_law_1124 ?_
  refine ev_aload_n (j := 1) dL_law_1125 rfl rfl ?_
  refine ev_iload (j := 6) dL_law_1126 rfl ?_
  refine ev_iconst dL_law_1128 ?_
  refine ev_iadd dL_law_1129 ?_
  refine ev_sld (n := 2) hX hb hL (by omega) (by omega) dL_law_1130 ?_
  refine el_callV (n := 2) (As := [iv (ax xs i 1), iv (ax xs i 2)]) (st := []) mfX12_meanHeadway mlL_193 dL_law_1131 rfl dm8_0 en8_0 rfl rfl rfl (by decide) (by decide) (by decide) (by omega) (by omega) (Nat.le_of_ble_eq_true rfl) nq (fun r M2 o2 => ?_)
  obtain ⟨⟨bb, rfl, hbb⟩, e7, e9, hR⟩ := o2
  refine ev_dstore dL_law_1134 (by decide) rfl ?_
  refine ev_aload_n (j := 4) dL_law_1136 rfl rfl ?_
  refine el_callV (n := 0) (As := []) (st := []) (K' := fun r M9 => r = [iv c] ∧ M2 = M9) mfX12_thrown mlL_152 dL_law_1137 rfl dm8_0 en8_0 rfl rfl rfl (by decide) (by decide) (by decide) (by omega) (by omega) (Nat.le_of_ble_eq_true rfl) (bX12_thrown ⟨by rw [e7], rfl⟩) (fun r M3 o3 => ?_)
  obtain ⟨rfl, rfl⟩ := o3
  refine ev_iload (j := 1) dL_law_1140 rfl ?_
  refine evx_icmpeq 1147 dL_law_1142 (by decide) (fun _ => ?_) (fun w => absurd rfl w)
  refine ev_iload (j := 1) dL_law_1147 rfl ?_
  have done : EvL G b (u + 4) 1184 [(7, .double bb), (6, iv c), (0, .ref b), (1, rr G 0 0 0), (2, rr G 8 0 0), (3, rr G 9 0 0), (4, rr G 9 0 1), (5, iv i)] [] M2 := ev_goto 2796 dL_law_1184 (by decide) (ev_sub [2, 3, 4, 5, 6, 7] rfl (kk _ hR))
  refine evx_ne 1184 dL_law_1149 (by decide) (fun _ => done) (fun z => ?_)
  have c0 : c = 0 := (J_eq ⟨by omega, by omega⟩ I32_0).mp z
  refine ev_aload (j := 6) dL_law_1152 rfl ?_
  refine ev_iconst dL_law_1154 ?_
  have ed : UInt64.ofNat (M2 9 0 1 0).toNat = v := by rw [e9, hv c0, Int.toNat_natCast, UInt64.ofNat_toNat]
  have eb : bb = v := hbb c0
  subst eb
  refine ev_dald dL_law_1155 ?_
  rw [ed]
  refine ev_dload (j := 0) dL_law_1156 rfl ?_
  refine ev_dcmp dL_law_1158 ?_
  refine evx_eq 1184 dL_law_1159 (by decide) (fun _ => done) (fun w => ?_)
  refine ev_aload (j := 6) dL_law_1162 rfl ?_
  refine ev_iconst dL_law_1164 ?_
  refine ev_dald dL_law_1165 ?_
  rw [ed]
  refine ev_aload (j := 6) dL_law_1166 rfl ?_
  refine ev_iconst dL_law_1168 ?_
  refine ev_dald dL_law_1169 ?_
  rw [ed]
  refine ev_dcmp dL_law_1170 ?_
  refine evx_eq 1182 dL_law_1171 (by decide) (fun q => absurd q w) (fun _ => ?_)
  refine ev_dload (j := 0) dL_law_1174 rfl ?_
  refine ev_dload (j := 0) dL_law_1176 rfl ?_
  refine ev_dcmp dL_law_1178 ?_
  exact evx_ne 1184 dL_law_1179 (by decide) (fun _ => done) (fun q => absurd q w)
theorem lc_12 (hN : NC G) (hX : va_X b L xs (s0G G) (s0G G).heap) (hb : b < bG G) (hL : L ≤ 2560) (i0 : 0 ≤ i) (i1 : i + 5 ≤ L) (hu : u ≤ 600000) (h : Rel M) (kk : ∀ M', Rel M' → EvL G b (u + 4) 2796 (LW G b i) [] M') : EvL G b u 1187 (LW G b i) [] M := by
  refine ev_aload_n (j := 1) dL_law_1187 rfl rfl ?_
  refine ev_aload_n (j := 0) dL_law_1188 rfl rfl ?_
  refine ev_iload (j := 5) dL_law_1189 rfl ?_
  refine ev_iconst dL_law_1191 ?_
  refine ev_iadd dL_law_1192 ?_
  refine ev_sld (n := 1) hX hb hL (by omega) (by omega) dL_law_1193 ?_
  refine ev_aload_n (j := 3) dL_law_1194 rfl rfl ?_
  refine el_callSH (n := 3) (As := [rr G 0 0 0, iv (ax xs i 1), rr G 9 0 0]) (st := []) mfL_addVehicle mlL_194 dL_law_1195 rfl rfl (by decide) (by decide) (by omega) (by omega) (Nat.le_of_ble_eq_true rfl) (w_addVehicle hN h ax_i) (fun r M1 o => ?_)
  obtain ⟨c, v, rfl, hc, hv, nq⟩ := o
  refine ev_istore dL_law_1198 (by decide) rfl ?_
  refine ev_aload_n (j := 3) dL_law_1200 rfl rfl ?_
  refine ev_aload_n (j := 1) dL_law_1201 rfl rfl ?_
  refine ev_iload (j := 6) dL_law_1202 rfl ?_
  refine ev_iconst dL_law_1204 ?_
  refine ev_iadd dL_law_1205 ?_
  refine ev_sld (n := 1) hX hb hL (by omega) (by omega) dL_law_1206 ?_
  refine el_callV (n := 1) (As := [iv (ax xs i 1)]) (st := []) mfX12_addVehicle mlL_196 dL_law_1207 rfl dm8_0 en8_0 rfl rfl rfl (by decide) (by decide) (by decide) (by omega) (by omega) (Nat.le_of_ble_eq_true rfl) nq (fun r M2 o2 => ?_)
  obtain ⟨⟨bb, rfl, hbb⟩, e7, e9, hR⟩ := o2
  refine ev_istore dL_law_1210 (by decide) rfl ?_
  refine ev_aload_n (j := 4) dL_law_1212 rfl rfl ?_
  refine el_callV (n := 0) (As := []) (st := []) (K' := fun r M9 => r = [iv c] ∧ M2 = M9) mfX12_thrown mlL_152 dL_law_1213 rfl dm8_0 en8_0 rfl rfl rfl (by decide) (by decide) (by decide) (by omega) (by omega) (Nat.le_of_ble_eq_true rfl) (bX12_thrown ⟨by rw [e7], rfl⟩) (fun r M3 o3 => ?_)
  obtain ⟨rfl, rfl⟩ := o3
  refine ev_iload (j := 1) dL_law_1216 rfl ?_
  refine evx_icmpeq 1223 dL_law_1218 (by decide) (fun _ => ?_) (fun w => absurd rfl w)
  refine ev_iload (j := 1) dL_law_1223 rfl ?_
  have done : EvL G b (u + 4) 1240 [(7, iv bb), (6, iv c), (0, .ref b), (1, rr G 0 0 0), (2, rr G 8 0 0), (3, rr G 9 0 0), (4, rr G 9 0 1), (5, iv i)] [] M2 := ev_goto 2796 dL_law_1240 (by decide) (ev_sub [2, 3, 4, 5, 6, 7] rfl (kk _ hR))
  refine evx_ne 1240 dL_law_1225 (by decide) (fun _ => done) (fun z => ?_)
  have c0 : c = 0 := (J_eq ⟨by omega, by omega⟩ I32_0).mp z
  refine ev_aload_n (j := 5) dL_law_1228 rfl rfl ?_
  refine ev_iconst dL_law_1229 ?_
  refine ev_lald dL_law_1230 ?_
  refine ev_iload (j := 0) dL_law_1231 rfl ?_
  refine ev_i2l dL_law_1233 ?_
  refine ev_lcmp0 (by rw [e9, hv c0, hbb c0]; rfl) dL_law_1234 ?_
  exact evx_eq 1240 dL_law_1235 (by decide) (fun _ => done) (fun w => absurd rfl w)
theorem lc_13 (hN : NC G) (hX : va_X b L xs (s0G G) (s0G G).heap) (hb : b < bG G) (hL : L ≤ 2560) (i0 : 0 ≤ i) (i1 : i + 5 ≤ L) (hu : u ≤ 600000) (h : Rel M) (kk : ∀ M', Rel M' → EvL G b (u + 4) 2796 (LW G b i) [] M') : EvL G b u 1243 (LW G b i) [] M := by
  refine ev_aload_n (j := 1) dL_law_1243 rfl rfl ?_
  refine ev_aload_n (j := 0) dL_law_1244 rfl rfl ?_
  refine ev_iload (j := 5) dL_law_1245 rfl ?_
  refine ev_iconst dL_law_1247 ?_
  refine ev_iadd dL_law_1248 ?_
  refine ev_sld (n := 1) hX hb hL (by omega) (by omega) dL_law_1249 ?_
  refine ev_aload_n (j := 0) dL_law_1250 rfl rfl ?_
  refine ev_iload (j := 5) dL_law_1251 rfl ?_
  refine ev_iconst dL_law_1253 ?_
  refine ev_iadd dL_law_1254 ?_
  refine ev_sld (n := 2) hX hb hL (by omega) (by omega) dL_law_1255 ?_
  refine ev_aload_n (j := 3) dL_law_1256 rfl rfl ?_
  refine el_callSH (n := 4) (As := [rr G 0 0 0, iv (ax xs i 1), iv (ax xs i 2), rr G 9 0 0]) (st := []) mfL_give mlL_197 dL_law_1257 rfl rfl (by decide) (by decide) (by omega) (by omega) (Nat.le_of_ble_eq_true rfl) (w_give hN h ax_i ax_i) (fun r M1 o => ?_)
  obtain ⟨c, v, rfl, hc, hv, nq⟩ := o
  refine ev_istore dL_law_1260 (by decide) rfl ?_
  refine ev_aload_n (j := 3) dL_law_1262 rfl rfl ?_
  refine ev_aload_n (j := 1) dL_law_1263 rfl rfl ?_
  refine ev_iload (j := 6) dL_law_1264 rfl ?_
  refine ev_iconst dL_law_1266 ?_
  refine ev_iadd dL_law_1267 ?_
  refine ev_sld (n := 1) hX hb hL (by omega) (by omega) dL_law_1268 ?_
  refine ev_aload_n (j := 1) dL_law_1269 rfl rfl ?_
  refine ev_iload (j := 6) dL_law_1270 rfl ?_
  refine ev_iconst dL_law_1272 ?_
  refine ev_iadd dL_law_1273 ?_
  refine ev_sld (n := 2) hX hb hL (by omega) (by omega) dL_law_1274 ?_
  refine el_callV (n := 2) (As := [iv (ax xs i 1), iv (ax xs i 2)]) (st := []) mfX12_give mlL_199 dL_law_1275 rfl dm8_0 en8_0 rfl rfl rfl (by decide) (by decide) (by decide) (by omega) (by omega) (Nat.le_of_ble_eq_true rfl) nq (fun r M2 o2 => ?_)
  obtain ⟨⟨bb, rfl, hbb⟩, e7, e9, hR⟩ := o2
  refine ev_istore dL_law_1278 (by decide) rfl ?_
  refine ev_aload_n (j := 4) dL_law_1280 rfl rfl ?_
  refine el_callV (n := 0) (As := []) (st := []) (K' := fun r M9 => r = [iv c] ∧ M2 = M9) mfX12_thrown mlL_152 dL_law_1281 rfl dm8_0 en8_0 rfl rfl rfl (by decide) (by decide) (by decide) (by omega) (by omega) (Nat.le_of_ble_eq_true rfl) (bX12_thrown ⟨by rw [e7], rfl⟩) (fun r M3 o3 => ?_)
  obtain ⟨rfl, rfl⟩ := o3
  refine ev_iload (j := 1) dL_law_1284 rfl ?_
  refine evx_icmpeq 1291 dL_law_1286 (by decide) (fun _ => ?_) (fun w => absurd rfl w)
  refine ev_iload (j := 1) dL_law_1291 rfl ?_
  have done : EvL G b (u + 4) 1308 [(7, iv bb), (6, iv c), (0, .ref b), (1, rr G 0 0 0), (2, rr G 8 0 0), (3, rr G 9 0 0), (4, rr G 9 0 1), (5, iv i)] [] M2 := ev_goto 2796 dL_law_1308 (by decide) (ev_sub [2, 3, 4, 5, 6, 7] rfl (kk _ hR))
  refine evx_ne 1308 dL_law_1293 (by decide) (fun _ => done) (fun z => ?_)
  have c0 : c = 0 := (J_eq ⟨by omega, by omega⟩ I32_0).mp z
  refine ev_aload_n (j := 5) dL_law_1296 rfl rfl ?_
  refine ev_iconst dL_law_1297 ?_
  refine ev_lald dL_law_1298 ?_
  refine ev_iload (j := 0) dL_law_1299 rfl ?_
  refine ev_i2l dL_law_1301 ?_
  refine ev_lcmp0 (by rw [e9, hv c0, hbb c0]; rfl) dL_law_1302 ?_
  exact evx_eq 1308 dL_law_1303 (by decide) (fun _ => done) (fun w => absurd rfl w)
theorem lc_14 (hN : NC G) (hX : va_X b L xs (s0G G) (s0G G).heap) (hb : b < bG G) (hL : L ≤ 2560) (i0 : 0 ≤ i) (i1 : i + 5 ≤ L) (hu : u ≤ 600000) (h : Rel M) (kk : ∀ M', Rel M' → EvL G b (u + 4) 2796 (LW G b i) [] M') : EvL G b u 1311 (LW G b i) [] M := by
  refine ev_aload_n (j := 1) dL_law_1311 rfl rfl ?_
  refine ev_aload_n (j := 0) dL_law_1312 rfl rfl ?_
  refine ev_iload (j := 5) dL_law_1313 rfl ?_
  refine ev_iconst dL_law_1315 ?_
  refine ev_iadd dL_law_1316 ?_
  refine ev_sld (n := 1) hX hb hL (by omega) (by omega) dL_law_1317 ?_
  refine ev_aload_n (j := 0) dL_law_1318 rfl rfl ?_
  refine ev_iload (j := 5) dL_law_1319 rfl ?_
  refine ev_iconst dL_law_1321 ?_
  refine ev_iadd dL_law_1322 ?_
  refine ev_sld (n := 2) hX hb hL (by omega) (by omega) dL_law_1323 ?_
  refine ev_aload_n (j := 0) dL_law_1324 rfl rfl ?_
  refine ev_iload (j := 5) dL_law_1325 rfl ?_
  refine ev_iconst dL_law_1327 ?_
  refine ev_iadd dL_law_1328 ?_
  refine ev_sld (n := 3) hX hb hL (by omega) (by omega) dL_law_1329 ?_
  refine ev_aload_n (j := 3) dL_law_1330 rfl rfl ?_
  refine el_callSH (n := 5) (As := [rr G 0 0 0, iv (ax xs i 1), iv (ax xs i 2), iv (ax xs i 3), rr G 9 0 0]) (st := []) mfL_giveRound mlL_200 dL_law_1331 rfl rfl (by decide) (by decide) (by omega) (by omega) (Nat.le_of_ble_eq_true rfl) (w_giveRound hN h ax_i ax_i ax_i) (fun r M1 o => ?_)
  obtain ⟨c, v, rfl, hc, hv, nq⟩ := o
  refine ev_istore dL_law_1334 (by decide) rfl ?_
  refine ev_aload_n (j := 3) dL_law_1336 rfl rfl ?_
  refine ev_aload_n (j := 1) dL_law_1337 rfl rfl ?_
  refine ev_iload (j := 6) dL_law_1338 rfl ?_
  refine ev_iconst dL_law_1340 ?_
  refine ev_iadd dL_law_1341 ?_
  refine ev_sld (n := 1) hX hb hL (by omega) (by omega) dL_law_1342 ?_
  refine ev_aload_n (j := 1) dL_law_1343 rfl rfl ?_
  refine ev_iload (j := 6) dL_law_1344 rfl ?_
  refine ev_iconst dL_law_1346 ?_
  refine ev_iadd dL_law_1347 ?_
  refine ev_sld (n := 2) hX hb hL (by omega) (by omega) dL_law_1348 ?_
  refine ev_aload_n (j := 1) dL_law_1349 rfl rfl ?_
  refine ev_iload (j := 6) dL_law_1350 rfl ?_
  refine ev_iconst dL_law_1352 ?_
  refine ev_iadd dL_law_1353 ?_
  refine ev_sld (n := 3) hX hb hL (by omega) (by omega) dL_law_1354 ?_
  refine el_callV (n := 3) (As := [iv (ax xs i 1), iv (ax xs i 2), iv (ax xs i 3)]) (st := []) mfX12_giveRound mlL_202 dL_law_1355 rfl dm8_0 en8_0 rfl rfl rfl (by decide) (by decide) (by decide) (by omega) (by omega) (Nat.le_of_ble_eq_true rfl) nq (fun r M2 o2 => ?_)
  obtain ⟨⟨bb, rfl, hbb⟩, e7, e9, hR⟩ := o2
  refine ev_istore dL_law_1358 (by decide) rfl ?_
  refine ev_aload_n (j := 4) dL_law_1360 rfl rfl ?_
  refine el_callV (n := 0) (As := []) (st := []) (K' := fun r M9 => r = [iv c] ∧ M2 = M9) mfX12_thrown mlL_152 dL_law_1361 rfl dm8_0 en8_0 rfl rfl rfl (by decide) (by decide) (by decide) (by omega) (by omega) (Nat.le_of_ble_eq_true rfl) (bX12_thrown ⟨by rw [e7], rfl⟩) (fun r M3 o3 => ?_)
  obtain ⟨rfl, rfl⟩ := o3
  refine ev_iload (j := 1) dL_law_1364 rfl ?_
  refine evx_icmpeq 1371 dL_law_1366 (by decide) (fun _ => ?_) (fun w => absurd rfl w)
  refine ev_iload (j := 1) dL_law_1371 rfl ?_
  have done : EvL G b (u + 4) 1388 [(7, iv bb), (6, iv c), (0, .ref b), (1, rr G 0 0 0), (2, rr G 8 0 0), (3, rr G 9 0 0), (4, rr G 9 0 1), (5, iv i)] [] M2 := ev_goto 2796 dL_law_1388 (by decide) (ev_sub [2, 3, 4, 5, 6, 7] rfl (kk _ hR))
  refine evx_ne 1388 dL_law_1373 (by decide) (fun _ => done) (fun z => ?_)
  have c0 : c = 0 := (J_eq ⟨by omega, by omega⟩ I32_0).mp z
  refine ev_aload_n (j := 5) dL_law_1376 rfl rfl ?_
  refine ev_iconst dL_law_1377 ?_
  refine ev_lald dL_law_1378 ?_
  refine ev_iload (j := 0) dL_law_1379 rfl ?_
  refine ev_i2l dL_law_1381 ?_
  refine ev_lcmp0 (by rw [e9, hv c0, hbb c0]; rfl) dL_law_1382 ?_
  exact evx_eq 1388 dL_law_1383 (by decide) (fun _ => done) (fun w => absurd rfl w)
theorem lc_15 (hN : NC G) (hX : va_X b L xs (s0G G) (s0G G).heap) (hb : b < bG G) (hL : L ≤ 2560) (i0 : 0 ≤ i) (i1 : i + 5 ≤ L) (hu : u ≤ 600000) (h : Rel M) (kk : ∀ M', Rel M' → EvL G b (u + 4) 2796 (LW G b i) [] M') : EvL G b u 1391 (LW G b i) [] M := by
  refine ev_aload_n (j := 1) dL_law_1391 rfl rfl ?_
  refine ev_aload_n (j := 3) dL_law_1392 rfl rfl ?_
  refine el_callSH (n := 2) (As := [rr G 0 0 0, rr G 9 0 0]) (st := []) mfL_refusal mlL_203 dL_law_1393 rfl rfl (by decide) (by decide) (by omega) (by omega) (Nat.le_of_ble_eq_true rfl) (w_refusal hN h) (fun r M1 o => ?_)
  obtain ⟨c, v, rfl, hc, hv, nq⟩ := o
  refine ev_istore dL_law_1396 (by decide) rfl ?_
  refine ev_aload_n (j := 3) dL_law_1398 rfl rfl ?_
  refine el_callV (n := 0) (As := []) (st := []) mfX12_refusal mlL_206 dL_law_1399 rfl dm8_0 en8_0 rfl rfl rfl (by decide) (by decide) (by decide) (by omega) (by omega) (Nat.le_of_ble_eq_true rfl) nq (fun r M2 o2 => ?_)
  obtain ⟨⟨bb, rfl, hbb⟩, e7, e9, hR⟩ := o2
  refine ev_istore dL_law_1402 (by decide) rfl ?_
  refine ev_aload_n (j := 4) dL_law_1404 rfl rfl ?_
  refine el_callV (n := 0) (As := []) (st := []) (K' := fun r M9 => r = [iv c] ∧ M2 = M9) mfX12_thrown mlL_152 dL_law_1405 rfl dm8_0 en8_0 rfl rfl rfl (by decide) (by decide) (by decide) (by omega) (by omega) (Nat.le_of_ble_eq_true rfl) (bX12_thrown ⟨by rw [e7], rfl⟩) (fun r M3 o3 => ?_)
  obtain ⟨rfl, rfl⟩ := o3
  refine ev_iload (j := 1) dL_law_1408 rfl ?_
  refine evx_icmpeq 1415 dL_law_1410 (by decide) (fun _ => ?_) (fun w => absurd rfl w)
  refine ev_iload (j := 1) dL_law_1415 rfl ?_
  have done : EvL G b (u + 4) 1432 [(7, iv bb), (6, iv c), (0, .ref b), (1, rr G 0 0 0), (2, rr G 8 0 0), (3, rr G 9 0 0), (4, rr G 9 0 1), (5, iv i)] [] M2 := ev_goto 2796 dL_law_1432 (by decide) (ev_sub [2, 3, 4, 5, 6, 7] rfl (kk _ hR))
  refine evx_ne 1432 dL_law_1417 (by decide) (fun _ => done) (fun z => ?_)
  have c0 : c = 0 := (J_eq ⟨by omega, by omega⟩ I32_0).mp z
  refine ev_aload_n (j := 5) dL_law_1420 rfl rfl ?_
  refine ev_iconst dL_law_1421 ?_
  refine ev_lald dL_law_1422 ?_
  refine ev_iload (j := 0) dL_law_1423 rfl ?_
  refine ev_i2l dL_law_1425 ?_
  refine ev_lcmp0 (by rw [e9, hv c0, hbb c0]; rfl) dL_law_1426 ?_
  exact evx_eq 1432 dL_law_1427 (by decide) (fun _ => done) (fun w => absurd rfl w)
theorem lc_16 (hN : NC G) (hX : va_X b L xs (s0G G) (s0G G).heap) (hb : b < bG G) (hL : L ≤ 2560) (i0 : 0 ≤ i) (i1 : i + 5 ≤ L) (hu : u ≤ 600000) (h : Rel M) (kk : ∀ M', Rel M' → EvL G b (u + 4) 2796 (LW G b i) [] M') : EvL G b u 1435 (LW G b i) [] M := by
  refine ev_aload_n (j := 1) dL_law_1435 rfl rfl ?_
  refine ev_aload_n (j := 0) dL_law_1436 rfl rfl ?_
  refine ev_iload (j := 5) dL_law_1437 rfl ?_
  refine ev_iconst dL_law_1439 ?_
  refine ev_iadd dL_law_1440 ?_
  refine ev_sld (n := 1) hX hb hL (by omega) (by omega) dL_law_1441 ?_
  refine ev_aload_n (j := 0) dL_law_1442 rfl rfl ?_
  refine ev_iload (j := 5) dL_law_1443 rfl ?_
  refine ev_iconst dL_law_1445 ?_
  refine ev_iadd dL_law_1446 ?_
  refine ev_sld (n := 2) hX hb hL (by omega) (by omega) dL_law_1447 ?_
  refine ev_aload_n (j := 3) dL_law_1448 rfl rfl ?_
  refine el_callSH (n := 4) (As := [rr G 0 0 0, iv (ax xs i 1), iv (ax xs i 2), rr G 9 0 0]) (st := []) mfL_wouldRefuse mlL_207 dL_law_1449 rfl rfl (by decide) (by decide) (by omega) (by omega) (Nat.le_of_ble_eq_true rfl) (w_wouldRefuse hN h ax_i ax_i) (fun r M1 o => ?_)
  obtain ⟨c, v, rfl, hc, hv, nq⟩ := o
  refine ev_istore dL_law_1452 (by decide) rfl ?_
  refine ev_aload_n (j := 3) dL_law_1454 rfl rfl ?_
  refine ev_aload_n (j := 1) dL_law_1455 rfl rfl ?_
  refine ev_iload (j := 6) dL_law_1456 rfl ?_
  refine ev_iconst dL_law_1458 ?_
  refine ev_iadd dL_law_1459 ?_
  refine ev_sld (n := 1) hX hb hL (by omega) (by omega) dL_law_1460 ?_
  refine ev_aload_n (j := 1) dL_law_1461 rfl rfl ?_
  refine ev_iload (j := 6) dL_law_1462 rfl ?_
  refine ev_iconst dL_law_1464 ?_
  refine ev_iadd dL_law_1465 ?_
  refine ev_sld (n := 2) hX hb hL (by omega) (by omega) dL_law_1466 ?_
  refine el_callV (n := 2) (As := [iv (ax xs i 1), iv (ax xs i 2)]) (st := []) mfX12_wouldRefuse mlL_209 dL_law_1467 rfl dm8_0 en8_0 rfl rfl rfl (by decide) (by decide) (by decide) (by omega) (by omega) (Nat.le_of_ble_eq_true rfl) nq (fun r M2 o2 => ?_)
  obtain ⟨⟨bb, rfl, hbb⟩, e7, e9, hR⟩ := o2
  refine ev_istore dL_law_1470 (by decide) rfl ?_
  refine ev_aload_n (j := 4) dL_law_1472 rfl rfl ?_
  refine el_callV (n := 0) (As := []) (st := []) (K' := fun r M9 => r = [iv c] ∧ M2 = M9) mfX12_thrown mlL_152 dL_law_1473 rfl dm8_0 en8_0 rfl rfl rfl (by decide) (by decide) (by decide) (by omega) (by omega) (Nat.le_of_ble_eq_true rfl) (bX12_thrown ⟨by rw [e7], rfl⟩) (fun r M3 o3 => ?_)
  obtain ⟨rfl, rfl⟩ := o3
  refine ev_iload (j := 1) dL_law_1476 rfl ?_
  refine evx_icmpeq 1483 dL_law_1478 (by decide) (fun _ => ?_) (fun w => absurd rfl w)
  refine ev_iload (j := 1) dL_law_1483 rfl ?_
  have done : EvL G b (u + 4) 1500 [(7, iv bb), (6, iv c), (0, .ref b), (1, rr G 0 0 0), (2, rr G 8 0 0), (3, rr G 9 0 0), (4, rr G 9 0 1), (5, iv i)] [] M2 := ev_goto 2796 dL_law_1500 (by decide) (ev_sub [2, 3, 4, 5, 6, 7] rfl (kk _ hR))
  refine evx_ne 1500 dL_law_1485 (by decide) (fun _ => done) (fun z => ?_)
  have c0 : c = 0 := (J_eq ⟨by omega, by omega⟩ I32_0).mp z
  refine ev_aload_n (j := 5) dL_law_1488 rfl rfl ?_
  refine ev_iconst dL_law_1489 ?_
  refine ev_lald dL_law_1490 ?_
  refine ev_iload (j := 0) dL_law_1491 rfl ?_
  refine ev_i2l dL_law_1493 ?_
  refine ev_lcmp0 (by rw [e9, hv c0, hbb c0]; rfl) dL_law_1494 ?_
  exact evx_eq 1500 dL_law_1495 (by decide) (fun _ => done) (fun w => absurd rfl w)
theorem lc_17 (hN : NC G) (hX : va_X b L xs (s0G G) (s0G G).heap) (hb : b < bG G) (hL : L ≤ 2560) (i0 : 0 ≤ i) (i1 : i + 5 ≤ L) (hu : u ≤ 600000) (h : Rel M) (kk : ∀ M', Rel M' → EvL G b (u + 4) 2796 (LW G b i) [] M') : EvL G b u 1503 (LW G b i) [] M := by
  refine ev_aload_n (j := 1) dL_law_1503 rfl rfl ?_
  refine ev_aload_n (j := 0) dL_law_1504 rfl rfl ?_
  refine ev_iload (j := 5) dL_law_1505 rfl ?_
  refine ev_iconst dL_law_1507 ?_
  refine ev_iadd dL_law_1508 ?_
  refine ev_sld (n := 1) hX hb hL (by omega) (by omega) dL_law_1509 ?_
  refine ev_aload_n (j := 3) dL_law_1510 rfl rfl ?_
  refine el_callSH (n := 3) (As := [rr G 0 0 0, iv (ax xs i 1), rr G 9 0 0]) (st := []) mfL_take mlL_210 dL_law_1511 rfl rfl (by decide) (by decide) (by omega) (by omega) (Nat.le_of_ble_eq_true rfl) (w_take hN h ax_i) (fun r M1 o => ?_)
  obtain ⟨c, v, rfl, hc, hv, nq⟩ := o
  refine ev_istore dL_law_1514 (by decide) rfl ?_
  refine ev_aload_n (j := 3) dL_law_1516 rfl rfl ?_
  refine ev_aload_n (j := 1) dL_law_1517 rfl rfl ?_
  refine ev_iload (j := 6) dL_law_1518 rfl ?_
  refine ev_iconst dL_law_1520 ?_
  refine ev_iadd dL_law_1521 ?_
  refine ev_sld (n := 1) hX hb hL (by omega) (by omega) dL_law_1522 ?_
  refine el_callV (n := 1) (As := [iv (ax xs i 1)]) (st := []) mfX12_take mlL_212 dL_law_1523 rfl dm8_0 en8_0 rfl rfl rfl (by decide) (by decide) (by decide) (by omega) (by omega) (Nat.le_of_ble_eq_true rfl) nq (fun r M2 o2 => ?_)
  obtain ⟨⟨bb, rfl, hbb⟩, e7, e9, hR⟩ := o2
  refine ev_istore dL_law_1526 (by decide) rfl ?_
  refine ev_aload_n (j := 4) dL_law_1528 rfl rfl ?_
  refine el_callV (n := 0) (As := []) (st := []) (K' := fun r M9 => r = [iv c] ∧ M2 = M9) mfX12_thrown mlL_152 dL_law_1529 rfl dm8_0 en8_0 rfl rfl rfl (by decide) (by decide) (by decide) (by omega) (by omega) (Nat.le_of_ble_eq_true rfl) (bX12_thrown ⟨by rw [e7], rfl⟩) (fun r M3 o3 => ?_)
  obtain ⟨rfl, rfl⟩ := o3
  refine ev_iload (j := 1) dL_law_1532 rfl ?_
  refine evx_icmpeq 1539 dL_law_1534 (by decide) (fun _ => ?_) (fun w => absurd rfl w)
  refine ev_iload (j := 1) dL_law_1539 rfl ?_
  have done : EvL G b (u + 4) 1556 [(7, iv bb), (6, iv c), (0, .ref b), (1, rr G 0 0 0), (2, rr G 8 0 0), (3, rr G 9 0 0), (4, rr G 9 0 1), (5, iv i)] [] M2 := ev_goto 2796 dL_law_1556 (by decide) (ev_sub [2, 3, 4, 5, 6, 7] rfl (kk _ hR))
  refine evx_ne 1556 dL_law_1541 (by decide) (fun _ => done) (fun z => ?_)
  have c0 : c = 0 := (J_eq ⟨by omega, by omega⟩ I32_0).mp z
  refine ev_aload_n (j := 5) dL_law_1544 rfl rfl ?_
  refine ev_iconst dL_law_1545 ?_
  refine ev_lald dL_law_1546 ?_
  refine ev_iload (j := 0) dL_law_1547 rfl ?_
  refine ev_i2l dL_law_1549 ?_
  refine ev_lcmp0 (by rw [e9, hv c0, hbb c0]; rfl) dL_law_1550 ?_
  exact evx_eq 1556 dL_law_1551 (by decide) (fun _ => done) (fun w => absurd rfl w)
theorem lc_18 (hN : NC G) (hX : va_X b L xs (s0G G) (s0G G).heap) (hb : b < bG G) (hL : L ≤ 2560) (i0 : 0 ≤ i) (i1 : i + 5 ≤ L) (hu : u ≤ 600000) (h : Rel M) (kk : ∀ M', Rel M' → EvL G b (u + 4) 2796 (LW G b i) [] M') : EvL G b u 1559 (LW G b i) [] M := by
  refine ev_aload_n (j := 1) dL_law_1559 rfl rfl ?_
  refine ev_aload_n (j := 0) dL_law_1560 rfl rfl ?_
  refine ev_iload (j := 5) dL_law_1561 rfl ?_
  refine ev_iconst dL_law_1563 ?_
  refine ev_iadd dL_law_1564 ?_
  refine ev_sld (n := 1) hX hb hL (by omega) (by omega) dL_law_1565 ?_
  refine ev_aload_n (j := 0) dL_law_1566 rfl rfl ?_
  refine ev_iload (j := 5) dL_law_1567 rfl ?_
  refine ev_iconst dL_law_1569 ?_
  refine ev_iadd dL_law_1570 ?_
  refine ev_sld (n := 2) hX hb hL (by omega) (by omega) dL_law_1571 ?_
  refine ev_aload_n (j := 0) dL_law_1572 rfl rfl ?_
  refine ev_iload (j := 5) dL_law_1573 rfl ?_
  refine ev_iconst dL_law_1575 ?_
  refine ev_iadd dL_law_1576 ?_
  refine ev_sld (n := 3) hX hb hL (by omega) (by omega) dL_law_1577 ?_
  refine ev_aload_n (j := 3) dL_law_1578 rfl rfl ?_
  refine el_callSH (n := 5) (As := [rr G 0 0 0, iv (ax xs i 1), iv (ax xs i 2), iv (ax xs i 3), rr G 9 0 0]) (st := []) mfL_exchange mlL_213 dL_law_1579 rfl rfl (by decide) (by decide) (by omega) (by omega) (Nat.le_of_ble_eq_true rfl) (w_exchange hN h ax_i ax_i ax_i) (fun r M1 o => ?_)
  obtain ⟨c, v, rfl, hc, hv, nq⟩ := o
  refine ev_istore dL_law_1582 (by decide) rfl ?_
  refine ev_aload_n (j := 3) dL_law_1584 rfl rfl ?_
  refine ev_aload_n (j := 1) dL_law_1585 rfl rfl ?_
  refine ev_iload (j := 6) dL_law_1586 rfl ?_
  refine ev_iconst dL_law_1588 ?_
  refine ev_iadd dL_law_1589 ?_
  refine ev_sld (n := 1) hX hb hL (by omega) (by omega) dL_law_1590 ?_
  refine ev_aload_n (j := 1) dL_law_1591 rfl rfl ?_
  refine ev_iload (j := 6) dL_law_1592 rfl ?_
  refine ev_iconst dL_law_1594 ?_
  refine ev_iadd dL_law_1595 ?_
  refine ev_sld (n := 2) hX hb hL (by omega) (by omega) dL_law_1596 ?_
  refine ev_aload_n (j := 1) dL_law_1597 rfl rfl ?_
  refine ev_iload (j := 6) dL_law_1598 rfl ?_
  refine ev_iconst dL_law_1600 ?_
  refine ev_iadd dL_law_1601 ?_
  refine ev_sld (n := 3) hX hb hL (by omega) (by omega) dL_law_1602 ?_
  refine el_callV (n := 3) (As := [iv (ax xs i 1), iv (ax xs i 2), iv (ax xs i 3)]) (st := []) mfX12_exchange mlL_215 dL_law_1603 rfl dm8_0 en8_0 rfl rfl rfl (by decide) (by decide) (by decide) (by omega) (by omega) (Nat.le_of_ble_eq_true rfl) nq (fun r M2 o2 => ?_)
  obtain ⟨⟨bb, rfl, hbb⟩, e7, e9, hR⟩ := o2
  refine ev_istore dL_law_1606 (by decide) rfl ?_
  refine ev_aload_n (j := 4) dL_law_1608 rfl rfl ?_
  refine el_callV (n := 0) (As := []) (st := []) (K' := fun r M9 => r = [iv c] ∧ M2 = M9) mfX12_thrown mlL_152 dL_law_1609 rfl dm8_0 en8_0 rfl rfl rfl (by decide) (by decide) (by decide) (by omega) (by omega) (Nat.le_of_ble_eq_true rfl) (bX12_thrown ⟨by rw [e7], rfl⟩) (fun r M3 o3 => ?_)
  obtain ⟨rfl, rfl⟩ := o3
  refine ev_iload (j := 1) dL_law_1612 rfl ?_
  refine evx_icmpeq 1619 dL_law_1614 (by decide) (fun _ => ?_) (fun w => absurd rfl w)
  refine ev_iload (j := 1) dL_law_1619 rfl ?_
  have done : EvL G b (u + 4) 1636 [(7, iv bb), (6, iv c), (0, .ref b), (1, rr G 0 0 0), (2, rr G 8 0 0), (3, rr G 9 0 0), (4, rr G 9 0 1), (5, iv i)] [] M2 := ev_goto 2796 dL_law_1636 (by decide) (ev_sub [2, 3, 4, 5, 6, 7] rfl (kk _ hR))
  refine evx_ne 1636 dL_law_1621 (by decide) (fun _ => done) (fun z => ?_)
  have c0 : c = 0 := (J_eq ⟨by omega, by omega⟩ I32_0).mp z
  refine ev_aload_n (j := 5) dL_law_1624 rfl rfl ?_
  refine ev_iconst dL_law_1625 ?_
  refine ev_lald dL_law_1626 ?_
  refine ev_iload (j := 0) dL_law_1627 rfl ?_
  refine ev_i2l dL_law_1629 ?_
  refine ev_lcmp0 (by rw [e9, hv c0, hbb c0]; rfl) dL_law_1630 ?_
  exact evx_eq 1636 dL_law_1631 (by decide) (fun _ => done) (fun w => absurd rfl w)
theorem lc_19 (hN : NC G) (hX : va_X b L xs (s0G G) (s0G G).heap) (hb : b < bG G) (hL : L ≤ 2560) (i0 : 0 ≤ i) (i1 : i + 5 ≤ L) (hu : u ≤ 600000) (h : Rel M) (kk : ∀ M', Rel M' → EvL G b (u + 4) 2796 (LW G b i) [] M') : EvL G b u 1639 (LW G b i) [] M := by
  refine ev_aload_n (j := 1) dL_law_1639 rfl rfl ?_
  refine ev_aload_n (j := 0) dL_law_1640 rfl rfl ?_
  refine ev_iload (j := 5) dL_law_1641 rfl ?_
  refine ev_iconst dL_law_1643 ?_
  refine ev_iadd dL_law_1644 ?_
  refine ev_sld (n := 1) hX hb hL (by omega) (by omega) dL_law_1645 ?_
  refine ev_aload_n (j := 0) dL_law_1646 rfl rfl ?_
  refine ev_iload (j := 5) dL_law_1647 rfl ?_
  refine ev_iconst dL_law_1649 ?_
  refine ev_iadd dL_law_1650 ?_
  refine ev_sld (n := 2) hX hb hL (by omega) (by omega) dL_law_1651 ?_
  refine ev_aload_n (j := 3) dL_law_1652 rfl rfl ?_
  refine el_callSH (n := 4) (As := [rr G 0 0 0, iv (ax xs i 1), iv (ax xs i 2), rr G 9 0 0]) (st := []) mfL_duty mlL_216 dL_law_1653 rfl rfl (by decide) (by decide) (by omega) (by omega) (Nat.le_of_ble_eq_true rfl) (w_duty hN h ax_i ax_i) (fun r M1 o => ?_)
  obtain ⟨c, v, rfl, hc, hv, nq⟩ := o
  refine ev_istore dL_law_1656 (by decide) rfl ?_
  refine ev_aload_n (j := 3) dL_law_1658 rfl rfl ?_
  refine ev_aload_n (j := 1) dL_law_1659 rfl rfl ?_
  refine ev_iload (j := 6) dL_law_1660 rfl ?_
  refine ev_iconst dL_law_1662 ?_
  refine ev_iadd dL_law_1663 ?_
  refine ev_sld (n := 1) hX hb hL (by omega) (by omega) dL_law_1664 ?_
  refine ev_aload_n (j := 1) dL_law_1665 rfl rfl ?_
  refine ev_iload (j := 6) dL_law_1666 rfl ?_
  refine ev_iconst dL_law_1668 ?_
  refine ev_iadd dL_law_1669 ?_
  refine ev_sld (n := 2) hX hb hL (by omega) (by omega) dL_law_1670 ?_
  refine el_callV (n := 2) (As := [iv (ax xs i 1), iv (ax xs i 2)]) (st := []) mfX12_duty mlL_218 dL_law_1671 rfl dm8_0 en8_0 rfl rfl rfl (by decide) (by decide) (by decide) (by omega) (by omega) (Nat.le_of_ble_eq_true rfl) nq (fun r M2 o2 => ?_)
  obtain ⟨⟨bb, rfl, hbb⟩, e7, e9, hR⟩ := o2
  refine ev_istore dL_law_1674 (by decide) rfl ?_
  refine ev_aload_n (j := 4) dL_law_1676 rfl rfl ?_
  refine el_callV (n := 0) (As := []) (st := []) (K' := fun r M9 => r = [iv c] ∧ M2 = M9) mfX12_thrown mlL_152 dL_law_1677 rfl dm8_0 en8_0 rfl rfl rfl (by decide) (by decide) (by decide) (by omega) (by omega) (Nat.le_of_ble_eq_true rfl) (bX12_thrown ⟨by rw [e7], rfl⟩) (fun r M3 o3 => ?_)
  obtain ⟨rfl, rfl⟩ := o3
  refine ev_iload (j := 1) dL_law_1680 rfl ?_
  refine evx_icmpeq 1687 dL_law_1682 (by decide) (fun _ => ?_) (fun w => absurd rfl w)
  refine ev_iload (j := 1) dL_law_1687 rfl ?_
  have done : EvL G b (u + 4) 1704 [(7, iv bb), (6, iv c), (0, .ref b), (1, rr G 0 0 0), (2, rr G 8 0 0), (3, rr G 9 0 0), (4, rr G 9 0 1), (5, iv i)] [] M2 := ev_goto 2796 dL_law_1704 (by decide) (ev_sub [2, 3, 4, 5, 6, 7] rfl (kk _ hR))
  refine evx_ne 1704 dL_law_1689 (by decide) (fun _ => done) (fun z => ?_)
  have c0 : c = 0 := (J_eq ⟨by omega, by omega⟩ I32_0).mp z
  refine ev_aload_n (j := 5) dL_law_1692 rfl rfl ?_
  refine ev_iconst dL_law_1693 ?_
  refine ev_lald dL_law_1694 ?_
  refine ev_iload (j := 0) dL_law_1695 rfl ?_
  refine ev_i2l dL_law_1697 ?_
  refine ev_lcmp0 (by rw [e9, hv c0, hbb c0]; rfl) dL_law_1698 ?_
  exact evx_eq 1704 dL_law_1699 (by decide) (fun _ => done) (fun w => absurd rfl w)
theorem lc_20 (hN : NC G) (hX : va_X b L xs (s0G G) (s0G G).heap) (hb : b < bG G) (hL : L ≤ 2560) (i0 : 0 ≤ i) (i1 : i + 5 ≤ L) (hu : u ≤ 600000) (h : Rel M) (kk : ∀ M', Rel M' → EvL G b (u + 4) 2796 (LW G b i) [] M') : EvL G b u 1707 (LW G b i) [] M := by
  refine ev_aload_n (j := 1) dL_law_1707 rfl rfl ?_
  refine ev_aload_n (j := 0) dL_law_1708 rfl rfl ?_
  refine ev_iload (j := 5) dL_law_1709 rfl ?_
  refine ev_iconst dL_law_1711 ?_
  refine ev_iadd dL_law_1712 ?_
  refine ev_sld (n := 1) hX hb hL (by omega) (by omega) dL_law_1713 ?_
  refine ev_aload_n (j := 0) dL_law_1714 rfl rfl ?_
  refine ev_iload (j := 5) dL_law_1715 rfl ?_
  refine ev_iconst dL_law_1717 ?_
  refine ev_iadd dL_law_1718 ?_
  refine ev_sld (n := 2) hX hb hL (by omega) (by omega) dL_law_1719 ?_
  refine ev_aload_n (j := 3) dL_law_1720 rfl rfl ?_
  refine el_callSH (n := 4) (As := [rr G 0 0 0, iv (ax xs i 1), iv (ax xs i 2), rr G 9 0 0]) (st := []) mfL_vehicle mlL_219 dL_law_1721 rfl rfl (by decide) (by decide) (by omega) (by omega) (Nat.le_of_ble_eq_true rfl) (w_vehicle hN h ax_i ax_i) (fun r M1 o => ?_)
  obtain ⟨c, v, rfl, hc, hv, nq⟩ := o
  refine ev_istore dL_law_1724 (by decide) rfl ?_
  refine ev_aload_n (j := 3) dL_law_1726 rfl rfl ?_
  refine ev_aload_n (j := 1) dL_law_1727 rfl rfl ?_
  refine ev_iload (j := 6) dL_law_1728 rfl ?_
  refine ev_iconst dL_law_1730 ?_
  refine ev_iadd dL_law_1731 ?_
  refine ev_sld (n := 1) hX hb hL (by omega) (by omega) dL_law_1732 ?_
  refine ev_aload_n (j := 1) dL_law_1733 rfl rfl ?_
  refine ev_iload (j := 6) dL_law_1734 rfl ?_
  refine ev_iconst dL_law_1736 ?_
  refine ev_iadd dL_law_1737 ?_
  refine ev_sld (n := 2) hX hb hL (by omega) (by omega) dL_law_1738 ?_
  refine el_callV (n := 2) (As := [iv (ax xs i 1), iv (ax xs i 2)]) (st := []) mfX12_vehicle mlL_221 dL_law_1739 rfl dm8_0 en8_0 rfl rfl rfl (by decide) (by decide) (by decide) (by omega) (by omega) (Nat.le_of_ble_eq_true rfl) nq (fun r M2 o2 => ?_)
  obtain ⟨⟨bb, rfl, hbb⟩, e7, e9, hR⟩ := o2
  refine ev_istore dL_law_1742 (by decide) rfl ?_
  refine ev_aload_n (j := 4) dL_law_1744 rfl rfl ?_
  refine el_callV (n := 0) (As := []) (st := []) (K' := fun r M9 => r = [iv c] ∧ M2 = M9) mfX12_thrown mlL_152 dL_law_1745 rfl dm8_0 en8_0 rfl rfl rfl (by decide) (by decide) (by decide) (by omega) (by omega) (Nat.le_of_ble_eq_true rfl) (bX12_thrown ⟨by rw [e7], rfl⟩) (fun r M3 o3 => ?_)
  obtain ⟨rfl, rfl⟩ := o3
  refine ev_iload (j := 1) dL_law_1748 rfl ?_
  refine evx_icmpeq 1755 dL_law_1750 (by decide) (fun _ => ?_) (fun w => absurd rfl w)
  refine ev_iload (j := 1) dL_law_1755 rfl ?_
  have done : EvL G b (u + 4) 1772 [(7, iv bb), (6, iv c), (0, .ref b), (1, rr G 0 0 0), (2, rr G 8 0 0), (3, rr G 9 0 0), (4, rr G 9 0 1), (5, iv i)] [] M2 := ev_goto 2796 dL_law_1772 (by decide) (ev_sub [2, 3, 4, 5, 6, 7] rfl (kk _ hR))
  refine evx_ne 1772 dL_law_1757 (by decide) (fun _ => done) (fun z => ?_)
  have c0 : c = 0 := (J_eq ⟨by omega, by omega⟩ I32_0).mp z
  refine ev_aload_n (j := 5) dL_law_1760 rfl rfl ?_
  refine ev_iconst dL_law_1761 ?_
  refine ev_lald dL_law_1762 ?_
  refine ev_iload (j := 0) dL_law_1763 rfl ?_
  refine ev_i2l dL_law_1765 ?_
  refine ev_lcmp0 (by rw [e9, hv c0, hbb c0]; rfl) dL_law_1766 ?_
  exact evx_eq 1772 dL_law_1767 (by decide) (fun _ => done) (fun w => absurd rfl w)
theorem lc_21 (hN : NC G) (hX : va_X b L xs (s0G G) (s0G G).heap) (hb : b < bG G) (hL : L ≤ 2560) (i0 : 0 ≤ i) (i1 : i + 5 ≤ L) (hu : u ≤ 600000) (h : Rel M) (kk : ∀ M', Rel M' → EvL G b (u + 4) 2796 (LW G b i) [] M') : EvL G b u 1775 (LW G b i) [] M := by
  refine ev_aload_n (j := 1) dL_law_1775 rfl rfl ?_
  refine ev_aload_n (j := 0) dL_law_1776 rfl rfl ?_
  refine ev_iload (j := 5) dL_law_1777 rfl ?_
  refine ev_iconst dL_law_1779 ?_
  refine ev_iadd dL_law_1780 ?_
  refine ev_sld (n := 1) hX hb hL (by omega) (by omega) dL_law_1781 ?_
  refine ev_aload_n (j := 0) dL_law_1782 rfl rfl ?_
  refine ev_iload (j := 5) dL_law_1783 rfl ?_
  refine ev_iconst dL_law_1785 ?_
  refine ev_iadd dL_law_1786 ?_
  refine ev_sld (n := 2) hX hb hL (by omega) (by omega) dL_law_1787 ?_
  refine ev_aload_n (j := 3) dL_law_1788 rfl rfl ?_
  refine el_callSH (n := 4) (As := [rr G 0 0 0, iv (ax xs i 1), iv (ax xs i 2), rr G 9 0 0]) (st := []) mfL_leaving mlL_222 dL_law_1789 rfl rfl (by decide) (by decide) (by omega) (by omega) (Nat.le_of_ble_eq_true rfl) (w_leaving hN h ax_i ax_i) (fun r M1 o => ?_)
  obtain ⟨c, v, rfl, hc, hv, nq⟩ := o
  refine ev_istore dL_law_1792 (by decide) rfl ?_
  refine ev_aload_n (j := 3) dL_law_1794 rfl rfl ?_
  refine ev_aload_n (j := 1) dL_law_1795 rfl rfl ?_
  refine ev_iload (j := 6) dL_law_1796 rfl ?_
  refine ev_iconst dL_law_1798 ?_
  refine ev_iadd dL_law_1799 ?_
  refine ev_sld (n := 1) hX hb hL (by omega) (by omega) dL_law_1800 ?_
  refine ev_aload_n (j := 1) dL_law_1801 rfl rfl ?_
  refine ev_iload (j := 6) dL_law_1802 rfl ?_
  refine ev_iconst dL_law_1804 ?_
  refine ev_iadd dL_law_1805 ?_
  refine ev_sld (n := 2) hX hb hL (by omega) (by omega) dL_law_1806 ?_
  refine el_callV (n := 2) (As := [iv (ax xs i 1), iv (ax xs i 2)]) (st := []) mfX12_leaving mlL_224 dL_law_1807 rfl dm8_0 en8_0 rfl rfl rfl (by decide) (by decide) (by decide) (by omega) (by omega) (Nat.le_of_ble_eq_true rfl) nq (fun r M2 o2 => ?_)
  obtain ⟨⟨bb, rfl, hbb⟩, e7, e9, hR⟩ := o2
  refine ev_istore dL_law_1810 (by decide) rfl ?_
  refine ev_aload_n (j := 4) dL_law_1812 rfl rfl ?_
  refine el_callV (n := 0) (As := []) (st := []) (K' := fun r M9 => r = [iv c] ∧ M2 = M9) mfX12_thrown mlL_152 dL_law_1813 rfl dm8_0 en8_0 rfl rfl rfl (by decide) (by decide) (by decide) (by omega) (by omega) (Nat.le_of_ble_eq_true rfl) (bX12_thrown ⟨by rw [e7], rfl⟩) (fun r M3 o3 => ?_)
  obtain ⟨rfl, rfl⟩ := o3
  refine ev_iload (j := 1) dL_law_1816 rfl ?_
  refine evx_icmpeq 1823 dL_law_1818 (by decide) (fun _ => ?_) (fun w => absurd rfl w)
  refine ev_iload (j := 1) dL_law_1823 rfl ?_
  have done : EvL G b (u + 4) 1840 [(7, iv bb), (6, iv c), (0, .ref b), (1, rr G 0 0 0), (2, rr G 8 0 0), (3, rr G 9 0 0), (4, rr G 9 0 1), (5, iv i)] [] M2 := ev_goto 2796 dL_law_1840 (by decide) (ev_sub [2, 3, 4, 5, 6, 7] rfl (kk _ hR))
  refine evx_ne 1840 dL_law_1825 (by decide) (fun _ => done) (fun z => ?_)
  have c0 : c = 0 := (J_eq ⟨by omega, by omega⟩ I32_0).mp z
  refine ev_aload_n (j := 5) dL_law_1828 rfl rfl ?_
  refine ev_iconst dL_law_1829 ?_
  refine ev_lald dL_law_1830 ?_
  refine ev_iload (j := 0) dL_law_1831 rfl ?_
  refine ev_i2l dL_law_1833 ?_
  refine ev_lcmp0 (by rw [e9, hv c0, hbb c0]; rfl) dL_law_1834 ?_
  exact evx_eq 1840 dL_law_1835 (by decide) (fun _ => done) (fun w => absurd rfl w)
theorem lc_22 (hN : NC G) (hX : va_X b L xs (s0G G) (s0G G).heap) (hb : b < bG G) (hL : L ≤ 2560) (i0 : 0 ≤ i) (i1 : i + 5 ≤ L) (hu : u ≤ 600000) (h : Rel M) (kk : ∀ M', Rel M' → EvL G b (u + 4) 2796 (LW G b i) [] M') : EvL G b u 1843 (LW G b i) [] M := by
  refine ev_aload_n (j := 1) dL_law_1843 rfl rfl ?_
  refine ev_aload_n (j := 0) dL_law_1844 rfl rfl ?_
  refine ev_iload (j := 5) dL_law_1845 rfl ?_
  refine ev_iconst dL_law_1847 ?_
  refine ev_iadd dL_law_1848 ?_
  refine ev_sld (n := 1) hX hb hL (by omega) (by omega) dL_law_1849 ?_
  refine ev_aload_n (j := 0) dL_law_1850 rfl rfl ?_
  refine ev_iload (j := 5) dL_law_1851 rfl ?_
  refine ev_iconst dL_law_1853 ?_
  refine ev_iadd dL_law_1854 ?_
  refine ev_sld (n := 2) hX hb hL (by omega) (by omega) dL_law_1855 ?_
  refine ev_aload_n (j := 0) dL_law_1856 rfl rfl ?_
  refine ev_iload (j := 5) dL_law_1857 rfl ?_
  refine ev_iconst dL_law_1859 ?_
  refine ev_iadd dL_law_1860 ?_
  refine ev_sld (n := 3) hX hb hL (by omega) (by omega) dL_law_1861 ?_
  refine ev_aload_n (j := 3) dL_law_1862 rfl rfl ?_
  refine el_callSH (n := 5) (As := [rr G 0 0 0, iv (ax xs i 1), iv (ax xs i 2), iv (ax xs i 3), rr G 9 0 0]) (st := []) mfL_block mlL_225 dL_law_1863 rfl rfl (by decide) (by decide) (by omega) (by omega) (Nat.le_of_ble_eq_true rfl) (w_block hN h ax_i ax_i ax_i) (fun r M1 o => ?_)
  obtain ⟨c, v, rfl, hc, hv, nq⟩ := o
  refine ev_istore dL_law_1866 (by decide) rfl ?_
  refine ev_aload_n (j := 3) dL_law_1868 rfl rfl ?_
  refine ev_aload_n (j := 1) dL_law_1869 rfl rfl ?_
  refine ev_iload (j := 6) dL_law_1870 rfl ?_
  refine ev_iconst dL_law_1872 ?_
  refine ev_iadd dL_law_1873 ?_
  refine ev_sld (n := 1) hX hb hL (by omega) (by omega) dL_law_1874 ?_
  refine ev_aload_n (j := 1) dL_law_1875 rfl rfl ?_
  refine ev_iload (j := 6) dL_law_1876 rfl ?_
  refine ev_iconst dL_law_1878 ?_
  refine ev_iadd dL_law_1879 ?_
  refine ev_sld (n := 2) hX hb hL (by omega) (by omega) dL_law_1880 ?_
  refine ev_aload_n (j := 1) dL_law_1881 rfl rfl ?_
  refine ev_iload (j := 6) dL_law_1882 rfl ?_
  refine ev_iconst dL_law_1884 ?_
  refine ev_iadd dL_law_1885 ?_
  refine ev_sld (n := 3) hX hb hL (by omega) (by omega) dL_law_1886 ?_
  refine el_callV (n := 3) (As := [iv (ax xs i 1), iv (ax xs i 2), iv (ax xs i 3)]) (st := []) mfX12_block mlL_227 dL_law_1887 rfl dm8_0 en8_0 rfl rfl rfl (by decide) (by decide) (by decide) (by omega) (by omega) (Nat.le_of_ble_eq_true rfl) nq (fun r M2 o2 => ?_)
  obtain ⟨⟨bb, rfl, hbb⟩, e7, e9, hR⟩ := o2
  refine ev_istore dL_law_1890 (by decide) rfl ?_
  refine ev_aload_n (j := 4) dL_law_1892 rfl rfl ?_
  refine el_callV (n := 0) (As := []) (st := []) (K' := fun r M9 => r = [iv c] ∧ M2 = M9) mfX12_thrown mlL_152 dL_law_1893 rfl dm8_0 en8_0 rfl rfl rfl (by decide) (by decide) (by decide) (by omega) (by omega) (Nat.le_of_ble_eq_true rfl) (bX12_thrown ⟨by rw [e7], rfl⟩) (fun r M3 o3 => ?_)
  obtain ⟨rfl, rfl⟩ := o3
  refine ev_iload (j := 1) dL_law_1896 rfl ?_
  refine evx_icmpeq 1903 dL_law_1898 (by decide) (fun _ => ?_) (fun w => absurd rfl w)
  refine ev_iload (j := 1) dL_law_1903 rfl ?_
  have done : EvL G b (u + 4) 1920 [(7, iv bb), (6, iv c), (0, .ref b), (1, rr G 0 0 0), (2, rr G 8 0 0), (3, rr G 9 0 0), (4, rr G 9 0 1), (5, iv i)] [] M2 := ev_goto 2796 dL_law_1920 (by decide) (ev_sub [2, 3, 4, 5, 6, 7] rfl (kk _ hR))
  refine evx_ne 1920 dL_law_1905 (by decide) (fun _ => done) (fun z => ?_)
  have c0 : c = 0 := (J_eq ⟨by omega, by omega⟩ I32_0).mp z
  refine ev_aload_n (j := 5) dL_law_1908 rfl rfl ?_
  refine ev_iconst dL_law_1909 ?_
  refine ev_lald dL_law_1910 ?_
  refine ev_iload (j := 0) dL_law_1911 rfl ?_
  refine ev_i2l dL_law_1913 ?_
  refine ev_lcmp0 (by rw [e9, hv c0, hbb c0]; rfl) dL_law_1914 ?_
  exact evx_eq 1920 dL_law_1915 (by decide) (fun _ => done) (fun w => absurd rfl w)
theorem lc_23 (hN : NC G) (hX : va_X b L xs (s0G G) (s0G G).heap) (hb : b < bG G) (hL : L ≤ 2560) (i0 : 0 ≤ i) (i1 : i + 5 ≤ L) (hu : u ≤ 600000) (h : Rel M) (kk : ∀ M', Rel M' → EvL G b (u + 4) 2796 (LW G b i) [] M') : EvL G b u 1923 (LW G b i) [] M := by
  refine ev_aload_n (j := 1) dL_law_1923 rfl rfl ?_
  refine ev_aload_n (j := 0) dL_law_1924 rfl rfl ?_
  refine ev_iload (j := 5) dL_law_1925 rfl ?_
  refine ev_iconst dL_law_1927 ?_
  refine ev_iadd dL_law_1928 ?_
  refine ev_sld (n := 1) hX hb hL (by omega) (by omega) dL_law_1929 ?_
  refine ev_aload_n (j := 3) dL_law_1930 rfl rfl ?_
  refine el_callSH (n := 3) (As := [rr G 0 0 0, iv (ax xs i 1), rr G 9 0 0]) (st := []) mfL_unblock mlL_228 dL_law_1931 rfl rfl (by decide) (by decide) (by omega) (by omega) (Nat.le_of_ble_eq_true rfl) (w_unblock hN h ax_i) (fun r M1 o => ?_)
  obtain ⟨c, v, rfl, hc, hv, nq⟩ := o
  refine ev_istore dL_law_1934 (by decide) rfl ?_
  refine ev_aload_n (j := 3) dL_law_1936 rfl rfl ?_
  refine ev_aload_n (j := 1) dL_law_1937 rfl rfl ?_
  refine ev_iload (j := 6) dL_law_1938 rfl ?_
  refine ev_iconst dL_law_1940 ?_
  refine ev_iadd dL_law_1941 ?_
  refine ev_sld (n := 1) hX hb hL (by omega) (by omega) dL_law_1942 ?_
  refine el_callV (n := 1) (As := [iv (ax xs i 1)]) (st := []) mfX12_unblock mlL_230 dL_law_1943 rfl dm8_0 en8_0 rfl rfl rfl (by decide) (by decide) (by decide) (by omega) (by omega) (Nat.le_of_ble_eq_true rfl) nq (fun r M2 o2 => ?_)
  obtain ⟨⟨bb, rfl, hbb⟩, e7, e9, hR⟩ := o2
  refine ev_istore dL_law_1946 (by decide) rfl ?_
  refine ev_aload_n (j := 4) dL_law_1948 rfl rfl ?_
  refine el_callV (n := 0) (As := []) (st := []) (K' := fun r M9 => r = [iv c] ∧ M2 = M9) mfX12_thrown mlL_152 dL_law_1949 rfl dm8_0 en8_0 rfl rfl rfl (by decide) (by decide) (by decide) (by omega) (by omega) (Nat.le_of_ble_eq_true rfl) (bX12_thrown ⟨by rw [e7], rfl⟩) (fun r M3 o3 => ?_)
  obtain ⟨rfl, rfl⟩ := o3
  refine ev_iload (j := 1) dL_law_1952 rfl ?_
  refine evx_icmpeq 1959 dL_law_1954 (by decide) (fun _ => ?_) (fun w => absurd rfl w)
  refine ev_iload (j := 1) dL_law_1959 rfl ?_
  have done : EvL G b (u + 4) 1976 [(7, iv bb), (6, iv c), (0, .ref b), (1, rr G 0 0 0), (2, rr G 8 0 0), (3, rr G 9 0 0), (4, rr G 9 0 1), (5, iv i)] [] M2 := ev_goto 2796 dL_law_1976 (by decide) (ev_sub [2, 3, 4, 5, 6, 7] rfl (kk _ hR))
  refine evx_ne 1976 dL_law_1961 (by decide) (fun _ => done) (fun z => ?_)
  have c0 : c = 0 := (J_eq ⟨by omega, by omega⟩ I32_0).mp z
  refine ev_aload_n (j := 5) dL_law_1964 rfl rfl ?_
  refine ev_iconst dL_law_1965 ?_
  refine ev_lald dL_law_1966 ?_
  refine ev_iload (j := 0) dL_law_1967 rfl ?_
  refine ev_i2l dL_law_1969 ?_
  refine ev_lcmp0 (by rw [e9, hv c0, hbb c0]; rfl) dL_law_1970 ?_
  exact evx_eq 1976 dL_law_1971 (by decide) (fun _ => done) (fun w => absurd rfl w)
theorem lc_24 (hN : NC G) (hX : va_X b L xs (s0G G) (s0G G).heap) (hb : b < bG G) (hL : L ≤ 2560) (i0 : 0 ≤ i) (i1 : i + 5 ≤ L) (hu : u ≤ 600000) (h : Rel M) (kk : ∀ M', Rel M' → EvL G b (u + 4) 2796 (LW G b i) [] M') : EvL G b u 1979 (LW G b i) [] M := by
  refine ev_aload_n (j := 1) dL_law_1979 rfl rfl ?_
  refine ev_aload_n (j := 0) dL_law_1980 rfl rfl ?_
  refine ev_iload (j := 5) dL_law_1981 rfl ?_
  refine ev_iconst dL_law_1983 ?_
  refine ev_iadd dL_law_1984 ?_
  refine ev_sld (n := 1) hX hb hL (by omega) (by omega) dL_law_1985 ?_
  refine ev_aload_n (j := 0) dL_law_1986 rfl rfl ?_
  refine ev_iload (j := 5) dL_law_1987 rfl ?_
  refine ev_iconst dL_law_1989 ?_
  refine ev_iadd dL_law_1990 ?_
  refine ev_sld (n := 2) hX hb hL (by omega) (by omega) dL_law_1991 ?_
  refine ev_aload_n (j := 0) dL_law_1992 rfl rfl ?_
  refine ev_iload (j := 5) dL_law_1993 rfl ?_
  refine ev_iconst dL_law_1995 ?_
  refine ev_iadd dL_law_1996 ?_
  refine ev_sld (n := 3) hX hb hL (by omega) (by omega) dL_law_1997 ?_
  refine ev_nz 2005 2006 ax_i dL_law_1998 (by decide) dL_law_2001 dL_law_2002 (by decide) dL_law_2005 (by decide) ?_
  refine ev_aload_n (j := 3) dL_law_2006 rfl rfl ?_
  refine el_callSH (n := 5) (As := [rr G 0 0 0, iv (ax xs i 1), iv (ax xs i 2), iv (nz (ax xs i 3)), rr G 9 0 0]) (st := []) mfL_actual mlL_231 dL_law_2007 rfl rfl (by decide) (by decide) (by omega) (by omega) (Nat.le_of_ble_eq_true rfl) (w_actual hN h ax_i ax_i (nz_i _)) (fun r M1 o => ?_)
  obtain ⟨c, v, rfl, hc, hv, nq⟩ := o
  refine ev_istore dL_law_2010 (by decide) rfl ?_
  refine ev_aload_n (j := 3) dL_law_2012 rfl rfl ?_
  refine ev_aload_n (j := 1) dL_law_2013 rfl rfl ?_
  refine ev_iload (j := 6) dL_law_2014 rfl ?_
  refine ev_iconst dL_law_2016 ?_
  refine ev_iadd dL_law_2017 ?_
  refine ev_sld (n := 1) hX hb hL (by omega) (by omega) dL_law_2018 ?_
  refine ev_aload_n (j := 1) dL_law_2019 rfl rfl ?_
  refine ev_iload (j := 6) dL_law_2020 rfl ?_
  refine ev_iconst dL_law_2022 ?_
  refine ev_iadd dL_law_2023 ?_
  refine ev_sld (n := 2) hX hb hL (by omega) (by omega) dL_law_2024 ?_
  refine ev_aload_n (j := 1) dL_law_2025 rfl rfl ?_
  refine ev_iload (j := 6) dL_law_2026 rfl ?_
  refine ev_iconst dL_law_2028 ?_
  refine ev_iadd dL_law_2029 ?_
  refine ev_sld (n := 3) hX hb hL (by omega) (by omega) dL_law_2030 ?_
  refine ev_nz 2038 2039 ax_i dL_law_2031 (by decide) dL_law_2034 dL_law_2035 (by decide) dL_law_2038 (by decide) ?_
  refine el_callV (n := 3) (As := [iv (ax xs i 1), iv (ax xs i 2), iv (nz (ax xs i 3))]) (st := []) mfX12_actual mlL_233 dL_law_2039 rfl dm8_0 en8_0 rfl rfl rfl (by decide) (by decide) (by decide) (by omega) (by omega) (Nat.le_of_ble_eq_true rfl) nq (fun r M2 o2 => ?_)
  obtain ⟨⟨bb, rfl, hbb⟩, e7, e9, hR⟩ := o2
  refine ev_istore dL_law_2042 (by decide) rfl ?_
  refine ev_aload_n (j := 4) dL_law_2044 rfl rfl ?_
  refine el_callV (n := 0) (As := []) (st := []) (K' := fun r M9 => r = [iv c] ∧ M2 = M9) mfX12_thrown mlL_152 dL_law_2045 rfl dm8_0 en8_0 rfl rfl rfl (by decide) (by decide) (by decide) (by omega) (by omega) (Nat.le_of_ble_eq_true rfl) (bX12_thrown ⟨by rw [e7], rfl⟩) (fun r M3 o3 => ?_)
  obtain ⟨rfl, rfl⟩ := o3
  refine ev_iload (j := 1) dL_law_2048 rfl ?_
  refine evx_icmpeq 2055 dL_law_2050 (by decide) (fun _ => ?_) (fun w => absurd rfl w)
  refine ev_iload (j := 1) dL_law_2055 rfl ?_
  have done : EvL G b (u + 4) 2072 [(7, iv bb), (6, iv c), (0, .ref b), (1, rr G 0 0 0), (2, rr G 8 0 0), (3, rr G 9 0 0), (4, rr G 9 0 1), (5, iv i)] [] M2 := ev_goto 2796 dL_law_2072 (by decide) (ev_sub [2, 3, 4, 5, 6, 7] rfl (kk _ hR))
  refine evx_ne 2072 dL_law_2057 (by decide) (fun _ => done) (fun z => ?_)
  have c0 : c = 0 := (J_eq ⟨by omega, by omega⟩ I32_0).mp z
  refine ev_aload_n (j := 5) dL_law_2060 rfl rfl ?_
  refine ev_iconst dL_law_2061 ?_
  refine ev_lald dL_law_2062 ?_
  refine ev_iload (j := 0) dL_law_2063 rfl ?_
  refine ev_i2l dL_law_2065 ?_
  refine ev_lcmp0 (by rw [e9, hv c0, hbb c0]; rfl) dL_law_2066 ?_
  exact evx_eq 2072 dL_law_2067 (by decide) (fun _ => done) (fun w => absurd rfl w)
theorem lc_25 (hN : NC G) (hX : va_X b L xs (s0G G) (s0G G).heap) (hb : b < bG G) (hL : L ≤ 2560) (i0 : 0 ≤ i) (i1 : i + 5 ≤ L) (hu : u ≤ 600000) (h : Rel M) (kk : ∀ M', Rel M' → EvL G b (u + 4) 2796 (LW G b i) [] M') : EvL G b u 2075 (LW G b i) [] M := by
  refine ev_aload_n (j := 1) dL_law_2075 rfl rfl ?_
  refine ev_aload_n (j := 0) dL_law_2076 rfl rfl ?_
  refine ev_iload (j := 5) dL_law_2077 rfl ?_
  refine ev_iconst dL_law_2079 ?_
  refine ev_iadd dL_law_2080 ?_
  refine ev_sld (n := 1) hX hb hL (by omega) (by omega) dL_law_2081 ?_
  refine ev_aload_n (j := 3) dL_law_2082 rfl rfl ?_
  refine el_callSH (n := 3) (As := [rr G 0 0 0, iv (ax xs i 1), rr G 9 0 0]) (st := []) mfL_delay mlL_234 dL_law_2083 rfl rfl (by decide) (by decide) (by omega) (by omega) (Nat.le_of_ble_eq_true rfl) (w_delay hN h ax_i) (fun r M1 o => ?_)
  obtain ⟨c, v, rfl, hc, hv, nq⟩ := o
  refine ev_istore dL_law_2086 (by decide) rfl ?_
  refine ev_aload_n (j := 3) dL_law_2088 rfl rfl ?_
  refine ev_aload_n (j := 1) dL_law_2089 rfl rfl ?_
  refine ev_iload (j := 6) dL_law_2090 rfl ?_
  refine ev_iconst dL_law_2092 ?_
  refine ev_iadd dL_law_2093 ?_
  refine ev_sld (n := 1) hX hb hL (by omega) (by omega) dL_law_2094 ?_
  refine el_callV (n := 1) (As := [iv (ax xs i 1)]) (st := []) mfX12_delay mlL_236 dL_law_2095 rfl dm8_0 en8_0 rfl rfl rfl (by decide) (by decide) (by decide) (by omega) (by omega) (Nat.le_of_ble_eq_true rfl) nq (fun r M2 o2 => ?_)
  obtain ⟨⟨bb, rfl, hbb⟩, e7, e9, hR⟩ := o2
  refine ev_istore dL_law_2098 (by decide) rfl ?_
  refine ev_aload_n (j := 4) dL_law_2100 rfl rfl ?_
  refine el_callV (n := 0) (As := []) (st := []) (K' := fun r M9 => r = [iv c] ∧ M2 = M9) mfX12_thrown mlL_152 dL_law_2101 rfl dm8_0 en8_0 rfl rfl rfl (by decide) (by decide) (by decide) (by omega) (by omega) (Nat.le_of_ble_eq_true rfl) (bX12_thrown ⟨by rw [e7], rfl⟩) (fun r M3 o3 => ?_)
  obtain ⟨rfl, rfl⟩ := o3
  refine ev_iload (j := 1) dL_law_2104 rfl ?_
  refine evx_icmpeq 2111 dL_law_2106 (by decide) (fun _ => ?_) (fun w => absurd rfl w)
  refine ev_iload (j := 1) dL_law_2111 rfl ?_
  have done : EvL G b (u + 4) 2128 [(7, iv bb), (6, iv c), (0, .ref b), (1, rr G 0 0 0), (2, rr G 8 0 0), (3, rr G 9 0 0), (4, rr G 9 0 1), (5, iv i)] [] M2 := ev_goto 2796 dL_law_2128 (by decide) (ev_sub [2, 3, 4, 5, 6, 7] rfl (kk _ hR))
  refine evx_ne 2128 dL_law_2113 (by decide) (fun _ => done) (fun z => ?_)
  have c0 : c = 0 := (J_eq ⟨by omega, by omega⟩ I32_0).mp z
  refine ev_aload_n (j := 5) dL_law_2116 rfl rfl ?_
  refine ev_iconst dL_law_2117 ?_
  refine ev_lald dL_law_2118 ?_
  refine ev_iload (j := 0) dL_law_2119 rfl ?_
  refine ev_i2l dL_law_2121 ?_
  refine ev_lcmp0 (by rw [e9, hv c0, hbb c0]; rfl) dL_law_2122 ?_
  exact evx_eq 2128 dL_law_2123 (by decide) (fun _ => done) (fun w => absurd rfl w)
theorem lc_26 (hN : NC G) (hX : va_X b L xs (s0G G) (s0G G).heap) (hb : b < bG G) (hL : L ≤ 2560) (i0 : 0 ≤ i) (i1 : i + 5 ≤ L) (hu : u ≤ 600000) (h : Rel M) (kk : ∀ M', Rel M' → EvL G b (u + 4) 2796 (LW G b i) [] M') : EvL G b u 2131 (LW G b i) [] M := by
  refine ev_aload_n (j := 1) dL_law_2131 rfl rfl ?_
  refine ev_aload_n (j := 0) dL_law_2132 rfl rfl ?_
  refine ev_iload (j := 5) dL_law_2133 rfl ?_
  refine ev_iconst dL_law_2135 ?_
  refine ev_iadd dL_law_2136 ?_
  refine ev_sld (n := 1) hX hb hL (by omega) (by omega) dL_law_2137 ?_
  refine ev_aload_n (j := 3) dL_law_2138 rfl rfl ?_
  refine el_callSH (n := 3) (As := [rr G 0 0 0, iv (ax xs i 1), rr G 9 0 0]) (st := []) mfL_run mlL_237 dL_law_2139 rfl rfl (by decide) (by decide) (by omega) (by omega) (Nat.le_of_ble_eq_true rfl) (w_run hN h ax_i) (fun r M1 o => ?_)
  obtain ⟨c, v, rfl, hc, hv, nq⟩ := o
  refine ev_istore dL_law_2142 (by decide) rfl ?_
  refine ev_aload_n (j := 3) dL_law_2144 rfl rfl ?_
  refine ev_aload_n (j := 1) dL_law_2145 rfl rfl ?_
  refine ev_iload (j := 6) dL_law_2146 rfl ?_
  refine ev_iconst dL_law_2148 ?_
  refine ev_iadd dL_law_2149 ?_
  refine ev_sld (n := 1) hX hb hL (by omega) (by omega) dL_law_2150 ?_
  refine el_callV (n := 1) (As := [iv (ax xs i 1)]) (st := []) mfX12_run mlL_239 dL_law_2151 rfl dm8_0 en8_0 rfl rfl rfl (by decide) (by decide) (by decide) (by omega) (by omega) (Nat.le_of_ble_eq_true rfl) nq (fun r M2 o2 => ?_)
  obtain ⟨⟨bb, rfl, hbb⟩, e7, e9, hR⟩ := o2
  refine ev_istore dL_law_2154 (by decide) rfl ?_
  refine ev_aload_n (j := 4) dL_law_2156 rfl rfl ?_
  refine el_callV (n := 0) (As := []) (st := []) (K' := fun r M9 => r = [iv c] ∧ M2 = M9) mfX12_thrown mlL_152 dL_law_2157 rfl dm8_0 en8_0 rfl rfl rfl (by decide) (by decide) (by decide) (by omega) (by omega) (Nat.le_of_ble_eq_true rfl) (bX12_thrown ⟨by rw [e7], rfl⟩) (fun r M3 o3 => ?_)
  obtain ⟨rfl, rfl⟩ := o3
  refine ev_iload (j := 1) dL_law_2160 rfl ?_
  refine evx_icmpeq 2167 dL_law_2162 (by decide) (fun _ => ?_) (fun w => absurd rfl w)
  refine ev_iload (j := 1) dL_law_2167 rfl ?_
  have done : EvL G b (u + 4) 2184 [(7, iv bb), (6, iv c), (0, .ref b), (1, rr G 0 0 0), (2, rr G 8 0 0), (3, rr G 9 0 0), (4, rr G 9 0 1), (5, iv i)] [] M2 := ev_goto 2796 dL_law_2184 (by decide) (ev_sub [2, 3, 4, 5, 6, 7] rfl (kk _ hR))
  refine evx_ne 2184 dL_law_2169 (by decide) (fun _ => done) (fun z => ?_)
  have c0 : c = 0 := (J_eq ⟨by omega, by omega⟩ I32_0).mp z
  refine ev_aload_n (j := 5) dL_law_2172 rfl rfl ?_
  refine ev_iconst dL_law_2173 ?_
  refine ev_lald dL_law_2174 ?_
  refine ev_iload (j := 0) dL_law_2175 rfl ?_
  refine ev_i2l dL_law_2177 ?_
  refine ev_lcmp0 (by rw [e9, hv c0, hbb c0]; rfl) dL_law_2178 ?_
  exact evx_eq 2184 dL_law_2179 (by decide) (fun _ => done) (fun w => absurd rfl w)
theorem lc_27 (hN : NC G) (hX : va_X b L xs (s0G G) (s0G G).heap) (hb : b < bG G) (hL : L ≤ 2560) (i0 : 0 ≤ i) (i1 : i + 5 ≤ L) (hu : u ≤ 600000) (h : Rel M) (kk : ∀ M', Rel M' → EvL G b (u + 4) 2796 (LW G b i) [] M') : EvL G b u 2187 (LW G b i) [] M := by
  refine ev_aload_n (j := 1) dL_law_2187 rfl rfl ?_
  refine ev_aload_n (j := 0) dL_law_2188 rfl rfl ?_
  refine ev_iload (j := 5) dL_law_2189 rfl ?_
  refine ev_iconst dL_law_2191 ?_
  refine ev_iadd dL_law_2192 ?_
  refine ev_sld (n := 1) hX hb hL (by omega) (by omega) dL_law_2193 ?_
  refine ev_aload_n (j := 0) dL_law_2194 rfl rfl ?_
  refine ev_iload (j := 5) dL_law_2195 rfl ?_
  refine ev_iconst dL_law_2197 ?_
  refine ev_iadd dL_law_2198 ?_
  refine ev_sld (n := 2) hX hb hL (by omega) (by omega) dL_law_2199 ?_
  refine ev_aload_n (j := 3) dL_law_2200 rfl rfl ?_
  refine el_callSH (n := 4) (As := [rr G 0 0 0, iv (ax xs i 1), iv (ax xs i 2), rr G 9 0 0]) (st := []) mfL_actualBunches mlL_240 dL_law_2201 rfl rfl (by decide) (by decide) (by omega) (by omega) (Nat.le_of_ble_eq_true rfl) (w_actualBunches hN h ax_i ax_i) (fun r M1 o => ?_)
  obtain ⟨c, v, rfl, hc, hv, nq⟩ := o
  refine ev_istore dL_law_2204 (by decide) rfl ?_
  refine ev_aload_n (j := 3) dL_law_2206 rfl rfl ?_
  refine ev_aload_n (j := 1) dL_law_2207 rfl rfl ?_
  refine ev_iload (j := 6) dL_law_2208 rfl ?_
  refine ev_iconst dL_law_2210 ?_
  refine ev_iadd dL_law_2211 ?_
  refine ev_sld (n := 1) hX hb hL (by omega) (by omega) dL_law_2212 ?_
  refine ev_aload_n (j := 1) dL_law_2213 rfl rfl ?_
  refine ev_iload (j := 6) dL_law_2214 rfl ?_
  refine ev_iconst dL_law_2216 ?_
  refine ev_iadd dL_law_2217 ?_
  refine ev_sld (n := 2) hX hb hL (by omega) (by omega) dL_law_2218 ?_
  refine el_callV (n := 2) (As := [iv (ax xs i 1), iv (ax xs i 2)]) (st := []) mfX12_actualBunches mlL_242 dL_law_2219 rfl dm8_0 en8_0 rfl rfl rfl (by decide) (by decide) (by decide) (by omega) (by omega) (Nat.le_of_ble_eq_true rfl) nq (fun r M2 o2 => ?_)
  obtain ⟨⟨bb, rfl, hbb⟩, e7, e9, hR⟩ := o2
  refine ev_istore dL_law_2222 (by decide) rfl ?_
  refine ev_aload_n (j := 4) dL_law_2224 rfl rfl ?_
  refine el_callV (n := 0) (As := []) (st := []) (K' := fun r M9 => r = [iv c] ∧ M2 = M9) mfX12_thrown mlL_152 dL_law_2225 rfl dm8_0 en8_0 rfl rfl rfl (by decide) (by decide) (by decide) (by omega) (by omega) (Nat.le_of_ble_eq_true rfl) (bX12_thrown ⟨by rw [e7], rfl⟩) (fun r M3 o3 => ?_)
  obtain ⟨rfl, rfl⟩ := o3
  refine ev_iload (j := 1) dL_law_2228 rfl ?_
  refine evx_icmpeq 2235 dL_law_2230 (by decide) (fun _ => ?_) (fun w => absurd rfl w)
  refine ev_iload (j := 1) dL_law_2235 rfl ?_
  have done : EvL G b (u + 4) 2252 [(7, iv bb), (6, iv c), (0, .ref b), (1, rr G 0 0 0), (2, rr G 8 0 0), (3, rr G 9 0 0), (4, rr G 9 0 1), (5, iv i)] [] M2 := ev_goto 2796 dL_law_2252 (by decide) (ev_sub [2, 3, 4, 5, 6, 7] rfl (kk _ hR))
  refine evx_ne 2252 dL_law_2237 (by decide) (fun _ => done) (fun z => ?_)
  have c0 : c = 0 := (J_eq ⟨by omega, by omega⟩ I32_0).mp z
  refine ev_aload_n (j := 5) dL_law_2240 rfl rfl ?_
  refine ev_iconst dL_law_2241 ?_
  refine ev_lald dL_law_2242 ?_
  refine ev_iload (j := 0) dL_law_2243 rfl ?_
  refine ev_i2l dL_law_2245 ?_
  refine ev_lcmp0 (by rw [e9, hv c0, hbb c0]; rfl) dL_law_2246 ?_
  exact evx_eq 2252 dL_law_2247 (by decide) (fun _ => done) (fun w => absurd rfl w)
theorem lc_28 (hN : NC G) (hX : va_X b L xs (s0G G) (s0G G).heap) (hb : b < bG G) (hL : L ≤ 2560) (i0 : 0 ≤ i) (i1 : i + 5 ≤ L) (hu : u ≤ 600000) (h : Rel M) (kk : ∀ M', Rel M' → EvL G b (u + 4) 2796 (LW G b i) [] M') : EvL G b u 2255 (LW G b i) [] M := by
  refine ev_aload_n (j := 1) dL_law_2255 rfl rfl ?_
  refine ev_aload (j := 4) dL_law_2256 rfl ?_
  refine el_callSH (n := 2) (As := [rr G 0 0 0, rr G 9 0 1]) (st := []) mfL_meanDelay mlL_243 dL_law_2258 rfl rfl (by decide) (by decide) (by omega) (by omega) (Nat.le_of_ble_eq_true rfl) (w_meanDelay hN h) (fun r M1 o => ?_)
  obtain ⟨c, v, rfl, hc, hv, nq⟩ := o
  refine ev_istore dL_law_2261 (by decide) rfl ?_
  refine ev_aload_n (j := 3) dL_law_2263 rfl rfl ?_
  refine el_callV (n := 0) (As := []) (st := []) mfX12_meanDelay mlL_246 dL_law_2264 rfl dm8_0 en8_0 rfl rfl rfl (by decide) (by decide) (by decide) (by omega) (by omega) (Nat.le_of_ble_eq_true rfl) nq (fun r M2 o2 => ?_)
  obtain ⟨⟨bb, rfl, hbb⟩, e7, e9, hR⟩ := o2
  refine ev_dstore dL_law_2267 (by decide) rfl ?_
  refine ev_aload_n (j := 4) dL_law_2269 rfl rfl ?_
  refine el_callV (n := 0) (As := []) (st := []) (K' := fun r M9 => r = [iv c] ∧ M2 = M9) mfX12_thrown mlL_152 dL_law_2270 rfl dm8_0 en8_0 rfl rfl rfl (by decide) (by decide) (by decide) (by omega) (by omega) (Nat.le_of_ble_eq_true rfl) (bX12_thrown ⟨by rw [e7], rfl⟩) (fun r M3 o3 => ?_)
  obtain ⟨rfl, rfl⟩ := o3
  refine ev_iload (j := 1) dL_law_2273 rfl ?_
  refine evx_icmpeq 2280 dL_law_2275 (by decide) (fun _ => ?_) (fun w => absurd rfl w)
  refine ev_iload (j := 1) dL_law_2280 rfl ?_
  have done : EvL G b (u + 4) 2317 [(7, .double bb), (6, iv c), (0, .ref b), (1, rr G 0 0 0), (2, rr G 8 0 0), (3, rr G 9 0 0), (4, rr G 9 0 1), (5, iv i)] [] M2 := ev_goto 2796 dL_law_2317 (by decide) (ev_sub [2, 3, 4, 5, 6, 7] rfl (kk _ hR))
  refine evx_ne 2317 dL_law_2282 (by decide) (fun _ => done) (fun z => ?_)
  have c0 : c = 0 := (J_eq ⟨by omega, by omega⟩ I32_0).mp z
  refine ev_aload (j := 6) dL_law_2285 rfl ?_
  refine ev_iconst dL_law_2287 ?_
  have ed : UInt64.ofNat (M2 9 0 1 0).toNat = v := by rw [e9, hv c0, Int.toNat_natCast, UInt64.ofNat_toNat]
  have eb : bb = v := hbb c0
  subst eb
  refine ev_dald dL_law_2288 ?_
  rw [ed]
  refine ev_dload (j := 0) dL_law_2289 rfl ?_
  refine ev_dcmp dL_law_2291 ?_
  refine evx_eq 2317 dL_law_2292 (by decide) (fun _ => done) (fun w => ?_)
  refine ev_aload (j := 6) dL_law_2295 rfl ?_
  refine ev_iconst dL_law_2297 ?_
  refine ev_dald dL_law_2298 ?_
  rw [ed]
  refine ev_aload (j := 6) dL_law_2299 rfl ?_
  refine ev_iconst dL_law_2301 ?_
  refine ev_dald dL_law_2302 ?_
  rw [ed]
  refine ev_dcmp dL_law_2303 ?_
  refine evx_eq 2315 dL_law_2304 (by decide) (fun q => absurd q w) (fun _ => ?_)
  refine ev_dload (j := 0) dL_law_2307 rfl ?_
  refine ev_dload (j := 0) dL_law_2309 rfl ?_
  refine ev_dcmp dL_law_2311 ?_
  exact evx_ne 2317 dL_law_2312 (by decide) (fun _ => done) (fun q => absurd q w)
theorem lc_29 (hN : NC G) (hX : va_X b L xs (s0G G) (s0G G).heap) (hb : b < bG G) (hL : L ≤ 2560) (i0 : 0 ≤ i) (i1 : i + 5 ≤ L) (hu : u ≤ 600000) (h : Rel M) (kk : ∀ M', Rel M' → EvL G b (u + 4) 2796 (LW G b i) [] M') : EvL G b u 2320 (LW G b i) [] M := by
  refine ev_aload_n (j := 1) dL_law_2320 rfl rfl ?_
  refine ev_aload_n (j := 0) dL_law_2321 rfl rfl ?_
  refine ev_iload (j := 5) dL_law_2322 rfl ?_
  refine ev_iconst dL_law_2324 ?_
  refine ev_iadd dL_law_2325 ?_
  refine ev_sld (n := 1) hX hb hL (by omega) (by omega) dL_law_2326 ?_
  refine ev_aload_n (j := 0) dL_law_2327 rfl rfl ?_
  refine ev_iload (j := 5) dL_law_2328 rfl ?_
  refine ev_iconst dL_law_2330 ?_
  refine ev_iadd dL_law_2331 ?_
  refine ev_sld (n := 2) hX hb hL (by omega) (by omega) dL_law_2332 ?_
  refine ev_aload_n (j := 3) dL_law_2333 rfl rfl ?_
  refine el_callSH (n := 4) (As := [rr G 0 0 0, iv (ax xs i 1), iv (ax xs i 2), rr G 9 0 0]) (st := []) mfL_turnShort mlL_247 dL_law_2334 rfl rfl (by decide) (by decide) (by omega) (by omega) (Nat.le_of_ble_eq_true rfl) (w_turnShort hN h ax_i ax_i) (fun r M1 o => ?_)
  obtain ⟨c, v, rfl, hc, hv, nq⟩ := o
  refine ev_istore dL_law_2337 (by decide) rfl ?_
  refine ev_aload_n (j := 3) dL_law_2339 rfl rfl ?_
  refine ev_aload_n (j := 1) dL_law_2340 rfl rfl ?_
  refine ev_iload (j := 6) dL_law_2341 rfl ?_
  refine ev_iconst dL_law_2343 ?_
  refine ev_iadd dL_law_2344 ?_
  refine ev_sld (n := 1) hX hb hL (by omega) (by omega) dL_law_2345 ?_
  refine ev_aload_n (j := 1) dL_law_2346 rfl rfl ?_
  refine ev_iload (j := 6) dL_law_2347 rfl ?_
  refine ev_iconst dL_law_2349 ?_
  refine ev_iadd dL_law_2350 ?_
  refine ev_sld (n := 2) hX hb hL (by omega) (by omega) dL_law_2351 ?_
  refine el_callV (n := 2) (As := [iv (ax xs i 1), iv (ax xs i 2)]) (st := []) mfX12_turnShort mlL_249 dL_law_2352 rfl dm8_0 en8_0 rfl rfl rfl (by decide) (by decide) (by decide) (by omega) (by omega) (Nat.le_of_ble_eq_true rfl) nq (fun r M2 o2 => ?_)
  obtain ⟨⟨bb, rfl, hbb⟩, e7, e9, hR⟩ := o2
  refine ev_istore dL_law_2355 (by decide) rfl ?_
  refine ev_aload_n (j := 4) dL_law_2357 rfl rfl ?_
  refine el_callV (n := 0) (As := []) (st := []) (K' := fun r M9 => r = [iv c] ∧ M2 = M9) mfX12_thrown mlL_152 dL_law_2358 rfl dm8_0 en8_0 rfl rfl rfl (by decide) (by decide) (by decide) (by omega) (by omega) (Nat.le_of_ble_eq_true rfl) (bX12_thrown ⟨by rw [e7], rfl⟩) (fun r M3 o3 => ?_)
  obtain ⟨rfl, rfl⟩ := o3
  refine ev_iload (j := 1) dL_law_2361 rfl ?_
  refine evx_icmpeq 2368 dL_law_2363 (by decide) (fun _ => ?_) (fun w => absurd rfl w)
  refine ev_iload (j := 1) dL_law_2368 rfl ?_
  have done : EvL G b (u + 4) 2385 [(7, iv bb), (6, iv c), (0, .ref b), (1, rr G 0 0 0), (2, rr G 8 0 0), (3, rr G 9 0 0), (4, rr G 9 0 1), (5, iv i)] [] M2 := ev_goto 2796 dL_law_2385 (by decide) (ev_sub [2, 3, 4, 5, 6, 7] rfl (kk _ hR))
  refine evx_ne 2385 dL_law_2370 (by decide) (fun _ => done) (fun z => ?_)
  have c0 : c = 0 := (J_eq ⟨by omega, by omega⟩ I32_0).mp z
  refine ev_aload_n (j := 5) dL_law_2373 rfl rfl ?_
  refine ev_iconst dL_law_2374 ?_
  refine ev_lald dL_law_2375 ?_
  refine ev_iload (j := 0) dL_law_2376 rfl ?_
  refine ev_i2l dL_law_2378 ?_
  refine ev_lcmp0 (by rw [e9, hv c0, hbb c0]; rfl) dL_law_2379 ?_
  exact evx_eq 2385 dL_law_2380 (by decide) (fun _ => done) (fun w => absurd rfl w)
theorem lc_30 (hN : NC G) (hX : va_X b L xs (s0G G) (s0G G).heap) (hb : b < bG G) (hL : L ≤ 2560) (i0 : 0 ≤ i) (i1 : i + 5 ≤ L) (hu : u ≤ 600000) (h : Rel M) (kk : ∀ M', Rel M' → EvL G b (u + 4) 2796 (LW G b i) [] M') : EvL G b u 2388 (LW G b i) [] M := by
  refine ev_aload_n (j := 1) dL_law_2388 rfl rfl ?_
  refine ev_aload_n (j := 0) dL_law_2389 rfl rfl ?_
  refine ev_iload (j := 5) dL_law_2390 rfl ?_
  refine ev_iconst dL_law_2392 ?_
  refine ev_iadd dL_law_2393 ?_
  refine ev_sld (n := 1) hX hb hL (by omega) (by omega) dL_law_2394 ?_
  refine ev_aload_n (j := 0) dL_law_2395 rfl rfl ?_
  refine ev_iload (j := 5) dL_law_2396 rfl ?_
  refine ev_iconst dL_law_2398 ?_
  refine ev_iadd dL_law_2399 ?_
  refine ev_sld (n := 2) hX hb hL (by omega) (by omega) dL_law_2400 ?_
  refine ev_aload_n (j := 3) dL_law_2401 rfl rfl ?_
  refine el_callSH (n := 4) (As := [rr G 0 0 0, iv (ax xs i 1), iv (ax xs i 2), rr G 9 0 0]) (st := []) mfL_startLate mlL_250 dL_law_2402 rfl rfl (by decide) (by decide) (by omega) (by omega) (Nat.le_of_ble_eq_true rfl) (w_startLate hN h ax_i ax_i) (fun r M1 o => ?_)
  obtain ⟨c, v, rfl, hc, hv, nq⟩ := o
  refine ev_istore dL_law_2405 (by decide) rfl ?_
  refine ev_aload_n (j := 3) dL_law_2407 rfl rfl ?_
  refine ev_aload_n (j := 1) dL_law_2408 rfl rfl ?_
  refine ev_iload (j := 6) dL_law_2409 rfl ?_
  refine ev_iconst dL_law_2411 ?_
  refine ev_iadd dL_law_2412 ?_
  refine ev_sld (n := 1) hX hb hL (by omega) (by omega) dL_law_2413 ?_
  refine ev_aload_n (j := 1) dL_law_2414 rfl rfl ?_
  refine ev_iload (j := 6) dL_law_2415 rfl ?_
  refine ev_iconst dL_law_2417 ?_
  refine ev_iadd dL_law_2418 ?_
  refine ev_sld (n := 2) hX hb hL (by omega) (by omega) dL_law_2419 ?_
  refine el_callV (n := 2) (As := [iv (ax xs i 1), iv (ax xs i 2)]) (st := []) mfX12_startLate mlL_252 dL_law_2420 rfl dm8_0 en8_0 rfl rfl rfl (by decide) (by decide) (by decide) (by omega) (by omega) (Nat.le_of_ble_eq_true rfl) nq (fun r M2 o2 => ?_)
  obtain ⟨⟨bb, rfl, hbb⟩, e7, e9, hR⟩ := o2
  refine ev_istore dL_law_2423 (by decide) rfl ?_
  refine ev_aload_n (j := 4) dL_law_2425 rfl rfl ?_
  refine el_callV (n := 0) (As := []) (st := []) (K' := fun r M9 => r = [iv c] ∧ M2 = M9) mfX12_thrown mlL_152 dL_law_2426 rfl dm8_0 en8_0 rfl rfl rfl (by decide) (by decide) (by decide) (by omega) (by omega) (Nat.le_of_ble_eq_true rfl) (bX12_thrown ⟨by rw [e7], rfl⟩) (fun r M3 o3 => ?_)
  obtain ⟨rfl, rfl⟩ := o3
  refine ev_iload (j := 1) dL_law_2429 rfl ?_
  refine evx_icmpeq 2436 dL_law_2431 (by decide) (fun _ => ?_) (fun w => absurd rfl w)
  refine ev_iload (j := 1) dL_law_2436 rfl ?_
  have done : EvL G b (u + 4) 2453 [(7, iv bb), (6, iv c), (0, .ref b), (1, rr G 0 0 0), (2, rr G 8 0 0), (3, rr G 9 0 0), (4, rr G 9 0 1), (5, iv i)] [] M2 := ev_goto 2796 dL_law_2453 (by decide) (ev_sub [2, 3, 4, 5, 6, 7] rfl (kk _ hR))
  refine evx_ne 2453 dL_law_2438 (by decide) (fun _ => done) (fun z => ?_)
  have c0 : c = 0 := (J_eq ⟨by omega, by omega⟩ I32_0).mp z
  refine ev_aload_n (j := 5) dL_law_2441 rfl rfl ?_
  refine ev_iconst dL_law_2442 ?_
  refine ev_lald dL_law_2443 ?_
  refine ev_iload (j := 0) dL_law_2444 rfl ?_
  refine ev_i2l dL_law_2446 ?_
  refine ev_lcmp0 (by rw [e9, hv c0, hbb c0]; rfl) dL_law_2447 ?_
  exact evx_eq 2453 dL_law_2448 (by decide) (fun _ => done) (fun w => absurd rfl w)
theorem lc_31 (hN : NC G) (hX : va_X b L xs (s0G G) (s0G G).heap) (hb : b < bG G) (hL : L ≤ 2560) (i0 : 0 ≤ i) (i1 : i + 5 ≤ L) (hu : u ≤ 600000) (h : Rel M) (kk : ∀ M', Rel M' → EvL G b (u + 4) 2796 (LW G b i) [] M') : EvL G b u 2456 (LW G b i) [] M := by
  refine ev_aload_n (j := 1) dL_law_2456 rfl rfl ?_
  refine ev_aload_n (j := 0) dL_law_2457 rfl rfl ?_
  refine ev_iload (j := 5) dL_law_2458 rfl ?_
  refine ev_iconst dL_law_2460 ?_
  refine ev_iadd dL_law_2461 ?_
  refine ev_sld (n := 1) hX hb hL (by omega) (by omega) dL_law_2462 ?_
  refine ev_nz 2470 2471 ax_i dL_law_2463 (by decide) dL_law_2466 dL_law_2467 (by decide) dL_law_2470 (by decide) ?_
  refine el_callV (n := 1) (As := [iv (nz (ax xs i 1))]) (st := []) mfX11_leastVehicles mlL_253 dL_law_2471 rfl dm0_0 en0_0 rfl rfl rfl (by decide) (by decide) (by decide) (by omega) (by omega) (Nat.le_of_ble_eq_true rfl) (s_leastVehicles h (nz_i _)) (fun r M1 o => ?_)
  obtain ⟨v, rfl, nx⟩ := o
  have nq := nx _ Ex9.rf
  refine ev_aload_n (j := 2) dL_law_2474 rfl rfl ?_
  refine ev_aload_n (j := 0) dL_law_2475 rfl rfl ?_
  refine ev_iload (j := 5) dL_law_2476 rfl ?_
  refine ev_iconst dL_law_2478 ?_
  refine ev_iadd dL_law_2479 ?_
  refine ev_sld (n := 1) hX hb hL (by omega) (by omega) dL_law_2480 ?_
  refine ev_nz 2488 2489 ax_i dL_law_2481 (by decide) dL_law_2484 dL_law_2485 (by decide) dL_law_2488 (by decide) ?_
  refine el_callV (n := 1) (As := [iv (nz (ax xs i 1))]) (st := [iv v]) mfX12_leastVehicles mlL_257 dL_law_2489 rfl dm8_0 en8_0 rfl rfl rfl (by decide) (by decide) (by decide) (by omega) (by omega) (Nat.le_of_ble_eq_true rfl) nq (fun r M2 o2 => ?_)
  obtain ⟨⟨bb, rfl, hbb⟩, e7, e9, hR⟩ := o2
  rw [hbb rfl]
  exact evx_icmpeq 2796 dL_law_2492 (by decide) (fun _ => ev_mono (by omega) (ev_sub [0, 1, 2, 3, 4, 5] rfl (kk _ hR))) (fun w => absurd rfl w)
theorem lc_32 (hN : NC G) (hX : va_X b L xs (s0G G) (s0G G).heap) (hb : b < bG G) (hL : L ≤ 2560) (i0 : 0 ≤ i) (i1 : i + 5 ≤ L) (hu : u ≤ 600000) (h : Rel M) (kk : ∀ M', Rel M' → EvL G b (u + 4) 2796 (LW G b i) [] M') : EvL G b u 2497 (LW G b i) [] M := by
  refine ev_aload_n (j := 1) dL_law_2497 rfl rfl ?_
  refine ev_aload_n (j := 0) dL_law_2498 rfl rfl ?_
  refine ev_iload (j := 5) dL_law_2499 rfl ?_
  refine ev_iconst dL_law_2501 ?_
  refine ev_iadd dL_law_2502 ?_
  refine ev_sld (n := 1) hX hb hL (by omega) (by omega) dL_law_2503 ?_
  refine ev_aload_n (j := 3) dL_law_2504 rfl rfl ?_
  refine el_callSH (n := 3) (As := [rr G 0 0 0, iv (ax xs i 1), rr G 9 0 0]) (st := []) mfL_leastCost mlL_258 dL_law_2505 rfl rfl (by decide) (by decide) (by omega) (by omega) (Nat.le_of_ble_eq_true rfl) (w_leastCost hN h ax_i) (fun r M1 o => ?_)
  obtain ⟨c, v, rfl, hc, hv, nq⟩ := o
  refine ev_istore dL_law_2508 (by decide) rfl ?_
  refine ev_aload_n (j := 3) dL_law_2510 rfl rfl ?_
  refine ev_aload_n (j := 1) dL_law_2511 rfl rfl ?_
  refine ev_iload (j := 6) dL_law_2512 rfl ?_
  refine ev_iconst dL_law_2514 ?_
  refine ev_iadd dL_law_2515 ?_
  refine ev_sld (n := 1) hX hb hL (by omega) (by omega) dL_law_2516 ?_
  refine el_callV (n := 1) (As := [iv (ax xs i 1)]) (st := []) mfX12_leastCost mlL_260 dL_law_2517 rfl dm8_0 en8_0 rfl rfl rfl (by decide) (by decide) (by decide) (by omega) (by omega) (Nat.le_of_ble_eq_true rfl) nq (fun r M2 o2 => ?_)
  obtain ⟨⟨bb, rfl, hbb⟩, e7, e9, hR⟩ := o2
  refine ev_istore dL_law_2520 (by decide) rfl ?_
  refine ev_aload_n (j := 4) dL_law_2522 rfl rfl ?_
  refine el_callV (n := 0) (As := []) (st := []) (K' := fun r M9 => r = [iv c] ∧ M2 = M9) mfX12_thrown mlL_152 dL_law_2523 rfl dm8_0 en8_0 rfl rfl rfl (by decide) (by decide) (by decide) (by omega) (by omega) (Nat.le_of_ble_eq_true rfl) (bX12_thrown ⟨by rw [e7], rfl⟩) (fun r M3 o3 => ?_)
  obtain ⟨rfl, rfl⟩ := o3
  refine ev_iload (j := 1) dL_law_2526 rfl ?_
  refine evx_icmpeq 2533 dL_law_2528 (by decide) (fun _ => ?_) (fun w => absurd rfl w)
  refine ev_iload (j := 1) dL_law_2533 rfl ?_
  have done : EvL G b (u + 4) 2550 [(7, iv bb), (6, iv c), (0, .ref b), (1, rr G 0 0 0), (2, rr G 8 0 0), (3, rr G 9 0 0), (4, rr G 9 0 1), (5, iv i)] [] M2 := ev_goto 2796 dL_law_2550 (by decide) (ev_sub [2, 3, 4, 5, 6, 7] rfl (kk _ hR))
  refine evx_ne 2550 dL_law_2535 (by decide) (fun _ => done) (fun z => ?_)
  have c0 : c = 0 := (J_eq ⟨by omega, by omega⟩ I32_0).mp z
  refine ev_aload_n (j := 5) dL_law_2538 rfl rfl ?_
  refine ev_iconst dL_law_2539 ?_
  refine ev_lald dL_law_2540 ?_
  refine ev_iload (j := 0) dL_law_2541 rfl ?_
  refine ev_i2l dL_law_2543 ?_
  refine ev_lcmp0 (by rw [e9, hv c0, hbb c0]; rfl) dL_law_2544 ?_
  exact evx_eq 2550 dL_law_2545 (by decide) (fun _ => done) (fun w => absurd rfl w)
theorem lc_33 (hN : NC G) (hX : va_X b L xs (s0G G) (s0G G).heap) (hb : b < bG G) (hL : L ≤ 2560) (i0 : 0 ≤ i) (i1 : i + 5 ≤ L) (hu : u ≤ 600000) (h : Rel M) (kk : ∀ M', Rel M' → EvL G b (u + 4) 2796 (LW G b i) [] M') : EvL G b u 2553 (LW G b i) [] M := by
  refine ev_aload_n (j := 1) dL_law_2553 rfl rfl ?_
  refine ev_aload_n (j := 0) dL_law_2554 rfl rfl ?_
  refine ev_iload (j := 5) dL_law_2555 rfl ?_
  refine ev_iconst dL_law_2557 ?_
  refine ev_iadd dL_law_2558 ?_
  refine ev_sld (n := 1) hX hb hL (by omega) (by omega) dL_law_2559 ?_
  refine ev_aload_n (j := 3) dL_law_2560 rfl rfl ?_
  refine el_callSH (n := 3) (As := [rr G 0 0 0, iv (ax xs i 1), rr G 9 0 0]) (st := []) mfL_nextTrip mlL_261 dL_law_2561 rfl rfl (by decide) (by decide) (by omega) (by omega) (Nat.le_of_ble_eq_true rfl) (w_nextTrip hN h ax_i) (fun r M1 o => ?_)
  obtain ⟨c, v, rfl, hc, hv, nq⟩ := o
  refine ev_istore dL_law_2564 (by decide) rfl ?_
  refine ev_aload_n (j := 3) dL_law_2566 rfl rfl ?_
  refine ev_aload_n (j := 1) dL_law_2567 rfl rfl ?_
  refine ev_iload (j := 6) dL_law_2568 rfl ?_
  refine ev_iconst dL_law_2570 ?_
  refine ev_iadd dL_law_2571 ?_
  refine ev_sld (n := 1) hX hb hL (by omega) (by omega) dL_law_2572 ?_
  refine el_callV (n := 1) (As := [iv (ax xs i 1)]) (st := []) mfX12_nextTrip mlL_263 dL_law_2573 rfl dm8_0 en8_0 rfl rfl rfl (by decide) (by decide) (by decide) (by omega) (by omega) (Nat.le_of_ble_eq_true rfl) nq (fun r M2 o2 => ?_)
  obtain ⟨⟨bb, rfl, hbb⟩, e7, e9, hR⟩ := o2
  refine ev_istore dL_law_2576 (by decide) rfl ?_
  refine ev_aload_n (j := 4) dL_law_2578 rfl rfl ?_
  refine el_callV (n := 0) (As := []) (st := []) (K' := fun r M9 => r = [iv c] ∧ M2 = M9) mfX12_thrown mlL_152 dL_law_2579 rfl dm8_0 en8_0 rfl rfl rfl (by decide) (by decide) (by decide) (by omega) (by omega) (Nat.le_of_ble_eq_true rfl) (bX12_thrown ⟨by rw [e7], rfl⟩) (fun r M3 o3 => ?_)
  obtain ⟨rfl, rfl⟩ := o3
  refine ev_iload (j := 1) dL_law_2582 rfl ?_
  refine evx_icmpeq 2589 dL_law_2584 (by decide) (fun _ => ?_) (fun w => absurd rfl w)
  refine ev_iload (j := 1) dL_law_2589 rfl ?_
  have done : EvL G b (u + 4) 2606 [(7, iv bb), (6, iv c), (0, .ref b), (1, rr G 0 0 0), (2, rr G 8 0 0), (3, rr G 9 0 0), (4, rr G 9 0 1), (5, iv i)] [] M2 := ev_goto 2796 dL_law_2606 (by decide) (ev_sub [2, 3, 4, 5, 6, 7] rfl (kk _ hR))
  refine evx_ne 2606 dL_law_2591 (by decide) (fun _ => done) (fun z => ?_)
  have c0 : c = 0 := (J_eq ⟨by omega, by omega⟩ I32_0).mp z
  refine ev_aload_n (j := 5) dL_law_2594 rfl rfl ?_
  refine ev_iconst dL_law_2595 ?_
  refine ev_lald dL_law_2596 ?_
  refine ev_iload (j := 0) dL_law_2597 rfl ?_
  refine ev_i2l dL_law_2599 ?_
  refine ev_lcmp0 (by rw [e9, hv c0, hbb c0]; rfl) dL_law_2600 ?_
  exact evx_eq 2606 dL_law_2601 (by decide) (fun _ => done) (fun w => absurd rfl w)
theorem lc_34 (hN : NC G) (hX : va_X b L xs (s0G G) (s0G G).heap) (hb : b < bG G) (hL : L ≤ 2560) (i0 : 0 ≤ i) (i1 : i + 5 ≤ L) (hu : u ≤ 600000) (h : Rel M) (kk : ∀ M', Rel M' → EvL G b (u + 4) 2796 (LW G b i) [] M') : EvL G b u 2609 (LW G b i) [] M := by
  refine ev_aload_n (j := 1) dL_law_2609 rfl rfl ?_
  refine el_callV (n := 0) (As := []) (st := []) mfX11_relink mlL_264 dL_law_2610 rfl dm0_0 en0_0 rfl rfl rfl (by decide) (by decide) (by decide) (by omega) (by omega) (Nat.le_of_ble_eq_true rfl) (s_relink h) (fun r M1 o => ?_)
  obtain ⟨v, rfl, nx⟩ := o
  have nq := nx _ Ex9.rf
  refine ev_aload_n (j := 2) dL_law_2613 rfl rfl ?_
  refine el_callV (n := 0) (As := []) (st := [iv v]) mfX12_relink mlL_267 dL_law_2614 rfl dm8_0 en8_0 rfl rfl rfl (by decide) (by decide) (by decide) (by omega) (by omega) (Nat.le_of_ble_eq_true rfl) nq (fun r M2 o2 => ?_)
  obtain ⟨⟨bb, rfl, hbb⟩, e7, e9, hR⟩ := o2
  rw [hbb rfl]
  exact evx_icmpeq 2796 dL_law_2617 (by decide) (fun _ => ev_mono (by omega) (ev_sub [0, 1, 2, 3, 4, 5] rfl (kk _ hR))) (fun w => absurd rfl w)
theorem lc_35 (hN : NC G) (hX : va_X b L xs (s0G G) (s0G G).heap) (hb : b < bG G) (hL : L ≤ 2560) (i0 : 0 ≤ i) (i1 : i + 5 ≤ L) (hu : u ≤ 600000) (h : Rel M) (kk : ∀ M', Rel M' → EvL G b (u + 4) 2796 (LW G b i) [] M') : EvL G b u 2622 (LW G b i) [] M := by
  refine ev_aload_n (j := 1) dL_law_2622 rfl rfl ?_
  refine ev_aload_n (j := 0) dL_law_2623 rfl rfl ?_
  refine ev_iload (j := 5) dL_law_2624 rfl ?_
  refine ev_iconst dL_law_2626 ?_
  refine ev_iadd dL_law_2627 ?_
  refine ev_sld (n := 1) hX hb hL (by omega) (by omega) dL_law_2628 ?_
  refine ev_ch dL_law_2629 ?_
  refine el_callSH (n := 2) (As := [rr G 0 0 0, iv (ch (ax xs i 1))]) (st := []) mfL_append mlL_268 dL_law_2630 rfl rfl (by decide) (by decide) (by omega) (by omega) (Nat.le_of_ble_eq_true rfl) (w_append hN h ch_bd ch_nar) (fun r M1 o => ?_)
  obtain ⟨c, rfl, hc, nq⟩ := o
  refine ev_istore dL_law_2633 (by decide) rfl ?_
  refine ev_aload_n (j := 3) dL_law_2635 rfl rfl ?_
  refine ev_aload_n (j := 1) dL_law_2636 rfl rfl ?_
  refine ev_iload (j := 6) dL_law_2637 rfl ?_
  refine ev_iconst dL_law_2639 ?_
  refine ev_iadd dL_law_2640 ?_
  refine ev_sld (n := 1) hX hb hL (by omega) (by omega) dL_law_2641 ?_
  refine ev_ch dL_law_2642 ?_
  refine el_callV (n := 1) (As := [iv (ch (ax xs i 1))]) (st := []) mfX12_append mlL_271 dL_law_2643 rfl dm8_0 en8_0 rfl rfl rfl (by decide) (by decide) (by decide) (by omega) (by omega) (Nat.le_of_ble_eq_true rfl) nq (fun r M2 o2 => ?_)
  obtain ⟨rfl, e7, e9, hR⟩ := o2
  refine ev_aload_n (j := 3) dL_law_2646 rfl rfl ?_
  refine el_callV (n := 0) (As := []) (st := []) (K' := fun r M9 => r = [iv c] ∧ M2 = M9) mfX12_thrown mlL_152 dL_law_2647 rfl dm8_0 en8_0 rfl rfl rfl (by decide) (by decide) (by decide) (by omega) (by omega) (Nat.le_of_ble_eq_true rfl) (bX12_thrown ⟨by rw [e7], rfl⟩) (fun r M3 o3 => ?_)
  obtain ⟨rfl, rfl⟩ := o3
  refine ev_iload (j := 0) dL_law_2650 rfl ?_
  refine evx_icmpeq 2657 dL_law_2652 (by decide) (fun _ => ?_) (fun w => absurd rfl w)
  exact ev_goto 2796 dL_law_2657 (by decide) (ev_sub [1, 2, 3, 4, 5, 6] rfl (kk _ hR))
theorem lc_36 (hN : NC G) (hX : va_X b L xs (s0G G) (s0G G).heap) (hb : b < bG G) (hL : L ≤ 2560) (i0 : 0 ≤ i) (i1 : i + 5 ≤ L) (hu : u ≤ 600000) (h : Rel M) (kk : ∀ M', Rel M' → EvL G b (u + 4) 2796 (LW G b i) [] M') : EvL G b u 2660 (LW G b i) [] M := by
  refine ev_aload_n (j := 1) dL_law_2660 rfl rfl ?_
  refine ev_aload_n (j := 3) dL_law_2661 rfl rfl ?_
  refine el_callSH (n := 2) (As := [rr G 0 0 0, rr G 9 0 0]) (st := []) mfL_readTrips mlL_272 dL_law_2662 rfl rfl (by decide) (by decide) (by omega) (by omega) (Nat.le_of_ble_eq_true rfl) (w_readTrips hN h) (fun r M1 o => ?_)
  obtain ⟨c, v, rfl, hc, hv, nq⟩ := o
  refine ev_istore dL_law_2665 (by decide) rfl ?_
  refine ev_aload_n (j := 3) dL_law_2667 rfl rfl ?_
  refine el_callV (n := 0) (As := []) (st := []) mfX12_readTrips mlL_274 dL_law_2668 rfl dm8_0 en8_0 rfl rfl rfl (by decide) (by decide) (by decide) (by omega) (by omega) (Nat.le_of_ble_eq_true rfl) nq (fun r M2 o2 => ?_)
  obtain ⟨⟨bb, rfl, hbb⟩, e7, e9, hR⟩ := o2
  refine ev_istore dL_law_2671 (by decide) rfl ?_
  refine ev_aload_n (j := 4) dL_law_2673 rfl rfl ?_
  refine el_callV (n := 0) (As := []) (st := []) (K' := fun r M9 => r = [iv c] ∧ M2 = M9) mfX12_thrown mlL_152 dL_law_2674 rfl dm8_0 en8_0 rfl rfl rfl (by decide) (by decide) (by decide) (by omega) (by omega) (Nat.le_of_ble_eq_true rfl) (bX12_thrown ⟨by rw [e7], rfl⟩) (fun r M3 o3 => ?_)
  obtain ⟨rfl, rfl⟩ := o3
  refine ev_iload (j := 1) dL_law_2677 rfl ?_
  refine evx_icmpeq 2684 dL_law_2679 (by decide) (fun _ => ?_) (fun w => absurd rfl w)
  refine ev_iload (j := 1) dL_law_2684 rfl ?_
  have done : EvL G b (u + 4) 2701 [(7, iv bb), (6, iv c), (0, .ref b), (1, rr G 0 0 0), (2, rr G 8 0 0), (3, rr G 9 0 0), (4, rr G 9 0 1), (5, iv i)] [] M2 := ev_goto 2796 dL_law_2701 (by decide) (ev_sub [2, 3, 4, 5, 6, 7] rfl (kk _ hR))
  refine evx_ne 2701 dL_law_2686 (by decide) (fun _ => done) (fun z => ?_)
  have c0 : c = 0 := (J_eq ⟨by omega, by omega⟩ I32_0).mp z
  refine ev_aload_n (j := 5) dL_law_2689 rfl rfl ?_
  refine ev_iconst dL_law_2690 ?_
  refine ev_lald dL_law_2691 ?_
  refine ev_iload (j := 0) dL_law_2692 rfl ?_
  refine ev_i2l dL_law_2694 ?_
  refine ev_lcmp0 (by rw [e9, hv c0, hbb c0]; rfl) dL_law_2695 ?_
  exact evx_eq 2701 dL_law_2696 (by decide) (fun _ => done) (fun w => absurd rfl w)
theorem lc_37 (hN : NC G) (hX : va_X b L xs (s0G G) (s0G G).heap) (hb : b < bG G) (hL : L ≤ 2560) (i0 : 0 ≤ i) (i1 : i + 5 ≤ L) (hu : u ≤ 600000) (h : Rel M) (kk : ∀ M', Rel M' → EvL G b (u + 4) 2796 (LW G b i) [] M') : EvL G b u 2704 (LW G b i) [] M := by
  refine ev_aload_n (j := 1) dL_law_2704 rfl rfl ?_
  refine el_callV (n := 0) (As := []) (st := []) mfX11_faultPosition mlL_275 dL_law_2705 rfl dm0_0 en0_0 rfl rfl rfl (by decide) (by decide) (by decide) (by omega) (by omega) (Nat.le_of_ble_eq_true rfl) (s_faultPosition h) (fun r M1 o => ?_)
  obtain ⟨v, rfl, nx⟩ := o
  have nq := nx _ Ex9.rf
  refine ev_aload_n (j := 2) dL_law_2708 rfl rfl ?_
  refine el_callV (n := 0) (As := []) (st := [iv v]) mfX12_faultPosition mlL_278 dL_law_2709 rfl dm8_0 en8_0 rfl rfl rfl (by decide) (by decide) (by decide) (by omega) (by omega) (Nat.le_of_ble_eq_true rfl) nq (fun r M2 o2 => ?_)
  obtain ⟨⟨bb, rfl, hbb⟩, e7, e9, hR⟩ := o2
  rw [hbb rfl]
  exact evx_icmpeq 2796 dL_law_2712 (by decide) (fun _ => ev_mono (by omega) (ev_sub [0, 1, 2, 3, 4, 5] rfl (kk _ hR))) (fun w => absurd rfl w)
theorem lc_38 (hN : NC G) (hX : va_X b L xs (s0G G) (s0G G).heap) (hb : b < bG G) (hL : L ≤ 2560) (i0 : 0 ≤ i) (i1 : i + 5 ≤ L) (hu : u ≤ 600000) (h : Rel M) (kk : ∀ M', Rel M' → EvL G b (u + 4) 2796 (LW G b i) [] M') : EvL G b u 2717 (LW G b i) [] M := by
  refine ev_aload_n (j := 1) dL_law_2717 rfl rfl ?_
  refine ev_aload_n (j := 3) dL_law_2718 rfl rfl ?_
  refine el_callSH (n := 2) (As := [rr G 0 0 0, rr G 9 0 0]) (st := []) mfL_undo mlL_279 dL_law_2719 rfl rfl (by decide) (by decide) (by omega) (by omega) (Nat.le_of_ble_eq_true rfl) (w_undo hN h) (fun r M1 o => ?_)
  obtain ⟨c, v, rfl, hc, hv, nq⟩ := o
  refine ev_istore dL_law_2722 (by decide) rfl ?_
  refine ev_aload_n (j := 3) dL_law_2724 rfl rfl ?_
  refine el_callV (n := 0) (As := []) (st := []) mfX12_undo mlL_281 dL_law_2725 rfl dm8_0 en8_0 rfl rfl rfl (by decide) (by decide) (by decide) (by omega) (by omega) (Nat.le_of_ble_eq_true rfl) nq (fun r M2 o2 => ?_)
  obtain ⟨⟨bb, rfl, hbb⟩, e7, e9, hR⟩ := o2
  refine ev_istore dL_law_2728 (by decide) rfl ?_
  refine ev_aload_n (j := 4) dL_law_2730 rfl rfl ?_
  refine el_callV (n := 0) (As := []) (st := []) (K' := fun r M9 => r = [iv c] ∧ M2 = M9) mfX12_thrown mlL_152 dL_law_2731 rfl dm8_0 en8_0 rfl rfl rfl (by decide) (by decide) (by decide) (by omega) (by omega) (Nat.le_of_ble_eq_true rfl) (bX12_thrown ⟨by rw [e7], rfl⟩) (fun r M3 o3 => ?_)
  obtain ⟨rfl, rfl⟩ := o3
  refine ev_iload (j := 1) dL_law_2734 rfl ?_
  refine evx_icmpeq 2741 dL_law_2736 (by decide) (fun _ => ?_) (fun w => absurd rfl w)
  refine ev_iload (j := 1) dL_law_2741 rfl ?_
  have done : EvL G b (u + 4) 2758 [(7, iv bb), (6, iv c), (0, .ref b), (1, rr G 0 0 0), (2, rr G 8 0 0), (3, rr G 9 0 0), (4, rr G 9 0 1), (5, iv i)] [] M2 := ev_goto 2796 dL_law_2758 (by decide) (ev_sub [2, 3, 4, 5, 6, 7] rfl (kk _ hR))
  refine evx_ne 2758 dL_law_2743 (by decide) (fun _ => done) (fun z => ?_)
  have c0 : c = 0 := (J_eq ⟨by omega, by omega⟩ I32_0).mp z
  refine ev_aload_n (j := 5) dL_law_2746 rfl rfl ?_
  refine ev_iconst dL_law_2747 ?_
  refine ev_lald dL_law_2748 ?_
  refine ev_iload (j := 0) dL_law_2749 rfl ?_
  refine ev_i2l dL_law_2751 ?_
  refine ev_lcmp0 (by rw [e9, hv c0, hbb c0]; rfl) dL_law_2752 ?_
  exact evx_eq 2758 dL_law_2753 (by decide) (fun _ => done) (fun w => absurd rfl w)
theorem lc_39 (hN : NC G) (hX : va_X b L xs (s0G G) (s0G G).heap) (hb : b < bG G) (hL : L ≤ 2560) (i0 : 0 ≤ i) (i1 : i + 5 ≤ L) (hu : u ≤ 600000) (h : Rel M) (kk : ∀ M', Rel M' → EvL G b (u + 4) 2796 (LW G b i) [] M') : EvL G b u 2761 (LW G b i) [] M := by
  refine ev_aload_n (j := 1) dL_law_2761 rfl rfl ?_
  refine el_callV (n := 0) (As := []) (st := []) mfX11_save mlL_282 dL_law_2762 rfl dm0_0 en0_0 rfl rfl rfl (by decide) (by decide) (by decide) (by omega) (by omega) (Nat.le_of_ble_eq_true rfl) (s_save h) (fun r M1 o => ?_)
  obtain ⟨rfl, nx⟩ := o
  have nq := nx _ Ex9.rf
  refine ev_aload_n (j := 2) dL_law_2765 rfl rfl ?_
  refine el_callV (n := 0) (As := []) (st := []) mfX12_save mlL_285 dL_law_2766 rfl dm8_0 en8_0 rfl rfl rfl (by decide) (by decide) (by decide) (by omega) (by omega) (Nat.le_of_ble_eq_true rfl) nq (fun r M2 o2 => ?_)
  obtain ⟨rfl, e7, e9, hR⟩ := o2
  exact ev_goto 2796 dL_law_2769 (by decide) (ev_mono (by omega) (ev_sub [0, 1, 2, 3, 4, 5] rfl (kk _ hR)))
theorem lc_40 (hN : NC G) (hX : va_X b L xs (s0G G) (s0G G).heap) (hb : b < bG G) (hL : L ≤ 2560) (i0 : 0 ≤ i) (i1 : i + 5 ≤ L) (hu : u ≤ 600000) (h : Rel M) (kk : ∀ M', Rel M' → EvL G b (u + 4) 2796 (LW G b i) [] M') : EvL G b u 2772 (LW G b i) [] M := by
  refine ev_aload_n (j := 1) dL_law_2772 rfl rfl ?_
  refine el_callSH (n := 1) (As := [rr G 0 0 0]) (st := []) mfL_restore mlL_286 dL_law_2773 rfl rfl (by decide) (by decide) (by omega) (by omega) (Nat.le_of_ble_eq_true rfl) (w_restore hN h) (fun r M1 o => ?_)
  obtain ⟨c, rfl, hc, nq⟩ := o
  refine ev_istore dL_law_2776 (by decide) rfl ?_
  refine ev_aload_n (j := 3) dL_law_2778 rfl rfl ?_
  refine el_callV (n := 0) (As := []) (st := []) mfX12_restore mlL_289 dL_law_2779 rfl dm8_0 en8_0 rfl rfl rfl (by decide) (by decide) (by decide) (by omega) (by omega) (Nat.le_of_ble_eq_true rfl) nq (fun r M2 o2 => ?_)
  obtain ⟨rfl, e7, e9, hR⟩ := o2
  refine ev_aload_n (j := 3) dL_law_2782 rfl rfl ?_
  refine el_callV (n := 0) (As := []) (st := []) (K' := fun r M9 => r = [iv c] ∧ M2 = M9) mfX12_thrown mlL_152 dL_law_2783 rfl dm8_0 en8_0 rfl rfl rfl (by decide) (by decide) (by decide) (by omega) (by omega) (Nat.le_of_ble_eq_true rfl) (bX12_thrown ⟨by rw [e7], rfl⟩) (fun r M3 o3 => ?_)
  obtain ⟨rfl, rfl⟩ := o3
  refine ev_iload (j := 0) dL_law_2786 rfl ?_
  refine evx_icmpeq 2793 dL_law_2788 (by decide) (fun _ => ?_) (fun w => absurd rfl w)
  exact ev_goto 2796 dL_law_2793 (by decide) (ev_sub [1, 2, 3, 4, 5, 6] rfl (kk _ hR))
end Lc
