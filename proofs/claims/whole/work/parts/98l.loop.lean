/-! ===== the law's loop ===== -/
section Ll
variable {G : GT} {b L : Nat} {xs : Nat → Int32}
theorem ev_sld0 {u pc : Nat} {lv : List (Nat × Value)} {st : List Value} {M : Mem} {i : Int} (hX : va_X b L xs (s0G G) (s0G G).heap) (hb : b < bG G) (hL : L ≤ 2560) (k0 : 0 ≤ i) (k1 : i < (L : Int)) (dd : decode (yC zL_law) pc = .ok (.iaload, 1)) (k : EvL G b u (pc + 1) lv (iv (ax xs i 0) :: st) M) : EvL G b u pc lv (iv i :: .ref b :: st) M := by
  have h := ev_sld (n := 0) hX hb hL (by omega) (by omega) dd k
  rw [Int.add_zero] at h
  exact h
/-- one of the cases -/
theorem law_case (hN : NC G) (hX : va_X b L xs (s0G G) (s0G G).heap) (hb : b < bG G) (hL : L ≤ 2560) {i : Int} (i0 : 0 ≤ i) (i1 : i + 5 ≤ L) {u : Nat} {M : Mem} (hu : u ≤ 600000) (h : Rel M) (kk : ∀ M', Rel M' → EvL G b (u + 4) 2796 (LW G b i) [] M') (j : Nat) (o : Int) (ho : (#[180, 260, 351, 419, 499, 590, 658, 726, 782, 890, 958, 1054, 1143, 1199, 1267, 1347, 1391, 1459, 1515, 1595, 1663, 1731, 1799, 1879, 1935, 2031, 2087, 2143, 2211, 2276, 2344, 2412, 2453, 2509, 2565, 2578, 2616, 2660, 2673, 2717, 2728] : Array Int)[j]? = some o) (tgt : Nat) (ht : (44 : Int) + o = (tgt : Int)) : EvL G b u tgt (LW G b i) [] M := by
  have hj : j < 41 := by
    obtain ⟨w, -⟩ := Array.getElem?_eq_some_iff.mp ho
    exact w
  match j, hj with
  | 0, _ =>
    have e : (180 : Int) = o := Option.some.inj (show some (180 : Int) = some o from ho)
    have et : tgt = 224 := by omega
    subst et
    exact lc_0 hN hX hb hL i0 i1 hu h kk
  | 1, _ =>
    have e : (260 : Int) = o := Option.some.inj (show some (260 : Int) = some o from ho)
    have et : tgt = 304 := by omega
    subst et
    exact lc_1 hN hX hb hL i0 i1 hu h kk
  | 2, _ =>
    have e : (351 : Int) = o := Option.some.inj (show some (351 : Int) = some o from ho)
    have et : tgt = 395 := by omega
    subst et
    exact lc_2 hN hX hb hL i0 i1 hu h kk
  | 3, _ =>
    have e : (419 : Int) = o := Option.some.inj (show some (419 : Int) = some o from ho)
    have et : tgt = 463 := by omega
    subst et
    exact lc_3 hN hX hb hL i0 i1 hu h kk
  | 4, _ =>
    have e : (499 : Int) = o := Option.some.inj (show some (499 : Int) = some o from ho)
    have et : tgt = 543 := by omega
    subst et
    exact lc_4 hN hX hb hL i0 i1 hu h kk
  | 5, _ =>
    have e : (590 : Int) = o := Option.some.inj (show some (590 : Int) = some o from ho)
    have et : tgt = 634 := by omega
    subst et
    exact lc_5 hN hX hb hL i0 i1 hu h kk
  | 6, _ =>
    have e : (658 : Int) = o := Option.some.inj (show some (658 : Int) = some o from ho)
    have et : tgt = 702 := by omega
    subst et
    exact lc_6 hN hX hb hL i0 i1 hu h kk
  | 7, _ =>
    have e : (726 : Int) = o := Option.some.inj (show some (726 : Int) = some o from ho)
    have et : tgt = 770 := by omega
    subst et
    exact lc_7 hN hX hb hL i0 i1 hu h kk
  | 8, _ =>
    have e : (782 : Int) = o := Option.some.inj (show some (782 : Int) = some o from ho)
    have et : tgt = 826 := by omega
    subst et
    exact lc_8 hN hX hb hL i0 i1 hu h kk
  | 9, _ =>
    have e : (890 : Int) = o := Option.some.inj (show some (890 : Int) = some o from ho)
    have et : tgt = 934 := by omega
    subst et
    exact lc_9 hN hX hb hL i0 i1 hu h kk
  | 10, _ =>
    have e : (958 : Int) = o := Option.some.inj (show some (958 : Int) = some o from ho)
    have et : tgt = 1002 := by omega
    subst et
    exact lc_10 hN hX hb hL i0 i1 hu h kk
  | 11, _ =>
    have e : (1054 : Int) = o := Option.some.inj (show some (1054 : Int) = some o from ho)
    have et : tgt = 1098 := by omega
    subst et
    exact lc_11 hN hX hb hL i0 i1 hu h kk
  | 12, _ =>
    have e : (1143 : Int) = o := Option.some.inj (show some (1143 : Int) = some o from ho)
    have et : tgt = 1187 := by omega
    subst et
    exact lc_12 hN hX hb hL i0 i1 hu h kk
  | 13, _ =>
    have e : (1199 : Int) = o := Option.some.inj (show some (1199 : Int) = some o from ho)
    have et : tgt = 1243 := by omega
    subst et
    exact lc_13 hN hX hb hL i0 i1 hu h kk
  | 14, _ =>
    have e : (1267 : Int) = o := Option.some.inj (show some (1267 : Int) = some o from ho)
    have et : tgt = 1311 := by omega
    subst et
    exact lc_14 hN hX hb hL i0 i1 hu h kk
  | 15, _ =>
    have e : (1347 : Int) = o := Option.some.inj (show some (1347 : Int) = some o from ho)
    have et : tgt = 1391 := by omega
    subst et
    exact lc_15 hN hX hb hL i0 i1 hu h kk
  | 16, _ =>
    have e : (1391 : Int) = o := Option.some.inj (show some (1391 : Int) = some o from ho)
    have et : tgt = 1435 := by omega
    subst et
    exact lc_16 hN hX hb hL i0 i1 hu h kk
  | 17, _ =>
    have e : (1459 : Int) = o := Option.some.inj (show some (1459 : Int) = some o from ho)
    have et : tgt = 1503 := by omega
    subst et
    exact lc_17 hN hX hb hL i0 i1 hu h kk
  | 18, _ =>
    have e : (1515 : Int) = o := Option.some.inj (show some (1515 : Int) = some o from ho)
    have et : tgt = 1559 := by omega
    subst et
    exact lc_18 hN hX hb hL i0 i1 hu h kk
  | 19, _ =>
    have e : (1595 : Int) = o := Option.some.inj (show some (1595 : Int) = some o from ho)
    have et : tgt = 1639 := by omega
    subst et
    exact lc_19 hN hX hb hL i0 i1 hu h kk
  | 20, _ =>
    have e : (1663 : Int) = o := Option.some.inj (show some (1663 : Int) = some o from ho)
    have et : tgt = 1707 := by omega
    subst et
    exact lc_20 hN hX hb hL i0 i1 hu h kk
  | 21, _ =>
    have e : (1731 : Int) = o := Option.some.inj (show some (1731 : Int) = some o from ho)
    have et : tgt = 1775 := by omega
    subst et
    exact lc_21 hN hX hb hL i0 i1 hu h kk
  | 22, _ =>
    have e : (1799 : Int) = o := Option.some.inj (show some (1799 : Int) = some o from ho)
    have et : tgt = 1843 := by omega
    subst et
    exact lc_22 hN hX hb hL i0 i1 hu h kk
  | 23, _ =>
    have e : (1879 : Int) = o := Option.some.inj (show some (1879 : Int) = some o from ho)
    have et : tgt = 1923 := by omega
    subst et
    exact lc_23 hN hX hb hL i0 i1 hu h kk
  | 24, _ =>
    have e : (1935 : Int) = o := Option.some.inj (show some (1935 : Int) = some o from ho)
    have et : tgt = 1979 := by omega
    subst et
    exact lc_24 hN hX hb hL i0 i1 hu h kk
  | 25, _ =>
    have e : (2031 : Int) = o := Option.some.inj (show some (2031 : Int) = some o from ho)
    have et : tgt = 2075 := by omega
    subst et
    exact lc_25 hN hX hb hL i0 i1 hu h kk
  | 26, _ =>
    have e : (2087 : Int) = o := Option.some.inj (show some (2087 : Int) = some o from ho)
    have et : tgt = 2131 := by omega
    subst et
    exact lc_26 hN hX hb hL i0 i1 hu h kk
  | 27, _ =>
    have e : (2143 : Int) = o := Option.some.inj (show some (2143 : Int) = some o from ho)
    have et : tgt = 2187 := by omega
    subst et
    exact lc_27 hN hX hb hL i0 i1 hu h kk
  | 28, _ =>
    have e : (2211 : Int) = o := Option.some.inj (show some (2211 : Int) = some o from ho)
    have et : tgt = 2255 := by omega
    subst et
    exact lc_28 hN hX hb hL i0 i1 hu h kk
  | 29, _ =>
    have e : (2276 : Int) = o := Option.some.inj (show some (2276 : Int) = some o from ho)
    have et : tgt = 2320 := by omega
    subst et
    exact lc_29 hN hX hb hL i0 i1 hu h kk
  | 30, _ =>
    have e : (2344 : Int) = o := Option.some.inj (show some (2344 : Int) = some o from ho)
    have et : tgt = 2388 := by omega
    subst et
    exact lc_30 hN hX hb hL i0 i1 hu h kk
  | 31, _ =>
    have e : (2412 : Int) = o := Option.some.inj (show some (2412 : Int) = some o from ho)
    have et : tgt = 2456 := by omega
    subst et
    exact lc_31 hN hX hb hL i0 i1 hu h kk
  | 32, _ =>
    have e : (2453 : Int) = o := Option.some.inj (show some (2453 : Int) = some o from ho)
    have et : tgt = 2497 := by omega
    subst et
    exact lc_32 hN hX hb hL i0 i1 hu h kk
  | 33, _ =>
    have e : (2509 : Int) = o := Option.some.inj (show some (2509 : Int) = some o from ho)
    have et : tgt = 2553 := by omega
    subst et
    exact lc_33 hN hX hb hL i0 i1 hu h kk
  | 34, _ =>
    have e : (2565 : Int) = o := Option.some.inj (show some (2565 : Int) = some o from ho)
    have et : tgt = 2609 := by omega
    subst et
    exact lc_34 hN hX hb hL i0 i1 hu h kk
  | 35, _ =>
    have e : (2578 : Int) = o := Option.some.inj (show some (2578 : Int) = some o from ho)
    have et : tgt = 2622 := by omega
    subst et
    exact lc_35 hN hX hb hL i0 i1 hu h kk
  | 36, _ =>
    have e : (2616 : Int) = o := Option.some.inj (show some (2616 : Int) = some o from ho)
    have et : tgt = 2660 := by omega
    subst et
    exact lc_36 hN hX hb hL i0 i1 hu h kk
  | 37, _ =>
    have e : (2660 : Int) = o := Option.some.inj (show some (2660 : Int) = some o from ho)
    have et : tgt = 2704 := by omega
    subst et
    exact lc_37 hN hX hb hL i0 i1 hu h kk
  | 38, _ =>
    have e : (2673 : Int) = o := Option.some.inj (show some (2673 : Int) = some o from ho)
    have et : tgt = 2717 := by omega
    subst et
    exact lc_38 hN hX hb hL i0 i1 hu h kk
  | 39, _ =>
    have e : (2717 : Int) = o := Option.some.inj (show some (2717 : Int) = some o from ho)
    have et : tgt = 2761 := by omega
    subst et
    exact lc_39 hN hX hb hL i0 i1 hu h kk
  | 40, _ =>
    have e : (2728 : Int) = o := Option.some.inj (show some (2728 : Int) = some o from ho)
    have et : tgt = 2772 := by omega
    subst et
    exact lc_40 hN hX hb hL i0 i1 hu h kk
  | n + 41, q => exact absurd q (by omega)
theorem law_loop (hN : NC G) (hX : va_X b L xs (s0G G) (s0G G).heap) (hb : b < bG G) (hL : L ≤ 2560) : ∀ n : Nat, ∀ (i : Int) (u : Nat) (M : Mem), Rel M → 0 ≤ i → i ≤ L + 5 → (u : Int) ≤ 590000 + i → (L : Int) - i < n → EvL G b u 28 (LW G b i) [] M := by
  intro n
  induction n with
  | zero =>
    intro i u M hR i0 i1 hu hn
    refine ev_iload (j := 5) dL_law_28 rfl ?_
    refine ev_aload_n (j := 0) dL_law_30 rfl rfl ?_
    refine ev_slen hX hb dL_law_31 ?_
    refine ev_iconst dL_law_32 ?_
    refine ev_isub dL_law_33 ?_
    refine ev_icmp_gt 2802 dL_law_34 (by decide) ⟨by omega, by omega⟩ ⟨by omega, by omega⟩ (fun _ => ?_) (fun z => absurd (show (L : Int) - 5 < i by omega) z)
    refine ev_iconst dL_law_2802 ?_
    exact ev_true (by omega) (by omega) dL_law_2803
  | succ n ih =>
    intro i u M hR i0 i1 hu hn
    refine ev_iload (j := 5) dL_law_28 rfl ?_
    refine ev_aload_n (j := 0) dL_law_30 rfl rfl ?_
    refine ev_slen hX hb dL_law_31 ?_
    refine ev_iconst dL_law_32 ?_
    refine ev_isub dL_law_33 ?_
    refine ev_icmp_gt 2802 dL_law_34 (by decide) ⟨by omega, by omega⟩ ⟨by omega, by omega⟩ (fun _ => ?_) (fun z => ?_)
    · refine ev_iconst dL_law_2802 ?_
      exact ev_true (by omega) (by omega) dL_law_2803
    · refine ev_aload_n (j := 0) dL_law_37 rfl rfl ?_
      refine ev_iload (j := 5) dL_law_38 rfl ?_
      refine ev_sld0 hX hb hL i0 (by omega) dL_law_40 ?_
      refine ev_bipush dL_law_41 (by decide) ?_
      have ez : J (ax xs i 0) &&& J 63 = J ((J (ax xs i 0) &&& J 63).toInt) := (J_of _).symm
      refine ev_iandV dL_law_43 ez ?_
      have fin : ∀ M', Rel M' → EvL G b (u + 4) 2796 (LW G b i) [] M' := fun M' h' => by
        refine ev_iinc (j := 5) dL_law_2796 rfl (by decide) rfl ?_
        refine ev_goto 28 dL_law_2799 (by decide) ?_
        refine ev_sub [1, 2, 3, 4, 5, 0] rfl ?_
        exact ih (i + 5) (u + 4) M' h' (by omega) (by omega) (by omega) (by omega)
      refine ev_tsw dL_law_44 (I32_of _) (by decide) (fun j o ho _ tgt ht _ => law_case hN hX hb hL i0 (by omega) (by omega) hR fin j o ho tgt ht) (fun j o ho => ?_) (fun _ tgt ht => ?_) (by decide)
      · have hall : ∀ j : Nat, j < 41 → ∀ o : Int, (#[180, 260, 351, 419, 499, 590, 658, 726, 782, 890, 958, 1054, 1143, 1199, 1267, 1347, 1391, 1459, 1515, 1595, 1663, 1731, 1799, 1879, 1935, 2031, 2087, 2143, 2211, 2276, 2344, 2412, 2453, 2509, 2565, 2578, 2616, 2660, 2673, 2717, 2728] : Array Int)[j]? = some o → 0 ≤ (44 : Int) + o := by
          intro j hj o ho
          match j, hj with
          | 0, _ => have e : (180 : Int) = o := Option.some.inj (show some (180 : Int) = some o from ho); omega
          | 1, _ => have e : (260 : Int) = o := Option.some.inj (show some (260 : Int) = some o from ho); omega
          | 2, _ => have e : (351 : Int) = o := Option.some.inj (show some (351 : Int) = some o from ho); omega
          | 3, _ => have e : (419 : Int) = o := Option.some.inj (show some (419 : Int) = some o from ho); omega
          | 4, _ => have e : (499 : Int) = o := Option.some.inj (show some (499 : Int) = some o from ho); omega
          | 5, _ => have e : (590 : Int) = o := Option.some.inj (show some (590 : Int) = some o from ho); omega
          | 6, _ => have e : (658 : Int) = o := Option.some.inj (show some (658 : Int) = some o from ho); omega
          | 7, _ => have e : (726 : Int) = o := Option.some.inj (show some (726 : Int) = some o from ho); omega
          | 8, _ => have e : (782 : Int) = o := Option.some.inj (show some (782 : Int) = some o from ho); omega
          | 9, _ => have e : (890 : Int) = o := Option.some.inj (show some (890 : Int) = some o from ho); omega
          | 10, _ => have e : (958 : Int) = o := Option.some.inj (show some (958 : Int) = some o from ho); omega
          | 11, _ => have e : (1054 : Int) = o := Option.some.inj (show some (1054 : Int) = some o from ho); omega
          | 12, _ => have e : (1143 : Int) = o := Option.some.inj (show some (1143 : Int) = some o from ho); omega
          | 13, _ => have e : (1199 : Int) = o := Option.some.inj (show some (1199 : Int) = some o from ho); omega
          | 14, _ => have e : (1267 : Int) = o := Option.some.inj (show some (1267 : Int) = some o from ho); omega
          | 15, _ => have e : (1347 : Int) = o := Option.some.inj (show some (1347 : Int) = some o from ho); omega
          | 16, _ => have e : (1391 : Int) = o := Option.some.inj (show some (1391 : Int) = some o from ho); omega
          | 17, _ => have e : (1459 : Int) = o := Option.some.inj (show some (1459 : Int) = some o from ho); omega
          | 18, _ => have e : (1515 : Int) = o := Option.some.inj (show some (1515 : Int) = some o from ho); omega
          | 19, _ => have e : (1595 : Int) = o := Option.some.inj (show some (1595 : Int) = some o from ho); omega
          | 20, _ => have e : (1663 : Int) = o := Option.some.inj (show some (1663 : Int) = some o from ho); omega
          | 21, _ => have e : (1731 : Int) = o := Option.some.inj (show some (1731 : Int) = some o from ho); omega
          | 22, _ => have e : (1799 : Int) = o := Option.some.inj (show some (1799 : Int) = some o from ho); omega
          | 23, _ => have e : (1879 : Int) = o := Option.some.inj (show some (1879 : Int) = some o from ho); omega
          | 24, _ => have e : (1935 : Int) = o := Option.some.inj (show some (1935 : Int) = some o from ho); omega
          | 25, _ => have e : (2031 : Int) = o := Option.some.inj (show some (2031 : Int) = some o from ho); omega
          | 26, _ => have e : (2087 : Int) = o := Option.some.inj (show some (2087 : Int) = some o from ho); omega
          | 27, _ => have e : (2143 : Int) = o := Option.some.inj (show some (2143 : Int) = some o from ho); omega
          | 28, _ => have e : (2211 : Int) = o := Option.some.inj (show some (2211 : Int) = some o from ho); omega
          | 29, _ => have e : (2276 : Int) = o := Option.some.inj (show some (2276 : Int) = some o from ho); omega
          | 30, _ => have e : (2344 : Int) = o := Option.some.inj (show some (2344 : Int) = some o from ho); omega
          | 31, _ => have e : (2412 : Int) = o := Option.some.inj (show some (2412 : Int) = some o from ho); omega
          | 32, _ => have e : (2453 : Int) = o := Option.some.inj (show some (2453 : Int) = some o from ho); omega
          | 33, _ => have e : (2509 : Int) = o := Option.some.inj (show some (2509 : Int) = some o from ho); omega
          | 34, _ => have e : (2565 : Int) = o := Option.some.inj (show some (2565 : Int) = some o from ho); omega
          | 35, _ => have e : (2578 : Int) = o := Option.some.inj (show some (2578 : Int) = some o from ho); omega
          | 36, _ => have e : (2616 : Int) = o := Option.some.inj (show some (2616 : Int) = some o from ho); omega
          | 37, _ => have e : (2660 : Int) = o := Option.some.inj (show some (2660 : Int) = some o from ho); omega
          | 38, _ => have e : (2673 : Int) = o := Option.some.inj (show some (2673 : Int) = some o from ho); omega
          | 39, _ => have e : (2717 : Int) = o := Option.some.inj (show some (2717 : Int) = some o from ho); omega
          | 40, _ => have e : (2728 : Int) = o := Option.some.inj (show some (2728 : Int) = some o from ho); omega
          | n + 41, q => exact absurd q (by omega)
        obtain ⟨w, -⟩ := Array.getElem?_eq_some_iff.mp ho
        exact hall j w o ho
      · have et : tgt = 2796 := by omega
        subst et
        exact ev_mono (by omega) (fin M hR)
end Ll
