/-! ===== readTrips on both sides ===== -/
abbrev PRd (c k : Int) : Prop := c = 1 ∨ c = 3 ∨ c = 4 ∨ c = 23 ∨ (c = 0 ∧ (k = 5 ∨ k = 7 ∨ k = 33 ∨ k = 34 ∨ k = 35 ∨ k = 36 ∨ k = 38))
theorem addN_row {L : LFn} {F : T3} (n : Nat) {c : Int} (hc : c < 6 ∨ 10 < c) : addN L F n c = L c := by
  induction n with
  | zero => rfl
  | succ n ih =>
    show addA (addN L F n) _ _ _ c = L c
    unfold addA
    rw [up1_nc (by omega), up1_nc (by omega), up1_nc (by omega), up1_nc (by omega), up1_nc (by omega)]
    exact ih
theorem gl_addN {L : LFn} (g : GL L) (F : T3) (n : Nat) (hF : T3ok F n) (ho : ∀ x : Int, 0 ≤ x → x < (n : Int) → tripOK L (F.1 x) (F.2.1 x) (F.2.2 x)) (hn : L 6 4 + n ≤ 30) : GL (addN L F n) := by
  induction n with
  | zero => exact g
  | succ n ih =>
    have h := ih (fun x x0 x1 => hF x x0 (by omega)) (fun x x0 x1 => ho x x0 (by omega)) (by omega)
    have f := hF n (by omega) (by omega)
    have o := ho n (by omega) (by omega)
    have c := addN_cnt L F n
    refine gl_addA h f.1 f.2.1 ?_ (by omega)
    have e4 : addN L F n 4 = L 4 := addN_row n (by omega)
    show _ ≠ _ ∧ addN L F n 4 _ ≠ 0 ∧ addN L F n 4 _ ≠ 0 ∧ _ ∧ _
    rw [e4]
    exact o
theorem pr_px {M M' : Mem} (f : FrX PX9 M M') : FrX PRd M M' := f.mono (fun c k h => by
  rcases h with h | ⟨h1, h | h | h⟩
  · exact Or.inr (Or.inr (Or.inr (Or.inl h)))
  · exact Or.inr (Or.inr (Or.inr (Or.inr ⟨h1, Or.inr (Or.inr (Or.inr (Or.inl h)))⟩)))
  · exact Or.inr (Or.inr (Or.inr (Or.inr ⟨h1, Or.inr (Or.inr (Or.inr (Or.inr (Or.inl h))))⟩)))
  · exact Or.inr (Or.inr (Or.inr (Or.inr ⟨h1, Or.inr (Or.inr (Or.inr (Or.inr (Or.inr (Or.inr h)))))⟩))))
theorem txtN_ok (sg : Int → Int) {ln : Int} (m : Nat) : ∀ (n p : Int) (F : T3), 0 ≤ n → 0 ≤ p → p ≤ ln → T3ok F n → ((txtN sg ln m n p F).1 = 0 ∨ (txtN sg ln m n p F).1 = 1) ∧ (n ≤ (txtN sg ln m n p F).2.1 ∧ (txtN sg ln m n p F).2.1 ≤ n + m) ∧ T3ok (txtN sg ln m n p F).2.2.2 (txtN sg ln m n p F).2.1 ∧ 0 ≤ (txtN sg ln m n p F).2.2.1 ∧ (txtN sg ln m n p F).2.2.1 ≤ ln := by
  induction m with
  | zero =>
    intro n p F n0 p0 p1 hF
    exact ⟨Or.inr rfl, ⟨Int.le_refl _, by show n ≤ n + ((0 : Nat) : Int); omega⟩, hF, p0, p1⟩
  | succ m ih =>
    intro n p F n0 p0 p1 hF
    have tb := trp_bd sg p0 p1
    rw [txtN]
    split
    · exact ⟨Or.inl rfl, ⟨Int.le_refl _, by show n ≤ n + ((m + 1 : Nat) : Int); omega⟩, hF, by show 0 ≤ (trp sg ln p).2.1; omega, tb.1.2⟩
    · have t9 : p + 6 ≤ (trp sg ln p).2.1 ∧ (0 ≤ (trp sg ln p).2.2.1 ∧ (trp sg ln p).2.2.1 ≤ 11) ∧ (0 ≤ (trp sg ln p).2.2.2.1 ∧ (trp sg ln p).2.2.2.1 ≤ 11) ∧ 0 ≤ (trp sg ln p).2.2.2.2 ∧ (trp sg ln p).2.2.2.2 ≤ 1439 := by
        rcases tb.2 with w | w
        · rename_i h; exact absurd w h
        · exact w.2
      have up := hF.up n0 t9.2.1 t9.2.2.1 t9.2.2.2
      split
      · obtain ⟨a1, a2, a3, a4⟩ := ih (n + 1) (trp sg ln p).2.1 _ (by omega) (by omega) tb.1.2 up
        exact ⟨a1, ⟨by omega, by omega⟩, a3, a4⟩
      · exact ⟨Or.inr rfl, ⟨by show n ≤ n + 1; omega, by show n + 1 ≤ n + ((m + 1 : Nat) : Int); omega⟩, up, by show 0 ≤ (trp sg ln p).2.1; omega, tb.1.2⟩
section Rd
variable {G : GT} {K : List Value → Mem → Prop} {X : String → Mem → Prop} {M : Mem} {sg : Int → Int} {ln : Int} {L : LFn} {n : Int} {H : Int → LFn}
theorem pr_g {c : Int} {A B : Mem} (f : FrX PRd M A) (h : FrG c A B) (hc : c = 1 ∨ c = 3) : FrX PRd M B := fun a b c' k q => by
  rw [h a b c' (fun z => q ⟨z.1, z.2.1, by rcases hc with w | w; exact Or.inl (z.2.2.trans w); exact Or.inr (Or.inl (z.2.2.trans w))⟩)]
  exact f a b c' k q
theorem pr_1 {A B : Mem} (f : FrX PRd M A) (h : FrX P1 A B) : FrX PRd M B := f.tr (h.mono (fun c k hp => Or.inl hp))
theorem pr_p {A B : Mem} (f : FrX PRd M A) (h : FrP A B) : FrX PRd M B := fun a b c k q => by
  rw [h a b c k (fun z => q ⟨z.1, z.2.1, by rcases z.2.2 with w | w; exact Or.inr (Or.inr (Or.inl w)); exact Or.inr (Or.inr (Or.inr (Or.inr ⟨w.1, Or.inl w.2⟩)))⟩)]
  exact f a b c k q
theorem q_readTrips (F : T3) (hR : RG (M 8 0 1) L) (g : GL L) (hP : Pas M n H) (hwH : ∀ r, 0 ≤ r → r < n → WFn (H r)) (hT : TxM M sg ln) (hS : Sgn sg ln)
    (k1 : (txtN sg ln 10 0 0 F).1 = 0 → ∀ M', FrX PRd M M' → M' 8 0 0 7 = 1 → M' 8 0 0 33 = 0 → M' 8 0 0 36 = (txtN sg ln 10 0 0 F).2.2.1 → RG (M' 8 0 1) L → M' 8 0 0 5 = M 8 0 0 5 → M' 8 0 4 = M 8 0 4 → K [iv 0] M')
    (k2 : (txtN sg ln 10 0 0 F).1 = 1 → (30 < L 6 4 + (txtN sg ln 10 0 0 F).2.1 ∨ txOK L (txtN sg ln 10 0 0 F).2.2.2 (txtN sg ln 10 0 0 F).2.1 = 0) → ∀ M', FrX PRd M M' → M' 8 0 0 7 = 2 → M' 8 0 0 33 = 0 → M' 8 0 0 36 = -1 → RG (M' 8 0 1) L → M' 8 0 0 5 = M 8 0 0 5 → M' 8 0 4 = M 8 0 4 → K [iv 0] M')
    (k0 : (txtN sg ln 10 0 0 F).1 = 1 → ¬ 30 < L 6 4 + (txtN sg ln 10 0 0 F).2.1 → txOK L (txtN sg ln 10 0 0 F).2.2.2 (txtN sg ln 10 0 0 F).2.1 ≠ 0 → ∀ M', FrX PRd M M' → M' 8 0 0 7 = 0 → M' 8 0 0 33 = 0 → M' 8 0 0 36 = -1 → RG (M' 8 0 1) (addN L (txtN sg ln 10 0 0 F).2.2.2 (txtN sg ln 10 0 0 F).2.1.toNat) → Pas M' (pushN n) (pushH n H L) → K [iv (txtN sg ln 10 0 0 F).2.1] M') : Call G 4 0 zX12_readTrips [rr G 8 0 0] M K X := by
  have hn := g.1.1.1
  have w0 : FrX PRd M (wr M 8 0 0 7 0) := FrX.wr FrX.rf (show PRd 0 7 from Or.inr (Or.inr (Or.inr (Or.inr ⟨rfl, Or.inr (Or.inl rfl)⟩)))) 0
  have w33 : ∀ {N : Mem} (v : Int), FrX PRd M N → FrX PRd M (wr N 8 0 0 33 v) := fun v f => FrX.wr f (show PRd 0 33 from Or.inr (Or.inr (Or.inr (Or.inr ⟨rfl, Or.inr (Or.inr (Or.inl rfl))⟩)))) v
  have w36 : ∀ {N : Mem} (v : Int), FrX PRd M N → FrX PRd M (wr N 8 0 0 36 v) := fun v f => FrX.wr f (show PRd 0 36 from Or.inr (Or.inr (Or.inr (Or.inr ⟨rfl, Or.inr (Or.inr (Or.inr (Or.inr (Or.inr (Or.inl rfl)))))⟩)))) v
  have w7 : ∀ {N : Mem} (v : Int), FrX PRd M N → FrX PRd M (wr N 8 0 0 7 v) := fun v f => FrX.wr f (show PRd 0 7 from Or.inr (Or.inr (Or.inr (Or.inr ⟨rfl, Or.inr (Or.inl rfl)⟩)))) v
  have hT0 : TxM (wr M 8 0 0 7 0) sg ln := ⟨hT.1, by rw [wr_nk (by omega)]; exact hT.2.1, fun k k0 k1 => by rw [wr_nc (by omega)]; exact hT.2.2 k k0 k1⟩
  obtain ⟨h01, hcc, hF3, -⟩ := txtN_ok sg (ln := ln) 10 0 0 F (by omega) (by omega) hT.1.1 (fun x x0 x1 => absurd x1 (by omega))
  generalize hRR : txtN sg ln 10 0 0 F = R at *
  refine bX12_readTrips (m_isText F hT0 hS (fun z M1 f1 s1 => kI_mk ⟨i32 (by omega), fun _ => bX12_fails (kI_mk ?_), fun y => absurd rfl y⟩) (fun z M1 f1 c1 t1 => kI_mk ⟨i32 (by omega), fun y => absurd y (by decide), fun _ => ?_⟩))
  · rw [hRR] at z s1
    have fA : FrX PRd M M1 := w0.tr (pr_px f1)
    refine k1 z _ (w7 _ (w36 _ (w33 _ fA))) (wr_at _ _ _ _ _ _) ?_ ?_ ?_ ?_ ?_
    · rw [wr_nk (by omega), wr_nk (by omega), wr_at]
    · rw [wr_nk (by omega), wr_at]; exact s1
    · rw [wr_nc (by omega), wr_nc (by omega), wr_nc (by omega), frx_row f1 (fun k => by show ¬ (_ ∨ _); omega), wr_nc (by omega)]; exact hR
    · rw [wr_nk (by omega), wr_nk (by omega), wr_nk (by omega), frx_at f1 (by show ¬ (_ ∨ _); omega), wr_nk (by omega)]
    · rw [wr_nc (by omega), wr_nc (by omega), wr_nc (by omega), frx_row f1 (fun k => by show ¬ (_ ∨ _); omega), wr_nc (by omega)]
  · rw [hRR] at z c1 t1
    have hc : 0 ≤ R.2.1 ∧ R.2.1 ≤ 10 := ⟨by omega, by omega⟩
    clear hcc
    generalize hF' : R.2.2.2 = F' at *
    generalize hc' : R.2.1 = cn at *
    have fA : FrX PRd M M1 := w0.tr (pr_px f1)
    have r1 : M1 8 0 1 = M 8 0 1 := (frx_row f1 (fun k => by show ¬ (_ ∨ _); omega)).trans (wr_nc (by omega))
    refine m_begins (L := L) (by rw [wr_nc (by omega), wr_nc (by omega), r1]; exact hR) g.1 (fun M2 f2 s2 => kV_mk ?_)
    have fB : FrX PRd M M2 := pr_g (w36 _ (w33 _ fA)) f2 (Or.inr rfl)
    have z2 : ∀ k, M2 8 0 0 k = wr (wr M1 8 0 0 33 0) 8 0 0 36 (-1) 8 0 0 k := fun k => congrFun (f2 8 0 0 (by omega)) k
    have a7 : M2 8 0 0 7 = 0 := by rw [z2, wr_nk (by omega), wr_nk (by omega), frx_at f1 (by show ¬ (_ ∨ _); omega), wr_at]
    have a33 : M2 8 0 0 33 = 0 := by rw [z2, wr_nk (by omega), wr_at]
    have a36 : M2 8 0 0 36 = -1 := by rw [z2, wr_at]
    have a38 : M2 8 0 0 38 = cn := by rw [z2, wr_nk (by omega), wr_nk (by omega)]; exact c1
    have a5 : M2 8 0 0 5 = M 8 0 0 5 := by rw [z2, wr_nk (by omega), wr_nk (by omega), frx_at f1 (by show ¬ (_ ∨ _); omega), wr_nk (by omega)]
    have a4 : M2 8 0 4 = M 8 0 4 := by rw [f2 8 0 4 (by omega), wr_nc (by omega), wr_nc (by omega), frx_row f1 (fun k => by show ¬ (_ ∨ _); omega), wr_nc (by omega)]
    have a23 : M2 8 0 23 = M1 8 0 23 := by rw [f2 8 0 23 (by omega), wr_nc (by omega), wr_nc (by omega)]
    have a1 : RG (M2 8 0 1) L := by rw [f2 8 0 1 (by omega), wr_nc (by omega), wr_nc (by omega), r1]; exact hR
    have gen := loop_up (E := fun x => 0 ≤ x → (∀ y, 0 ≤ y → y < x → tripOK L (F'.1 y) (F'.2.1 y) (F'.2.2 y)) → L 6 4 + x ≤ 30 → ∀ N : Mem, FrX P1 M2 N → RG (N 8 0 1) (addN L F' x.toNat) → eX12_readTrips G K X 47 [(0, rr G 8 0 0), (2, iv x)] [] N) (a := 0) (b := cn) hc.1 (fun x0 ho hx N fN rN => by
      have y0 : ∀ k, N 8 0 0 k = M2 8 0 0 k := fun k => frx_at fN (by show ¬ (_ = _); omega)
      refine bX12_readTrips_47 ⟨i32 (by omega), by rw [y0, a38]; exact i32 (by omega), fun _ => ?_, fun y => absurd y (by rw [y0, a38]; omega)⟩
      have hP' : Pas N n H := hP.keep (by rw [y0, a5]) (by rw [frx_row fN (fun k => by show ¬ (_ = _); omega), a4])
      refine m_remembers hP' (S := L) (by rw [frx_row fN (fun k => by show ¬ (_ = _); omega)]; exact s2) g.1 hwH (fun M3 f3 p3 => kV_mk ?_)
      have e3 : ∀ k, k ≠ 5 → M3 8 0 0 k = M2 8 0 0 k := fun k hk => (f3 8 0 0 k (by omega)).trans (y0 k)
      rw [e3 38 (by omega), a38]
      refine k0 z (by omega) ?_ M3 (pr_p (pr_1 fB fN) f3) (by rw [e3 7 (by omega), a7]) (by rw [e3 33 (by omega), a33]) (by rw [e3 36 (by omega), a36]) (by rw [f3.g (by omega)]; exact rN) p3
      have h1 : txOK L F' cn = 1 := (allT_iff (by omega)).mpr (fun y y0 y1 => by simp only [decide_eq_true_eq]; exact ho y y0 y1)
      omega) (fun x q1 q2 hn9 x0 ho hx N fN rN => by
      have y0 : ∀ k, N 8 0 0 k = M2 8 0 0 k := fun k => frx_at fN (by show ¬ (_ = _); omega)
      have y23 : N 8 0 23 = M1 8 0 23 := (frx_row fN (fun k => by show ¬ (_ = _); omega)).trans a23
      have f3 := hF3 x q1 q2
      have gN : GL (addN L F' x.toNat) := gl_addN g F' x.toNat (fun y y0 y1 => hF3 y y0 (by omega)) (fun y y0 y1 => ho y y0 (by omega)) (by omega)
      have cN := addN_cnt L F' x.toNat
      have e4 : addN L F' x.toNat 4 = L 4 := addN_row x.toNat (by omega)
      obtain ⟨b1, b2, b3⟩ := t1 x q1 q2
      refine bX12_readTrips_47 ⟨i32 (by omega), by rw [y0, a38]; exact i32 (by omega), fun y => absurd (by rw [y0, a38]; exact q2) y, fun _ => ⟨by omega, by omega, by omega, by omega, by omega, by omega, ?_⟩⟩
      rw [y23, b1, b2, b3]
      have hq : qAdd (addN L F' x.toNat) (F'.1 x) (F'.2.1 x) (F'.2.2 x) = if ¬ tripOK L (F'.1 x) (F'.2.1 x) (F'.2.2 x) then 2 else if L 6 4 + x = 30 then 3 else 0 := by
        have ot : tripOK (addN L F' x.toNat) (F'.1 x) (F'.2.1 x) (F'.2.2 x) ↔ tripOK L (F'.1 x) (F'.2.1 x) (F'.2.2 x) := by
          show (_ ∧ addN L F' x.toNat 4 _ ≠ 0 ∧ addN L F' x.toNat 4 _ ≠ 0 ∧ _ ∧ _) ↔ _
          rw [e4]
        unfold qAdd
        rw [if_neg (fun w => w f3.1), if_neg (fun w => w f3.2.1)]
        by_cases o : tripOK L (F'.1 x) (F'.2.1 x) (F'.2.2 x)
        · rw [if_neg (show ¬ ¬ tripOK (addN L F' x.toNat) (F'.1 x) (F'.2.1 x) (F'.2.2 x) from fun w => w (ot.mpr o)), if_neg (show ¬ ¬ tripOK L (F'.1 x) (F'.2.1 x) (F'.2.2 x) from fun w => w o), cN, show L 6 4 + ((x.toNat : Nat) : Int) = L 6 4 + x by omega]
        · rw [if_pos (show ¬ tripOK (addN L F' x.toNat) (F'.1 x) (F'.2.1 x) (F'.2.2 x) from fun w => o (ot.mp w)), if_pos o]
      refine m_tripStops rN gN.1.1 gN.1.2.1 (i32 (by omega)) (i32 (by omega)) (i32 (by omega)) (kI_mk ?_)
      rw [hq, y23, b1, b2, b3]
      by_cases o1 : tripOK L (F'.1 x) (F'.2.1 x) (F'.2.2 x)
      · rw [if_neg (fun w => w o1)]
        by_cases o2 : L 6 4 + x = 30
        · rw [if_pos o2]
          refine ⟨i32 (by omega), fun y => absurd (by decide) y, fun _ => m_copies dm8_3 ar8_3 dm8_1 ar8_1 (by decide) (fun M4 f4 c4 => kV_mk (bX12_fails (kI_mk ?_)))⟩
          have e0 : ∀ k, M4 8 0 0 k = M2 8 0 0 k := fun k => (congrFun (f4 8 0 0 (by omega)) k).trans (y0 k)
          refine k2 z (Or.inl (by omega)) _ (w7 _ (pr_g (pr_1 fB fN) f4 (Or.inl rfl))) (wr_at _ _ _ _ _ _) (by rw [wr_nk (by omega), e0, a33]) (by rw [wr_nk (by omega), e0, a36]) ?_ (by rw [wr_nk (by omega), e0, a5]) (by rw [wr_nc (by omega), f4 8 0 4 (by omega), frx_row fN (fun k => by show ¬ (_ = _); omega), a4])
          rw [wr_nc (by omega)]
          exact RG_eq g.1 (fun k k0 k1 => by rw [c4 k k0 k1, frx_row fN (fun k => by show ¬ (_ = _); omega)]) s2
        · rw [if_neg o2]
          refine ⟨i32 (by omega), fun _ => m_tripComes rN gN.1.1.1.1 (by omega) gN.1.2.2.1 gN.1.2.2.2 (fun M3 f3 r3 => kV_mk ?_), fun y => absurd y (by decide)⟩
          refine hn9 (by omega) (fun y y0 y1 => ?_) (by omega) M3 (fN.tr f3) ?_
          · by_cases hy : y = x
            · rw [hy]; exact o1
            · exact ho y y0 (by omega)
          · rw [show (x + 1).toNat = x.toNat + 1 by omega]
            show RG _ (addA (addN L F' x.toNat) (F'.1 (x.toNat : Int)) (F'.2.1 (x.toNat : Int)) (F'.2.2 (x.toNat : Int)))
            rw [show ((x.toNat : Nat) : Int) = x by omega]
            exact r3
      · rw [if_pos o1]
        refine ⟨i32 (by omega), fun y => absurd (by decide) y, fun _ => m_copies dm8_3 ar8_3 dm8_1 ar8_1 (by decide) (fun M4 f4 c4 => kV_mk (bX12_fails (kI_mk ?_)))⟩
        have e0 : ∀ k, M4 8 0 0 k = M2 8 0 0 k := fun k => (congrFun (f4 8 0 0 (by omega)) k).trans (y0 k)
        have h0 : txOK L F' cn = 0 := by
          rcases allT_01 (fun x => decide (tripOK L (F'.1 x) (F'.2.1 x) (F'.2.2 x))) 0 cn with w | w
          · exact w
          · have := (allT_iff (by omega)).mp w x q1 q2
            simp only [decide_eq_true_eq] at this
            exact absurd this o1
        refine k2 z (Or.inr h0) _ (w7 _ (pr_g (pr_1 fB fN) f4 (Or.inl rfl))) (wr_at _ _ _ _ _ _) (by rw [wr_nk (by omega), e0, a33]) (by rw [wr_nk (by omega), e0, a36]) ?_ (by rw [wr_nk (by omega), e0, a5]) (by rw [wr_nc (by omega), f4 8 0 4 (by omega), frx_row fN (fun k => by show ¬ (_ = _); omega), a4])
        rw [wr_nc (by omega)]
        exact RG_eq g.1 (fun k k0 k1 => by rw [c4 k k0 k1, frx_row fN (fun k => by show ¬ (_ = _); omega)]) s2)
    exact gen (by omega) (fun y y0 y1 => by omega) (by omega) M2 FrX.rf a1
/-- region 7 behind a reading -/
def Tx7 (M M' : Mem) (sg : Int → Int) (f : Int) : Prop := M' 7 0 0 1 = 0 ∧ M' 7 0 1 = sg ∧ M' 7 0 0 7 = f
theorem p_readTrips (hL : M 1 0 = L) (g : GL L) (hH : HI M) (hT : TxR M sg ln)
    (x1 : (txtN sg ln 10 0 0 (rowsT M)).1 = 0 → ∀ M', FrA 7 0 M M' → Tx7 M M' sg (txtN sg ln 10 0 0 (rowsT M)).2.2.1 → X eIA M')
    (x2 : (txtN sg ln 10 0 0 (rowsT M)).1 = 1 → (30 < L 6 4 + (txtN sg ln 10 0 0 (rowsT M)).2.1 ∨ txOK L (txtN sg ln 10 0 0 (rowsT M)).2.2.2 (txtN sg ln 10 0 0 (rowsT M)).2.1 = 0) → ∀ M', FrA 7 0 M M' → Tx7 M M' sg (-1) → X eIS M')
    (k0 : (txtN sg ln 10 0 0 (rowsT M)).1 = 1 → ¬ 30 < L 6 4 + (txtN sg ln 10 0 0 (rowsT M)).2.1 → txOK L (txtN sg ln 10 0 0 (rowsT M)).2.2.2 (txtN sg ln 10 0 0 (rowsT M)).2.1 ≠ 0 → ∀ M1 M', FrA 7 0 M M1 → Tx7 M M' sg (-1) → (∀ r i, r ≠ 1 → r ≠ 2 → M' r i = M1 r i) → (∀ i, (i < 3 ∨ 10 < i) → i ≠ 0 → M' 1 i = M1 1 i) → M' 1 0 = addN L (txtN sg ln 10 0 0 (rowsT M)).2.2.2 (txtN sg ln 10 0 0 (rowsT M)).2.1.toNat → Kept M M' L → K [iv (txtN sg ln 10 0 0 (rowsT M)).2.1] M') : Call G 8 1 zX11_readTrips [rr G 0 0 0] M K X := by
  obtain ⟨⟨ht, hm, hv, hbk⟩, hz, hU, hTd⟩ := id g
  have hn := ht.1
  refine bX11_readTrips (sp_parse hT (fun M1 f1 l1 s1 c1 r1 fa1 cb to h01 pb => kV_mk ?_))
  generalize txtN sg ln 10 0 0 (rowsT M) = R at *
  rw [fa1]
  have e1 : M1 1 = M 1 := funext fun b => f1 1 b (by omega)
  have e2 : M1 2 = M 2 := funext fun b => f1 2 b (by omega)
  have hL1 : M1 1 0 = L := by rw [e1]; exact hL
  have tx : Tx7 M M1 sg (if R.1 = 0 then R.2.2.1 else -1) := ⟨l1, s1, fa1⟩
  rcases h01 with z | z
  · rw [if_pos z] at tx ⊢
    refine ⟨i32 (by have := hT.1; omega), fun y => absurd y (by omega), fun _ => x1 z M1 f1 tx⟩
  · rw [if_neg (by omega)] at tx ⊢
    refine ⟨i32 (by omega), fun _ => sp_canBeAddedTo (j := 0) (by omega) (by omega) hL1 ht hm cb to (kI_mk ?_), fun y => absurd rfl y⟩
    rw [c1] at cb to ⊢
    rw [r1] at to ⊢
    by_cases o1 : 30 < L 6 4 + R.2.1
    · rw [if_pos o1]
      exact ⟨i32 (by omega), fun y => absurd rfl y, fun _ => x2 z (Or.inl o1) M1 f1 tx⟩
    · rw [if_neg o1]
      rcases allT_01 (fun x => decide (tripOK L (R.2.2.2.1 x) (R.2.2.2.2.1 x) (R.2.2.2.2.2 x))) 0 R.2.1 with w | w
      · have w' : txOK L R.2.2.2 R.2.1 = 0 := w
        rw [w']
        exact ⟨i32 (by omega), fun y => absurd rfl y, fun _ => x2 z (Or.inr w') M1 f1 tx⟩
      · have w' : txOK L R.2.2.2 R.2.1 = 1 := w
        rw [w']
        refine ⟨i32 (by omega), fun _ => sp_keep (j := 0) (by unfold HI; rw [e2]; exact hH) (by omega) (by omega) (by rw [hL1]; exact hz) (fun M2 f2 kp2 => kV_mk ?_), fun y => absurd y (by decide)⟩
        have e3 : M2 1 0 = L := (f2.2 0 (Or.inl (by omega)) (by omega)).trans hL1
        rw [hL1] at kp2
        have e7 : M2 7 0 = M1 7 0 := f2.1 7 0 (by omega) (by omega)
        have er : rowsT M2 = rowsT M1 := by unfold rowsT; rw [e7]
        refine sp_textAddTo (j := 0) (by omega) (by omega) e3 hn.1 (by rw [e7, c1]; exact cb) (by rw [e7, c1]; omega) (fun M3 f3 a3 => kV_mk ?_)
        rw [er, r1, e7, c1] at a3
        have e73 : M3 7 0 = M1 7 0 := (f3.ne (Or.inl (by decide))).trans e7
        rw [e73, c1]
        refine k0 z o1 (by omega) M1 M3 f1 (by unfold Tx7; rw [e73]; exact tx) (fun r i r1 r2 => (f3.ne (Or.inl r1)).trans (f2.1 r i r1 r2)) (fun i hi i0 => (f3.ne (Or.inr i0)).trans (f2.2 i hi (by omega))) a3 ?_
        exact (kp2.line (by rw [e2]; exact hH.1.1) f3).pre e2 (fun b _ => by rw [e1]) hH
end Rd
