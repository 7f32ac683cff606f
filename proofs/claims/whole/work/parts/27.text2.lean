/-! ===== the text's trips ===== -/
/-- how many of F are allowed, all or not -/
def txOK (L : LFn) (F : T3) (n : Int) : Int := allT (fun x => decide (tripOK L (F.1 x) (F.2.1 x) (F.2.2 x))) 0 n
def addN (L : LFn) (F : T3) : Nat → LFn
  | 0 => L
  | n + 1 => addA (addN L F n) (F.1 n) (F.2.1 n) (F.2.2 n)
/-- the parsed trips' numbers -/
def T3ok (F : T3) (n : Int) : Prop := ∀ x, 0 ≤ x → x < n → (0 ≤ F.1 x ∧ F.1 x ≤ 11) ∧ (0 ≤ F.2.1 x ∧ F.2.1 x ≤ 11) ∧ 0 ≤ F.2.2 x ∧ F.2.2 x ≤ 1439
theorem trp_bd (sg : Int → Int) {ln p : Int} (p0 : 0 ≤ p) (p1 : p ≤ ln) : (p ≤ (trp sg ln p).2.1 ∧ (trp sg ln p).2.1 ≤ ln) ∧ (((trp sg ln p).1 = 0) ∨ ((trp sg ln p).1 = 1 ∧ p + 6 ≤ (trp sg ln p).2.1 ∧ (0 ≤ (trp sg ln p).2.2.1 ∧ (trp sg ln p).2.2.1 ≤ 11) ∧ (0 ≤ (trp sg ln p).2.2.2.1 ∧ (trp sg ln p).2.2.2.1 ≤ 11) ∧ 0 ≤ (trp sg ln p).2.2.2.2 ∧ (trp sg ln p).2.2.2.2 ≤ 1439)) := by
  have st : ∀ mx q, 9 ≤ mx → 0 ≤ q → q ≤ ln → (num sg ln mx q).1 ≠ -1 → q + 1 ≤ (num sg ln mx q).2 := by
    intro mx q hm q0 q1 h
    unfold num at h ⊢
    split
    · rename_i h2
      exact (numN_bd sg (ln := ln) hm (ln - q).toNat (sg q - 48) (q + 1) (by omega) (by omega) (by omega) (by omega)).2.1
    · rename_i h2
      rw [if_neg h2] at h
      exact absurd rfl h
  unfold trp
  have b1 := num_bd sg (ln := ln) (mx := 11) (by omega) p0 p1
  have s1 := st 11 p (by omega) p0 p1
  generalize num sg ln 11 p = r1 at *
  split
  · exact ⟨⟨b1.2.1, b1.2.2⟩, Or.inl rfl⟩
  rename_i z1
  split
  · exact ⟨⟨b1.2.1, b1.2.2⟩, Or.inl rfl⟩
  rename_i y1
  have y1' : ski sg ln 45 r1.2 := Classical.byContradiction y1
  have b2 := num_bd sg (ln := ln) (mx := 11) (p := r1.2 + 1) (by omega) (by omega) (by have := y1'.1; omega)
  have s2 := st 11 (r1.2 + 1) (by omega) (by omega) (by have := y1'.1; omega)
  generalize num sg ln 11 (r1.2 + 1) = r2 at *
  split
  · exact ⟨⟨by show p ≤ r2.2; omega, b2.2.2⟩, Or.inl rfl⟩
  rename_i z2
  split
  · exact ⟨⟨by show p ≤ r2.2; omega, b2.2.2⟩, Or.inl rfl⟩
  rename_i y2
  have y2' : ski sg ln 64 r2.2 := Classical.byContradiction y2
  have b3 := num_bd sg (ln := ln) (mx := 1439) (p := r2.2 + 1) (by omega) (by omega) (by have := y2'.1; omega)
  have s3 := st 1439 (r2.2 + 1) (by omega) (by omega) (by have := y2'.1; omega)
  generalize num sg ln 1439 (r2.2 + 1) = r3 at *
  split
  · exact ⟨⟨by show p ≤ r3.2; omega, b3.2.2⟩, Or.inl rfl⟩
  rename_i z3
  split
  · exact ⟨⟨by show p ≤ r3.2; omega, b3.2.2⟩, Or.inl rfl⟩
  rename_i y3
  have y3' : ski sg ln 59 r3.2 := Classical.byContradiction y3
  have t1 := s1 z1
  have t2 := s2 z2
  have t3 := s3 z3
  have u1 := y1'.1
  have u2 := y2'.1
  have u3 := y3'.1
  refine ⟨⟨by show p ≤ r3.2 + 1; omega, by show r3.2 + 1 ≤ ln; omega⟩, Or.inr ⟨rfl, by show p + 6 ≤ r3.2 + 1; omega, ⟨?_, ?_⟩, ⟨?_, ?_⟩, ?_, ?_⟩⟩
  · show 0 ≤ r1.1; omega
  · show r1.1 ≤ 11; omega
  · show 0 ≤ r2.1; omega
  · show r2.1 ≤ 11; omega
  · show 0 ≤ r3.1; omega
  · show r3.1 ≤ 1439; omega
theorem T3ok.up {F : T3} {n a b d : Int} (h : T3ok F n) (n0 : 0 ≤ n) (ha : 0 ≤ a ∧ a ≤ 11) (hb : 0 ≤ b ∧ b ≤ 11) (hd : 0 ≤ d ∧ d ≤ 1439) : T3ok (upI F.1 n a, upI F.2.1 n b, upI F.2.2 n d) (n + 1) := by
  intro x x0 x1
  show (0 ≤ upI F.1 n a x ∧ upI F.1 n a x ≤ 11) ∧ (0 ≤ upI F.2.1 n b x ∧ upI F.2.1 n b x ≤ 11) ∧ 0 ≤ upI F.2.2 n d x ∧ upI F.2.2 n d x ≤ 1439
  unfold upI
  by_cases hx : x = n
  · rw [if_pos hx, if_pos hx, if_pos hx]; exact ⟨ha, hb, hd⟩
  · rw [if_neg hx, if_neg hx, if_neg hx]; exact h x x0 (by omega)
/-- the three rows of region 7 -/
def rowsT (M : Mem) : T3 := (M 7 0 2, M 7 0 3, M 7 0 4)
section Tt
variable {G : GT} {K : List Value → Mem → Prop} {X : String → Mem → Prop} {M : Mem} {sg : Int → Int} {ln p : Int} {L : LFn} {j : Int}
theorem sp_parse (hT : TxR M sg ln)
    (k : ∀ M', FrA 7 0 M M' → M' 7 0 0 1 = 0 → M' 7 0 1 = sg → M' 7 0 0 6 = (txtN sg ln 10 0 0 (rowsT M)).2.1 → rowsT M' = (txtN sg ln 10 0 0 (rowsT M)).2.2.2 → M' 7 0 0 7 = (if (txtN sg ln 10 0 0 (rowsT M)).1 = 0 then (txtN sg ln 10 0 0 (rowsT M)).2.2.1 else -1) → (0 ≤ M' 7 0 0 6 ∧ M' 7 0 0 6 ≤ 10) → T3ok (rowsT M') (M' 7 0 0 6) → ((txtN sg ln 10 0 0 (rowsT M)).1 = 0 ∨ (txtN sg ln 10 0 0 (rowsT M)).1 = 1) → (0 ≤ (txtN sg ln 10 0 0 (rowsT M)).2.2.1 ∧ (txtN sg ln 10 0 0 (rowsT M)).2.2.1 ≤ ln) → K [] M') :
    Call G 3 0 zX10_parse [rr G 7 0 0] M K X := by
  have hl := hT.1
  generalize hR : txtN sg ln 10 0 0 (rowsT M) = R at k
  -- the end
  have fin : ∀ N : Mem, FrA 7 0 M N → TxR N sg ln → T3ok (rowsT N) (N 7 0 0 6) → (0 ≤ N 7 0 0 6 ∧ N 7 0 0 6 ≤ 10) → (0 ≤ N 7 0 0 2 ∧ N 7 0 0 2 ≤ ln) → ∀ b : Int, ((b = 0 ∧ R = (0, N 7 0 0 6, N 7 0 0 2, rowsT N)) ∨ (b = 1 ∧ R = (1, N 7 0 0 6, N 7 0 0 2, rowsT N))) → (b = 0 → K [] (wr (wr N 7 0 0 7 (N 7 0 0 2)) 7 0 0 1 0)) ∧ (¬ b = 0 → K [] (wr (wr N 7 0 0 7 (-1)) 7 0 0 1 0)) := by
    intro N fN tN oN cN pN b hb
    have e6 : ∀ v, wr (wr N 7 0 0 7 v) 7 0 0 1 0 7 0 0 6 = N 7 0 0 6 := fun v => by rw [wr_nk (by omega), wr_nk (by omega)]
    have er : ∀ v, rowsT (wr (wr N 7 0 0 7 v) 7 0 0 1 0) = rowsT N := fun v => by
      unfold rowsT
      rw [wr_nc (c' := 2) (by omega), wr_nc (c' := 2) (by omega), wr_nc (c' := 3) (by omega), wr_nc (c' := 3) (by omega), wr_nc (c' := 4) (by omega), wr_nc (c' := 4) (by omega)]
    refine ⟨fun z => ?_, fun z => ?_⟩
    · have eR : R = (0, N 7 0 0 6, N 7 0 0 2, rowsT N) := by
        rcases hb with w | w
        · exact w.2
        · omega
      rw [eR] at k
      refine k _ ((fN.wr _ _ _).wr _ _ _) (wr_at _ _ _ _ _ _) ?_ (e6 _) (er _) ?_ (by rw [e6]; exact cN) (by rw [e6, er]; exact oN) (Or.inl rfl) pN
      · rw [wr_nc (by omega), wr_nc (by omega)]; exact tN.2.2.1
      · rw [wr_nk (by omega), wr_at]; rfl
    · have eR : R = (1, N 7 0 0 6, N 7 0 0 2, rowsT N) := by
        rcases hb with w | w
        · exact absurd w.1 z
        · exact w.2
      rw [eR] at k
      refine k _ ((fN.wr _ _ _).wr _ _ _) (wr_at _ _ _ _ _ _) ?_ (e6 _) (er _) ?_ (by rw [e6]; exact cN) (by rw [e6, er]; exact oN) (Or.inr rfl) pN
      · rw [wr_nc (by omega), wr_nc (by omega)]; exact tN.2.2.1
      · rw [wr_nk (by omega), wr_at]; rfl
  -- one trip, then on
  have step : ∀ m : Nat, m + 1 ≤ 10 → ∀ N : Mem, FrA 7 0 M N → TxR N sg ln → T3ok (rowsT N) (N 7 0 0 6) → N 7 0 0 6 = 9 - m → (0 ≤ N 7 0 0 2 ∧ N 7 0 0 2 ≤ ln) → R = txtN sg ln (m + 1) (N 7 0 0 6) (N 7 0 0 2) (rowsT N) → ∀ KK : List Value → Mem → Prop,
      (∀ N', FrA 7 0 M N' → TxR N' sg ln → T3ok (rowsT N') (N' 7 0 0 6) → (0 ≤ N' 7 0 0 6 ∧ N' 7 0 0 6 ≤ 10) → (0 ≤ N' 7 0 0 2 ∧ N' 7 0 0 2 ≤ ln) → R = (0, N' 7 0 0 6, N' 7 0 0 2, rowsT N') → KK [iv 0] N') →
      (∀ N', FrA 7 0 M N' → TxR N' sg ln → T3ok (rowsT N') (N' 7 0 0 6) → N' 7 0 0 6 = 10 - m → (0 ≤ N' 7 0 0 2 ∧ N' 7 0 0 2 ≤ ln) → ((N' 7 0 0 2 < ln ∧ R = txtN sg ln m (N' 7 0 0 6) (N' 7 0 0 2) (rowsT N')) ∨ (¬ N' 7 0 0 2 < ln ∧ R = (1, N' 7 0 0 6, N' 7 0 0 2, rowsT N'))) → KK [iv 1] N') →
      Call G 2 0 zX10_parseTrip [rr G 7 0 0] N KK noX := by
    intro m hm N fN tN oN cN pN eR KK h0 h1
    have tb := trp_bd sg (ln := ln) pN.1 pN.2
    simp only [txtN] at eR
    refine sp_parseTrip tN rfl pN.1 pN.2 (by omega) (by omega) (fun z => ?_) (fun z M' f' a1 a2 a3 a4 a5 a6 a7 a8 => ?_)
    · rw [if_pos z] at eR
      refine h0 _ (fN.wr _ _ _) (tN.place _) ?_ ?_ ?_ ?_
      · rw [wr_nk (by omega)]
        unfold rowsT
        rw [wr_nc (by omega), wr_nc (by omega), wr_nc (by omega)]
        exact oN
      · rw [wr_nk (by omega)]; omega
      · rw [wr_at]; exact ⟨by omega, tb.1.2⟩
      · rw [eR, wr_nk (by omega), wr_at]
        unfold rowsT
        rw [wr_nc (c' := 2) (by omega), wr_nc (c' := 3) (by omega), wr_nc (c' := 4) (by omega)]
    · rw [if_neg (by omega)] at eR
      have er : rowsT M' = (upI (rowsT N).1 (N 7 0 0 6) (trp sg ln (N 7 0 0 2)).2.2.1, upI (rowsT N).2.1 (N 7 0 0 6) (trp sg ln (N 7 0 0 2)).2.2.2.1, upI (rowsT N).2.2 (N 7 0 0 6) (trp sg ln (N 7 0 0 2)).2.2.2.2) := by
        unfold rowsT
        rw [a6, a7, a8]
      have t9 : (trp sg ln (N 7 0 0 2)).1 = 1 ∧ N 7 0 0 2 + 6 ≤ (trp sg ln (N 7 0 0 2)).2.1 ∧ (0 ≤ (trp sg ln (N 7 0 0 2)).2.2.1 ∧ (trp sg ln (N 7 0 0 2)).2.2.1 ≤ 11) ∧ (0 ≤ (trp sg ln (N 7 0 0 2)).2.2.2.1 ∧ (trp sg ln (N 7 0 0 2)).2.2.2.1 ≤ 11) ∧ 0 ≤ (trp sg ln (N 7 0 0 2)).2.2.2.2 ∧ (trp sg ln (N 7 0 0 2)).2.2.2.2 ≤ 1439 := by
        rcases tb.2 with w | w
        · omega
        · exact w
      refine h1 M' (fN.tr f') ⟨tN.1, by rw [a2]; exact tN.2.1, by rw [a1]; exact tN.2.2.1, tN.2.2.2⟩ ?_ (by omega) (by rw [a3]; exact ⟨by omega, tb.1.2⟩) ?_
      · rw [a4, er]
        exact oN.up (by omega) t9.2.2.1 t9.2.2.2.1 t9.2.2.2.2
      · rw [a3, a4, er]
        by_cases hz : (trp sg ln (N 7 0 0 2)).2.1 < ln
        · rw [if_pos hz] at eR
          exact Or.inl ⟨hz, eR⟩
        · rw [if_neg hz] at eR
          exact Or.inr ⟨hz, eR⟩
  -- the loop
  have loop : ∀ m : Nat, m ≤ 9 → ∀ N : Mem, FrA 7 0 M N → TxR N sg ln → T3ok (rowsT N) (N 7 0 0 6) → N 7 0 0 6 = 10 - m → (0 ≤ N 7 0 0 2 ∧ N 7 0 0 2 ≤ ln) → ((N 7 0 0 2 < ln ∧ R = txtN sg ln m (N 7 0 0 6) (N 7 0 0 2) (rowsT N)) ∨ (¬ N 7 0 0 2 < ln ∧ R = (1, N 7 0 0 6, N 7 0 0 2, rowsT N))) → eX10_parse G K X 17 [(0, rr G 7 0 0), (1, iv 1), (2, iv (10 - m))] [] N := by
    intro m
    induction m with
    | zero =>
      intro hm N fN tN oN cN pN eR
      have e : R = (1, N 7 0 0 6, N 7 0 0 2, rowsT N) := by
        rcases eR with w | w
        · exact w.2
        · exact w.2
      have := fin N fN tN oN (by omega) pN 1 (Or.inr ⟨rfl, e⟩)
      exact bX10_parse_17 ⟨i32 (by omega), fun _ => ⟨i32 (by omega), this.1, this.2⟩, fun z => absurd z (by omega)⟩
    | succ m ih =>
      intro hm N fN tN oN cN pN eR
      refine bX10_parse_17 ⟨i32 (by omega), fun z => absurd z (by omega), fun _ => ⟨i32 (by omega), fun z => absurd z (by omega), fun _ => ⟨i32 (by omega), i32 (by rw [tN.2.1]; omega), fun y => ?_, fun y => ?_⟩⟩⟩
      · rw [tN.2.1] at y
        rcases eR with w | w
        · exact absurd w.1 y
        · exact (fin N fN tN oN (by omega) pN 1 (Or.inr ⟨rfl, w.2⟩)).2 (by omega)
      · rw [tN.2.1] at y
        rcases eR with w | w
        · refine step m (by omega) N fN tN oN (by omega) pN w.2 _ (fun N' f' t' o' c' p' e' => kI_mk ?_) (fun N' f' t' o' c' p' e' => kI_mk ?_)
          · have := fin N' f' t' o' c' p' 0 (Or.inl ⟨rfl, e'⟩)
            refine bX10_parse_17 ⟨i32 (by omega), fun _ => ⟨i32 (by omega), this.1, this.2⟩, fun _ => ⟨i32 (by omega), fun _ => this.1 rfl, fun z => absurd rfl z⟩⟩
          · rw [show (10 : Int) - ((m + 1 : Nat) : Int) + 1 = 10 - m by omega]
            exact ih (by omega) N' f' t' o' c' p' e'
        · exact absurd y w.1
  have e6 : ∀ M : Mem, wr (wr M 7 0 0 2 0) 7 0 0 6 0 7 0 0 6 = 0 := fun M => wr_at _ _ _ _ _ _
  have er : rowsT (wr (wr M 7 0 0 2 0) 7 0 0 6 0) = rowsT M := by
    unfold rowsT
    rw [wr_nc (c' := 2) (by omega), wr_nc (c' := 2) (by omega), wr_nc (c' := 3) (by omega), wr_nc (c' := 3) (by omega), wr_nc (c' := 4) (by omega), wr_nc (c' := 4) (by omega)]
  have e2 : wr (wr M 7 0 0 2 0) 7 0 0 6 0 7 0 0 2 = 0 := by rw [wr_nk (by omega), wr_at]
  refine bX10_parse (step 9 (by omega) _ ((FrA.rf.wr _ _ _).wr _ _ _) ⟨hT.1, ?_, ?_, hT.2.2.2⟩ ?_ ?_ ?_ ?_ _ (fun N' f' t' o' c' p' e' => kI_mk ?_) (fun N' f' t' o' c' p' e' => kI_mk ?_))
  · rw [wr_nk (by omega), wr_nk (by omega)]; exact hT.2.1
  · rw [wr_nc (by omega), wr_nc (by omega)]; exact hT.2.2.1
  · rw [e6]; intro x x0 x1; omega
  · rw [e6]; rfl
  · rw [e2]; omega
  · rw [e6, e2, er]; exact hR.symm
  · have := fin N' f' t' o' c' p' 0 (Or.inl ⟨rfl, e'⟩)
    refine bX10_parse_17 ⟨i32 (by omega), fun z => absurd (show (1 : Int) < 10 by omega) z, fun _ => ⟨i32 (by omega), fun _ => this.1 rfl, fun z => absurd rfl z⟩⟩
  · exact loop 9 (by omega) N' f' t' o' c' p' e'
theorem sp_canBeAddedTo (hj0 : 0 ≤ j) (hj1 : j < 12) (hL : M 1 j = L) (ht : WFt L) (hm : WFm L) (hc : 0 ≤ M 7 0 0 6 ∧ M 7 0 0 6 ≤ 10) (hF : T3ok (rowsT M) (M 7 0 0 6)) (k : K [iv (if 30 < L 6 4 + M 7 0 0 6 then 0 else txOK L (rowsT M) (M 7 0 0 6))] M) : Call G 2 0 zX10_canBeAddedTo [rr G 7 0 0, rr G 1 j 0] M K X := by
  have hn := ht.1
  refine bX10_canBeAddedTo hj0 hj1 ?_
  rw [hL]
  refine ⟨i32 (by omega), fun z => ?_, fun z => ?_⟩
  · rw [if_neg z] at k
    unfold txOK at k
    refine loop_up (E := fun x => K [iv (allT (fun x => decide (tripOK L ((rowsT M).1 x) ((rowsT M).2.1 x) ((rowsT M).2.2 x))) x (M 7 0 0 6))] M → eX10_canBeAddedTo G K X 21 [(0, rr G 7 0 0), (1, rr G 1 j 0), (2, iv x)] [] M) hc.1 (fun hk => ?_) (fun x q1 q2 hn9 hk => ?_) k
    · rw [allT_end (Int.le_refl _)] at hk
      exact bX10_canBeAddedTo_21 hj0 hj1 ⟨i32 (by omega), i32 (by omega), fun _ => hk, fun z => absurd z (by omega)⟩
    · have h3 := hF x q1 q2
      refine bX10_canBeAddedTo_21 hj0 hj1 ⟨i32 (by omega), i32 (by omega), fun z => absurd q2 z, fun _ => ⟨q1, by omega, sp_isTripAllowed hj0 hj1 (by rw [hL]; exact hm) h3.1.1 h3.1.2 h3.2.1.1 h3.2.1.2 (by have h4 : 0 ≤ M 7 0 4 x ∧ M 7 0 4 x ≤ 1439 := h3.2.2; exact i32 (by omega)) (kI_mk ?_)⟩⟩
      rw [hL]
      refine ⟨b2i_i32 _, fun y => ?_, fun y => ?_⟩
      · have y' : tripOK L (M 7 0 2 x) (M 7 0 3 x) (M 7 0 4 x) := Classical.byContradiction fun w => y (b2i_0.mpr w)
        exact hn9 (by rw [allT_t q2 (by simp only [decide_eq_true_eq]; exact y')] at hk; exact hk)
      · rw [allT_f q1 q2 (by simp only [decide_eq_false_iff_not]; exact b2i_0.mp y)] at hk
        exact hk
  · rw [if_pos z] at k
    exact k
theorem addN_cnt (L : LFn) (F : T3) (n : Nat) : addN L F n 6 4 = L 6 4 + n := by
  induction n with
  | zero => show L 6 4 = L 6 4 + ((0 : Nat) : Int); omega
  | succ n ih =>
    show addA _ _ _ _ 6 4 = _
    unfold addA
    rw [up1_at, ih]
    omega
theorem sp_textAddTo (hj0 : 0 ≤ j) (hj1 : j < 12) (hL : M 1 j = L) (ht : 0 ≤ L 6 4) (hc : 0 ≤ M 7 0 0 6 ∧ M 7 0 0 6 ≤ 10) (hs : L 6 4 + M 7 0 0 6 ≤ 30) (k : ∀ M', FrL j M M' → M' 1 j = addN L (rowsT M) (M 7 0 0 6).toNat → K [] M') : Call G 1 0 zX10_addTo [rr G 7 0 0, rr G 1 j 0] M K X := by
  have gen := loop_up (E := fun x => 0 ≤ x → ∀ N : Mem, FrL j M N → N 1 j = addN L (rowsT M) x.toNat → eX10_addTo G K X 2 [(0, rr G 7 0 0), (1, rr G 1 j 0), (2, iv x)] [] N) hc.1 (fun _ N fN eN => by
    have e7 : N 7 0 = M 7 0 := fN.ne (Or.inl (by decide))
    refine bX10_addTo_2 hj0 hj1 ?_
    rw [e7]
    exact ⟨i32 (by omega), i32 (by omega), fun _ => k N fN eN, fun z => absurd z (by omega)⟩) (fun x q1 q2 hn9 _ N fN eN => by
    have e7 : N 7 0 = M 7 0 := fN.ne (Or.inl (by decide))
    have hct := addN_cnt L (rowsT M) x.toNat
    refine bX10_addTo_2 hj0 hj1 ?_
    rw [e7]
    refine ⟨i32 (by omega), i32 (by omega), fun z => absurd q2 z, fun _ => ⟨q1, by omega, sp_addActive hj0 hj1 (by rw [eN]; omega) (by rw [eN]; omega) (fun M2 f2 e2 => kI_mk (hn9 (by omega) M2 (fN.tr f2) ?_))⟩⟩
    rw [e2, eN, show (x + 1).toNat = x.toNat + 1 by omega]
    show _ = addA _ ((rowsT M).1 (x.toNat : Int)) _ _
    rw [show ((x.toNat : Nat) : Int) = x by omega]
    rfl)
  exact bX10_addTo hj0 hj1 (gen (Int.le_refl _) M FrL.rf hL)
end Tt
