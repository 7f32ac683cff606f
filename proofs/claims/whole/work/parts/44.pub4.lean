/-! ===== undo, save, restore, append, faultPosition ===== -/
theorem Kept.line {M M1 M2 : Mem} {L : LFn} (h : Kept M M1 L) (hz : 0 ≤ M 2 0 0 2) (hf : FrL 0 M1 M2) : Kept M M2 L := by
  obtain ⟨q1, q2, q3, q4⟩ := h
  have r2 : M2 2 = M1 2 := funext fun b => hf.ne (Or.inl (by decide))
  have kk : ∀ r, 0 ≤ r → r < 8 → kp M2 r = kp M1 r := fun r r0 r1 => by
    unfold kp
    rw [r2]
    have := q1.2.1 r r0 r1
    exact hf.ne (Or.inr (by omega))
  refine ⟨⟨by rw [r2]; exact q1.1, by rw [r2]; exact q1.2.1, by rw [r2]; exact q1.2.2⟩, by rw [r2]; exact q2, ?_, ?_⟩
  · rcases q3 with ⟨c1, c2, c3⟩ | ⟨c1, c2, c3⟩
    · exact Or.inl ⟨c1, by rw [r2]; exact c2, fun r r0 r1 => (kk r r0 (by omega)).trans (c3 r r0 r1)⟩
    · exact Or.inr ⟨c1, by rw [r2]; exact c2, fun r r0 r1 => (kk r r0 (by omega)).trans (c3 r r0 r1)⟩
  · rw [r2, kk _ (by rcases q3 with c | c <;> omega) (by rcases q3 with c | c <;> omega)]
    exact q4
section Pe
variable {G : GT} {K : List Value → Mem → Prop} {X : String → Mem → Prop} {M : Mem} {L : LFn}
theorem p_undo (hH : HI M) (hz : 0 < M 2 0 0 2 → BZ (kp M (M 2 0 0 2 - 1))) (k : 0 < M 2 0 0 2 → ∀ M', (∀ a b, ¬ (a = 1 ∧ b = 0) → a ≠ 2 → M' a b = M a b) → HI M' → M' 2 0 0 2 = M 2 0 0 2 - 1 → M' 2 0 0 3 = M 2 0 0 3 → (∀ r, 0 ≤ r → r < 8 → kp M' r = kp M r) → LEq (M' 1 0) (kp M (M 2 0 0 2 - 1)) → K [iv (M 2 0 0 2 - 1)] M') (x : M 2 0 0 2 = 0 → X "java/lang/IllegalStateException" M) : Call G 8 1 zX11_undo [rr G 0 0 0] M K X := by
  have h0 := hH.1
  refine bX11_undo ⟨i32 (by omega), fun z => ?_, x⟩
  have hp : 0 < M 2 0 0 2 := by omega
  refine sp_takeBack hH (by omega) (by omega) hp (hz hp) (fun M' a1 a2 a3 a4 a5 a6 => kV_mk ?_)
  rw [a3]
  exact k hp M' a1 a2 a3 a4 a5 a6
theorem q_undo {n : Int} {H : Int → LFn} (hP : Pas M n H) (hwH : ∀ r, 0 ≤ r → r < n → WFn (H r)) (k0 : 0 < n → ∀ M', FrX PM M M' → M' 8 0 0 7 = 0 → RG (M' 8 0 1) (H (n - 1)) → Pas M' (n - 1) H → K [iv (n - 1)] M') (k1 : n = 0 → AnsM M K (1, 0)) : Call G 0 0 zX12_undo [rr G 8 0 0] M K X := by
  obtain ⟨p1, p2, p3⟩ := hP
  refine bX12_undo ?_
  rw [p1]
  refine ⟨i32 (by omega), fun z => ?_, fun z => ansE (by decide) (k1 z)⟩
  have f0 : FrX PM M (wr (wr M 8 0 0 7 0) 8 0 0 5 (n - 1)) := FrX.wr (fx7 M 0) (show PM 0 5 from Or.inr (Or.inr (Or.inr ⟨rfl, Or.inl rfl⟩))) _
  have gen := loop_up (E := fun x => 0 ≤ x → ∀ N : Mem, FrX PM M N → N 8 0 0 5 = n - 1 → N 8 0 0 7 = 0 → N 8 0 4 = M 8 0 4 → (∀ y, 0 ≤ y → y < x → N 8 0 1 y = M 8 0 4 (500 * (n - 1) + y)) → eX12_undo G K X 37 [(0, rr G 8 0 0), (1, iv x)] [] N) (a := 0) (b := 500) (by omega) (fun _ N f e5 e7 e4 e1 => by
    refine bX12_undo_37 ⟨i32 (by omega), fun _ => ?_, fun z => absurd z (by omega)⟩
    rw [e5]
    refine k0 (by omega) N f e7 (RG_eq (hwH (n - 1) (by omega) (by omega)) (fun y y0 y1 => e1 y y0 y1) (p3 (n - 1) (by omega) (by omega))) ⟨e5, by omega, fun r r0 r1 => by rw [e4]; exact p3 r r0 (by omega)⟩) (fun x q1 q2 hn9 _ N f e5 e7 e4 e1 => by
    refine bX12_undo_37 ?_
    rw [e5, e4]
    refine ⟨i32 (by omega), fun z => absurd q2 z, fun _ => ⟨by omega, by omega, q1, hn9 (by omega) _ (FrX.wr f (show PM 1 x from Or.inl rfl) _) ?_ ?_ ?_ (fun y y0 y1 => ?_)⟩⟩
    · rw [wr_nc (by omega)]; exact e5
    · rw [wr_nc (by omega)]; exact e7
    · rw [wr_nc (by omega)]; exact e4
    · by_cases hy : y = x
      · rw [hy, wr_at]
      · rw [wr_nk hy]; exact e1 y y0 (by omega))
  exact gen (Int.le_refl _) _ f0 (wr_at _ _ _ _ _ _) (by rw [wr_nk (by omega), wr_at]) (by rw [wr_nc (by omega), wr_nc (by omega)]) (fun y _ _ => by omega)
theorem p_save (hz : BZ (M 1 0)) (k : ∀ M', (∀ a b, ¬ (a = 1 ∧ b = 2) → a ≠ 2 → M' a b = M a b) → (∀ b c, ¬ (b = 0 ∧ c = 0) → M' 2 b c = M 2 b c) → M' 2 0 0 2 = M 2 0 0 2 → M' 2 0 0 3 = 1 → LEq (M' 1 2) (M 1 0) → K [] M') : Call G 4 0 zX11_save [rr G 0 0 0] M K X :=
  bX11_save (sp_saveCopy (by omega) (by omega) hz (fun M' a1 a2 a3 a4 a5 => kV_mk (k M' a1 a2 a3 a4 a5)))
/-- the snapshot's rows -/
abbrev PV (c k : Int) : Prop := c = 2 ∨ (c = 0 ∧ (k = 3 ∨ k = 7))
theorem q_save (hR : RG (M 8 0 1) L) (hw : WFn L) (k : ∀ M', FrX PV M M' → M' 8 0 0 7 = 0 → M' 8 0 0 3 = 1 → RG (M' 8 0 2) L → K [] M') : Call G 1 0 zX12_save [rr G 8 0 0] M K X := by
  have f0 : FrX PV M (wr (wr M 8 0 0 7 0) 8 0 0 3 1) := FrX.wr (FrX.wr FrX.rf (show PV 0 7 from Or.inr ⟨rfl, Or.inr rfl⟩) 0) (show PV 0 3 from Or.inr ⟨rfl, Or.inl rfl⟩) 1
  refine bX12_save (m_copies dm8_1 ar8_1 dm8_2 ar8_2 (by decide) (fun M' f e => kV_mk (k M' ?_ ?_ ?_ (RG_eq hw (fun x x0 x1 => ?_) hR))))
  · intro a b c k q
    rw [f a b c (fun z => q ⟨z.1, z.2.1, Or.inl z.2.2⟩)]
    exact f0 a b c k q
  · rw [f 8 0 0 (by omega), wr_nk (by omega), wr_at]
  · rw [f 8 0 0 (by omega), wr_at]
  · rw [e x x0 x1, wr_nc (by omega), wr_nc (by omega)]
theorem p_restore (hH : HI M) (hz : M 2 0 0 3 ≠ 0 → BZ (M 1 2)) (k : M 2 0 0 3 ≠ 0 → ∀ M', (∀ a b, ¬ (a = 1 ∧ b = 0) → a ≠ 2 → M' a b = M a b) → (∀ b c, ¬ (b = 0 ∧ c = 0) → M' 2 b c = M 2 b c) → M' 2 0 0 2 = 0 → M' 2 0 0 3 = M 2 0 0 3 → LEq (M' 1 0) (M 1 2) → K [] M') (x : M 2 0 0 3 = 0 → X "java/lang/IllegalStateException" M) : Call G 8 1 zX11_restore [rr G 0 0 0] M K X := by
  have h0 := hH.1
  exact bX11_restore ⟨i32 (by omega), fun z => sp_bringBack (by omega) (by omega) (hz z) (fun M' a1 a2 a3 a4 a5 => kV_mk (k z M' a1 a2 a3 a4 a5)), x⟩
theorem q_restore {S : LFn} (h3 : 0 ≤ M 8 0 0 3 ∧ M 8 0 0 3 ≤ 1) (hS : M 8 0 0 3 ≠ 0 → RG (M 8 0 2) S ∧ WFn S) (k0 : M 8 0 0 3 ≠ 0 → ∀ M', FrX PM M M' → M' 8 0 0 7 = 0 → M' 8 0 0 5 = 0 → RG (M' 8 0 1) S → K [] M') (k1 : M 8 0 0 3 = 0 → K [] (wr M 8 0 0 7 1)) : Call G 1 0 zX12_restore [rr G 8 0 0] M K X := by
  refine bX12_restore ⟨i32 (by omega), k1, fun z => m_copies dm8_2 ar8_2 dm8_1 ar8_1 (by decide) (fun M' f e => kV_mk (k0 z _ (FrX.wr (fxG (fx7 M 0) f (Or.inl rfl)) (show PM 0 5 from Or.inr (Or.inr (Or.inr ⟨rfl, Or.inl rfl⟩))) _) ?_ (wr_at _ _ _ _ _ _) ?_))⟩
  · rw [wr_nk (by omega), f 8 0 0 (by omega), wr_at]
  · rw [wr_nc (by omega)]
    refine RG_eq (hS z).2 (fun x x0 x1 => ?_) (hS z).1
    rw [e x x0 x1, wr_nc (by omega)]
theorem p_append {sg : Int → Int} {ln : Int} (hT : TxR M sg ln) {c : Int} (hc : 0 ≤ c ∧ c ≤ 65535) (hnar : vp_nar .char (J c) = J c) (k : ln < 60 → ∀ M', FrA 7 0 M M' → TxR M' (upI sg ln c) (ln + 1) → M' 7 0 0 7 = M 7 0 0 7 → K [] M') (x : ¬ ln < 60 → X "java/lang/IllegalStateException" M) : Call G 8 1 zX11_append [rr G 0 0 0, iv c] M K X := by
  obtain ⟨t1, t2, t3, t4⟩ := hT
  refine bX11_append (bX10_isFull ?_)
  rw [t2]
  refine ⟨i32 (by omega), fun z => kI_mk ⟨i32 (by omega), fun _ => bX10_add ?_, fun y => absurd rfl y⟩, fun z => kI_mk ⟨i32 (by omega), fun y => absurd y (by decide), fun _ => x z⟩⟩
  rw [t2]
  refine ⟨i32 (by omega), fun y => absurd z y, fun _ => ⟨t1.1, z, ?_, kV_mk (k z _ ((FrA.rf.wr _ _ _).wr _ _ _) ⟨⟨by omega, by omega⟩, wr_at _ _ _ _ _ _, ?_, fun y y0 y1 => ?_⟩ ?_)⟩⟩
  · exact hnar
  · rw [wr_nc (by omega), wr_rv, t3]
  · unfold upI
    split
    · exact hc
    · exact t4 y y0 y1
  · rw [wr_nk (by omega), wr_nc (by omega)]
end Pe
