/-! ===== what is kept ===== -/
/-- the r-th line kept -/
def kp (M : Mem) (r : Int) : LFn := M 1 (M 2 0 1 r)
def HI (M : Mem) : Prop := (0 ≤ M 2 0 0 2 ∧ M 2 0 0 2 ≤ 8 ∧ 0 ≤ M 2 0 0 3 ∧ M 2 0 0 3 ≤ 1) ∧ (∀ r, 0 ≤ r → r < 8 → 3 ≤ M 2 0 1 r ∧ M 2 0 1 r ≤ 10) ∧ ∀ r r', 0 ≤ r → r < 8 → 0 ≤ r' → r' < 8 → M 2 0 1 r = M 2 0 1 r' → r = r'
def BZ (L : LFn) : Prop := (∀ s, 0 ≤ s → s < 12 → 0 ≤ L 4 s ∧ L 4 s ≤ 1) ∧ WFz L
theorem LEq.bz {L N : LFn} (h : LEq L N) (hN : BZ N) : BZ L :=
  ⟨fun s h0 h1 => by rw [h.2.1 s h0 h1]; exact hN.1 s h0 h1, fun t h0 h1 => by rw [(h.2.2.2.2.1 t h0 h1).2.2.2]; exact hN.2 t h0 h1⟩
theorem LEq.refl (L : LFn) : LEq L L := ⟨fun _ _ _ => ⟨rfl, rfl⟩, fun _ _ _ => rfl, fun _ _ _ => rfl, rfl, fun _ _ _ => ⟨rfl, rfl, rfl, rfl⟩, rfl, fun _ _ _ => ⟨rfl, rfl, fun _ _ _ => rfl⟩, rfl, fun _ _ _ => ⟨rfl, rfl, rfl⟩⟩
/-- only what is kept may have changed, and line x -/
def FrH (x : Int) (M M' : Mem) : Prop := (∀ a b, a ≠ 1 → a ≠ 2 → M' a b = M a b) ∧ ∀ b, (b < 3 ∨ 10 < b) → b ≠ x → M' 1 b = M 1 b
/-- the kept ones after a keep of L -/
def Kept (M M' : Mem) (L : LFn) : Prop :=
  HI M' ∧ M' 2 0 0 3 = M 2 0 0 3 ∧
  ((M 2 0 0 2 < 8 ∧ M' 2 0 0 2 = M 2 0 0 2 + 1 ∧ ∀ r, 0 ≤ r → r < M 2 0 0 2 → kp M' r = kp M r) ∨ (M 2 0 0 2 = 8 ∧ M' 2 0 0 2 = 8 ∧ ∀ r, 0 ≤ r → r < 7 → kp M' r = kp M (r + 1))) ∧
  LEq (kp M' (M' 2 0 0 2 - 1)) L
section Hs
variable {G : GT} {K : List Value → Mem → Prop} {X : String → Mem → Prop} {M : Mem} {i j : Int}
def rotF (f : Int → Int) (q : Int) : Int → Int := fun k => if 0 ≤ k ∧ k < q - 1 then f (k + 1) else f k
theorem sp_forgetOldest (hi : HI M) (k : ∀ M', (∀ a b c, ¬ (a = 2 ∧ b = 0 ∧ (c = 1 ∨ c = 0)) → M' a b c = M a b c) → M' 2 0 0 2 = 7 → M' 2 0 0 3 = M 2 0 0 3 → (∀ r, 0 ≤ r → r < 7 → M' 2 0 1 r = M 2 0 1 (r + 1)) → M' 2 0 1 7 = M 2 0 1 0 → K [] M') : Call G 0 0 zX3_forgetOldest [rr G 2 0 0] M K X := by
  have h0 := hi.2.1 0 (by omega) (by omega)
  have gen := loop_up (E := fun q => 1 ≤ q → eX3_forgetOldest G K X 9 [(0, rr G 2 0 0), (1, rr G 1 (M 2 0 1 0) 0), (2, iv q)] [] (wrow M 2 0 1 (rotF (M 2 0 1) q))) (a := 1) (b := 8) (by omega) (fun _ => by
    refine bX3_forgetOldest_9 ⟨i32 (by omega), fun _ => ⟨by omega, by omega, k _ ?_ ?_ ?_ ?_ ?_⟩, fun z => absurd z (by omega)⟩
    · intro a b c hn
      rw [wr_ne (fun z => hn ⟨z.1, z.2.2, Or.inr z.2.1⟩), wr_ne (fun z => hn ⟨z.1, z.2.2, Or.inl z.2.1⟩), wrow_ne (fun z => hn ⟨z.1, z.2.2, Or.inl z.2.1⟩)]
    · exact wr_at _ _ _ _ _ _
    · rw [wr_nk (by omega), wr_nc (by omega), wrow_nc (by omega)]
    · intro r r0 r1
      rw [wr_nc (by omega), wr_nk (by omega), wrow_at]
      exact if_pos (by omega)
    · rw [wr_nc (by omega), wr_at]) (fun q q1 q2 hn _ => by
    have e : rotF (M 2 0 1) q q = M 2 0 1 q := if_neg (by omega)
    have hq := hi.2.1 q (by omega) q2
    refine bX3_forgetOldest_9 ⟨i32 (by omega), fun z => absurd q2 z, fun _ => ⟨by omega, ?_, ?_, by omega, by omega, ?_⟩⟩
    · rw [wrow_at, e]; omega
    · rw [wrow_at, e]; omega
    · rw [wrow_at, e, wrow_wr]
      have e2 : upI (rotF (M 2 0 1) q) (q - 1) (M 2 0 1 q) = rotF (M 2 0 1) (q + 1) := by
        funext k
        unfold upI rotF
        by_cases hk : k = q - 1
        · rw [if_pos hk, if_pos (by omega), hk, show q - 1 + 1 = q by omega]
        · rw [if_neg hk]
          by_cases h2 : 0 ≤ k ∧ k < q - 1
          · rw [if_pos h2, if_pos (by omega)]
          · rw [if_neg h2, if_neg (by omega)]
      rw [e2]
      exact hn (by omega))
  refine bX3_forgetOldest ⟨by omega, by omega, ?_⟩
  have h := gen (Int.le_refl _)
  have e : rotF (M 2 0 1) 1 = M 2 0 1 := by
    funext k
    exact if_neg (by omega)
  rw [e, wrow_self] at h
  exact h
theorem sp_keep (hi : HI M) (hj0 : 0 ≤ j) (hj1 : j < 3) (hz : BZ (M 1 j)) (k : ∀ M', FrH 3 M M' → Kept M M' (M 1 j) → K [] M') : Call G 3 0 zX3_keep [rr G 2 0 0, rr G 1 j 0] M K X := by
  obtain ⟨⟨s0, s1, s2, s3⟩, h1, h2⟩ := hi
  refine bX3_keep hj0 (by omega) ⟨i32 (by omega), fun q => ?_, fun q => ?_⟩
  · have hr := h1 (M 2 0 0 2) s0 q
    refine ⟨s0, q, by omega, by omega, sp_lineCopy (by omega) (by omega) hj0 (by omega) (by omega) hz.1 hz.2 (fun M1 f1 l1 => kV_mk ?_)⟩
    have e2 : ∀ b, M1 2 b = M 2 b := fun b => FrL.ne f1 (Or.inl (by decide))
    refine k _ ⟨fun a b na1 na2 => ?_, fun b hb hx => ?_⟩ ⟨⟨⟨?_, ?_, ?_, ?_⟩, ?_, ?_⟩, ?_, Or.inl ⟨q, ?_, ?_⟩, ?_⟩
    · exact (funext fun c => wr_na (fun z => na2 z)).trans (FrL.ne f1 (Or.inl na1))
    · exact (funext fun c => wr_na (by decide)).trans (FrL.ne f1 (Or.inr (by omega)))
    · rw [wr_at, e2]; omega
    · rw [wr_at, e2]; omega
    · rw [wr_nk (by omega), e2]; exact s2
    · rw [wr_nk (by omega), e2]; exact s3
    · intro r r0 r1
      rw [wr_nc (by omega), e2]
      exact h1 r r0 r1
    · intro r r' r0 r1 r2 r3 he
      rw [wr_nc (by omega), e2] at he
      exact h2 r r' r0 r1 r2 r3 he
    · rw [wr_nk (by omega), e2]
    · rw [wr_at, e2]
    · intro r r0 r1
      unfold kp
      rw [wr_nc (by omega), e2]
      exact (funext fun c => wr_na (by decide)).trans (FrL.ne f1 (Or.inr (fun z => by have := h2 _ _ r0 (by omega) s0 q z; omega)))
    · unfold kp
      rw [wr_at, wr_nc (by omega), e2, show M 2 0 0 2 + 1 - 1 = M 2 0 0 2 by omega]
      rw [show (wr M1 2 0 0 2 (M 2 0 0 2 + 1) 1 (M 2 0 1 (M 2 0 0 2)) : LFn) = M1 1 (M 2 0 1 (M 2 0 0 2)) from funext fun c => wr_na (by decide)]
      exact l1
  · refine sp_forgetOldest ⟨⟨s0, s1, s2, s3⟩, h1, h2⟩ (fun M0 f0 a0 a3 a1 a7 => kV_mk ?_)
    have h0 := h1 0 (by omega) (by omega)
    have e1 : ∀ b, M0 1 b = M 1 b := fun b => funext fun c => f0 1 b c (fun z => absurd z.1 (by decide))
    have e0 : M0 2 0 1 (M0 2 0 0 2) = M 2 0 1 0 := by rw [a0, a7]
    refine ⟨by omega, by omega, by omega, by omega, ?_⟩
    rw [e0]
    refine sp_lineCopy (by omega) (by omega) hj0 (by omega) (by omega) (by rw [e1]; exact hz.1) (by rw [e1]; exact hz.2) (fun M1 f1 l1 => kV_mk ?_)
    rw [e1] at l1
    have e2 : ∀ b, M1 2 b = M0 2 b := fun b => FrL.ne f1 (Or.inl (by decide))
    have p : ∀ r, 0 ≤ r → r < 8 → M0 2 0 1 r = M 2 0 1 (if r = 7 then 0 else r + 1) := by
      intro r r0 r1
      by_cases hr : r = 7
      · rw [if_pos hr, hr]; exact a7
      · rw [if_neg hr]; exact a1 r r0 (by omega)
    refine k _ ⟨fun a b na1 na2 => ?_, fun b hb hx => ?_⟩ ⟨⟨⟨?_, ?_, ?_, ?_⟩, ?_, ?_⟩, ?_, Or.inr ⟨by omega, ?_, ?_⟩, ?_⟩
    · exact (funext fun c => wr_na (fun z => na2 z)).trans ((FrL.ne f1 (Or.inl na1)).trans (funext fun c => f0 a b c (fun z => na2 z.1)))
    · exact (funext fun c => wr_na (by decide)).trans ((FrL.ne f1 (Or.inr (by omega))).trans (e1 b))
    · rw [wr_at, e2]; omega
    · rw [wr_at, e2]; omega
    · rw [wr_nk (by omega), e2, a3]; exact s2
    · rw [wr_nk (by omega), e2, a3]; exact s3
    · intro r r0 r1
      rw [wr_nc (by omega), e2, p r r0 r1]
      exact h1 _ (by split <;> omega) (by split <;> omega)
    · intro r r' r0 r1 r2 r3 he
      rw [wr_nc (by omega), e2, p r r0 r1, p r' r2 r3] at he
      have := h2 _ _ (by split <;> omega) (by split <;> omega) (by split <;> omega) (by split <;> omega) he
      split at this <;> split at this <;> omega
    · rw [wr_nk (by omega), e2, a3]
    · rw [wr_at, e2, a0]; rfl
    · intro r r0 r1
      unfold kp
      rw [wr_nc (by omega), e2, a1 r r0 r1]
      exact (funext fun c => wr_na (by decide)).trans ((FrL.ne f1 (Or.inr (fun z => by have := h2 _ _ (by omega) (by omega) (by omega) (by omega) z; omega))).trans (e1 _))
    · unfold kp
      rw [wr_at, wr_nc (by omega), e2, a0, show (7 : Int) + 1 - 1 = 7 by omega, a7]
      rw [show (wr M1 2 0 0 2 (7 + 1) 1 (M 2 0 1 0) : LFn) = M1 1 (M 2 0 1 0) from funext fun c => wr_na (by decide)]
      exact l1
theorem sp_takeBack (hi : HI M) (hj0 : 0 ≤ j) (hj1 : j < 3) (hs : 0 < M 2 0 0 2) (hz : BZ (kp M (M 2 0 0 2 - 1))) (k : ∀ M', (∀ a b, ¬ (a = 1 ∧ b = j) → a ≠ 2 → M' a b = M a b) → HI M' → M' 2 0 0 2 = M 2 0 0 2 - 1 → M' 2 0 0 3 = M 2 0 0 3 → (∀ r, 0 ≤ r → r < 8 → kp M' r = kp M r) → LEq (M' 1 j) (kp M (M 2 0 0 2 - 1)) → K [] M') : Call G 3 0 zX3_takeBack [rr G 2 0 0, rr G 1 j 0] M K X := by
  obtain ⟨⟨s0, s1, s2, s3⟩, h1, h2⟩ := hi
  have hr := h1 (M 2 0 0 2 - 1) (by omega) (by omega)
  refine bX3_takeBack hj0 (by omega) ⟨i32 (by omega), fun q => absurd hs q, fun _ => ⟨by omega, by omega, by omega, by omega, ?_⟩⟩
  have e1 : ∀ b, wr M 2 0 0 2 (M 2 0 0 2 - 1) 1 b = M 1 b := fun b => funext fun c => wr_na (by decide)
  refine sp_lineCopy hj0 (by omega) (by omega) (by omega) (by omega) (by rw [e1]; exact hz.1) (by rw [e1]; exact hz.2) (fun M1 f1 l1 => kV_mk ?_)
  rw [e1] at l1
  have e2 : ∀ b, M1 2 b = wr M 2 0 0 2 (M 2 0 0 2 - 1) 2 b := fun b => FrL.ne f1 (Or.inl (by decide))
  have er : M1 2 0 1 = M 2 0 1 := by rw [e2, wr_nc (by omega)]
  have e3 : M1 2 0 0 3 = M 2 0 0 3 := by rw [e2, wr_nk (by omega)]
  have e4 : M1 2 0 0 2 = M 2 0 0 2 - 1 := by rw [e2, wr_at]
  refine k M1 (fun a b hn n2 => (FrL.ne f1 (by by_cases ha : a = 1; exact Or.inr (fun z => hn ⟨ha, z⟩); exact Or.inl ha)).trans (funext fun c => wr_na n2)) ⟨⟨by omega, by omega, by omega, by omega⟩, ?_, ?_⟩ e4 e3 ?_ l1
  · intro r r0 r1; rw [er]; exact h1 r r0 r1
  · intro r r' r0 r1 r2 r3; rw [er]; exact h2 r r' r0 r1 r2 r3
  · intro r r0 r1
    unfold kp
    rw [er]
    have := h1 r r0 r1
    exact (FrL.ne f1 (Or.inr (by omega))).trans (e1 _)
theorem sp_saveCopy (hj0 : 0 ≤ j) (hj1 : j < 2) (hz : BZ (M 1 j)) (k : ∀ M', (∀ a b, ¬ (a = 1 ∧ b = 2) → a ≠ 2 → M' a b = M a b) → (∀ b c, ¬ (b = 0 ∧ c = 0) → M' 2 b c = M 2 b c) → M' 2 0 0 2 = M 2 0 0 2 → M' 2 0 0 3 = 1 → LEq (M' 1 2) (M 1 j) → K [] M') : Call G 3 0 zX3_saveCopy [rr G 2 0 0, rr G 1 j 0] M K X := by
  refine bX3_saveCopy hj0 (by omega) (sp_lineCopy (by omega) (by omega) hj0 (by omega) (by omega) hz.1 hz.2 (fun M1 f1 l1 => kV_mk ?_))
  refine k _ (fun a b hn n2 => (funext fun c => wr_na n2).trans (FrL.ne f1 (by by_cases ha : a = 1; exact Or.inr (fun z => hn ⟨ha, z⟩); exact Or.inl ha))) (fun b c hn => ?_) ?_ (wr_at _ _ _ _ _ _) ?_
  · rw [wr_ne (fun z => hn ⟨z.2.2, z.2.1⟩), FrL.ne f1 (Or.inl (by decide))]
  · rw [wr_nk (by omega), FrL.ne f1 (Or.inl (by decide))]
  · rw [show (wr M1 2 0 0 3 1 1 2 : LFn) = M1 1 2 from funext fun c => wr_na (by decide)]
    exact l1
theorem sp_bringBack (hj0 : 0 ≤ j) (hj1 : j < 2) (hz : BZ (M 1 2)) (k : ∀ M', (∀ a b, ¬ (a = 1 ∧ b = j) → a ≠ 2 → M' a b = M a b) → (∀ b c, ¬ (b = 0 ∧ c = 0) → M' 2 b c = M 2 b c) → M' 2 0 0 2 = 0 → M' 2 0 0 3 = M 2 0 0 3 → LEq (M' 1 j) (M 1 2) → K [] M') : Call G 3 0 zX3_bringBack [rr G 2 0 0, rr G 1 j 0] M K X := by
  refine bX3_bringBack hj0 (by omega) (sp_lineCopy hj0 (by omega) (by omega) (by omega) (by omega) hz.1 hz.2 (fun M1 f1 l1 => kV_mk ?_))
  refine k _ (fun a b hn n2 => (funext fun c => wr_na n2).trans (FrL.ne f1 (by by_cases ha : a = 1; exact Or.inr (fun z => hn ⟨ha, z⟩); exact Or.inl ha))) (fun b c hn => ?_) (wr_at _ _ _ _ _ _) ?_ ?_
  · rw [wr_ne (fun z => hn ⟨z.2.2, z.2.1⟩), FrL.ne f1 (Or.inl (by decide))]
  · rw [wr_nk (by omega), FrL.ne f1 (Or.inl (by decide))]
  · rw [show (wr M1 2 0 0 2 0 1 j : LFn) = M1 1 j from funext fun c => wr_na (by decide)]
    exact l1
end Hs
