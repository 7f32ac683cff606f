/-! ===== copying lines ===== -/
theorem wrow_at (M : Mem) (a : Nat) (b c : Int) (f : Int → Int) : wrow M a b c f a b c = f := by unfold wrow; rw [if_pos ⟨rfl, rfl, rfl⟩]
theorem wrow_ne {M : Mem} {a : Nat} {b c : Int} {f : Int → Int} {a' : Nat} {b' c' : Int} (h : ¬ (a' = a ∧ c' = c ∧ b' = b)) : wrow M a b c f a' b' c' = M a' b' c' := by unfold wrow; rw [if_neg h]
theorem wrow_nc {M : Mem} {a : Nat} {b c : Int} {f : Int → Int} {a' : Nat} {b' c' : Int} (h : c' ≠ c) : wrow M a b c f a' b' c' = M a' b' c' := wrow_ne (fun q => h q.2.1)
theorem wrow_nb {M : Mem} {a : Nat} {b c : Int} {f : Int → Int} {a' : Nat} {b' c' : Int} (h : b' ≠ b) : wrow M a b c f a' b' c' = M a' b' c' := wrow_ne (fun q => h q.2.2)
theorem wrow_na {M : Mem} {a : Nat} {b c : Int} {f : Int → Int} {a' : Nat} {b' c' : Int} (h : a' ≠ a) : wrow M a b c f a' b' c' = M a' b' c' := wrow_ne (fun q => h q.1)
theorem wr_at (M : Mem) (a : Nat) (b c k v : Int) : wr M a b c k v a b c k = v := by unfold wr; rw [wrow_at]; unfold upI; rw [if_pos rfl]
theorem wr_nk {M : Mem} {a : Nat} {b c k v k' : Int} (h : k' ≠ k) : wr M a b c k v a b c k' = M a b c k' := by unfold wr; rw [wrow_at]; unfold upI; rw [if_neg h]
theorem wr_ne {M : Mem} {a : Nat} {b c k v : Int} {a' : Nat} {b' c' : Int} (h : ¬ (a' = a ∧ c' = c ∧ b' = b)) : wr M a b c k v a' b' c' = M a' b' c' := wrow_ne h
theorem wr_nc {M : Mem} {a : Nat} {b c k v : Int} {a' : Nat} {b' c' : Int} (h : c' ≠ c) : wr M a b c k v a' b' c' = M a' b' c' := wr_ne (fun q => h q.2.1)
theorem wr_nb {M : Mem} {a : Nat} {b c k v : Int} {a' : Nat} {b' c' : Int} (h : b' ≠ b) : wr M a b c k v a' b' c' = M a' b' c' := wr_ne (fun q => h q.2.2)
theorem wr_na {M : Mem} {a : Nat} {b c k v : Int} {a' : Nat} {b' c' : Int} (h : a' ≠ a) : wr M a b c k v a' b' c' = M a' b' c' := wr_ne (fun q => h q.1)
theorem cpy_in {f g : Int → Int} {n k : Int} (h0 : 0 ≤ k) (h1 : k < n) : cpy f g 0 0 n k = f k := by
  unfold cpy
  rw [if_pos (by omega)]
  congr 1
  omega
theorem nar01 {x : Int} (h : 0 ≤ x ∧ x ≤ 1) : vp_nar .boolean (J x) = J x := by
  rcases (show x = 0 ∨ x = 1 by omega) with rfl | rfl <;> decide
/-- M' is M but in the region a, b at the places of P -/
def FrR (a : Nat) (b : Int) (P : Int → Prop) (M M' : Mem) : Prop := ∀ a' b' c', ¬ (a' = a ∧ b' = b ∧ P c') → M' a' b' c' = M a' b' c'
theorem FrR.rf {a : Nat} {b : Int} {P : Int → Prop} {M : Mem} : FrR a b P M M := fun _ _ _ _ => rfl
theorem FrR.row {a : Nat} {b c : Int} {P : Int → Prop} {M M' : Mem} {f : Int → Int} (h : FrR a b P M M') (hc : P c) : FrR a b P M (wrow M' a b c f) := fun a' b' c' q => (wrow_ne (fun z => q ⟨z.1, z.2.2, by rw [z.2.1]; exact hc⟩)).trans (h a' b' c' q)
theorem FrR.wr {a : Nat} {b c k v : Int} {P : Int → Prop} {M M' : Mem} (h : FrR a b P M M') (hc : P c) : FrR a b P M (wr M' a b c k v) := FrR.row h hc
theorem FrR.trans {a : Nat} {b : Int} {P : Int → Prop} {M M1 M2 : Mem} (h : FrR a b P M M1) (h2 : FrR a b P M1 M2) : FrR a b P M M2 := fun a' b' c' q => (h2 a' b' c' q).trans (h a' b' c' q)
theorem FrR.mono {a : Nat} {b : Int} {P Q : Int → Prop} {M M1 : Mem} (h : FrR a b P M M1) (hq : ∀ c, P c → Q c) : FrR a b Q M M1 := fun a' b' c' q => h a' b' c' (fun z => q ⟨z.1, z.2.1, hq _ z.2.2⟩)
/-- the same line, as far as it is looked at -/
def LEq (L N : LFn) : Prop :=
  (∀ k, 0 ≤ k → k < 11 → L 2 k = N 2 k ∧ L 3 k = N 3 k) ∧ (∀ k, 0 ≤ k → k < 12 → L 4 k = N 4 k) ∧ (∀ k, 0 ≤ k → k < 3 → L 5 k = N 5 k) ∧
  L 6 4 = N 6 4 ∧ (∀ t, 0 ≤ t → t < 30 → L 7 t = N 7 t ∧ L 8 t = N 8 t ∧ L 9 t = N 9 t ∧ L 10 t = N 10 t) ∧
  L 11 3 = N 11 3 ∧ (∀ v, 0 ≤ v → v < 10 → L 12 v = N 12 v ∧ L 13 v = N 13 v ∧ ∀ p, 0 ≤ p → p < 30 → L (15 + v) p = N (15 + v) p) ∧
  L 25 3 = N 25 3 ∧ ∀ b, 0 ≤ b → b < 6 → L 26 b = N 26 b ∧ L 27 b = N 27 b ∧ L 28 b = N 28 b
def WFz (L : LFn) : Prop := ∀ t, 0 ≤ t → t < 30 → 0 ≤ L 10 t ∧ L 10 t ≤ 1
section Cp
variable {G : GT} {K : List Value → Mem → Prop} {X : String → Mem → Prop} {M : Mem} {i j : Int}
theorem sp_trackCopy (hi0 : 0 ≤ i) (hi1 : i < 12) (hj0 : 0 ≤ j) (hj1 : j < 12) (hij : i ≠ j) (hm : ∀ s, 0 ≤ s → s < 12 → 0 ≤ M 1 j 4 s ∧ M 1 j 4 s ≤ 1)
    (k : ∀ M', FrR 1 i (fun c => 2 ≤ c ∧ c ≤ 5) M M' → (∀ k, 0 ≤ k → k < 11 → M' 1 i 2 k = M 1 j 2 k ∧ M' 1 i 3 k = M 1 j 3 k) → (∀ k, 0 ≤ k → k < 12 → M' 1 i 4 k = M 1 j 4 k) → (∀ k, 0 ≤ k → k < 3 → M' 1 i 5 k = M 1 j 5 k) → K [] M') :
    Call G 1 0 zX9_copyFrom [rr G 1 i 1, rr G 1 j 1] M K X := by
  refine bX9_copyFrom hi0 hi1 hj0 hj1 (fun M1 e1 M2 e2 M3 e3 => ?_)
  have f3 : FrR 1 i (fun c => 2 ≤ c ∧ c ≤ 5) M M3 := by
    subst e1; subst e2; subst e3
    exact FrR.row (FrR.row (FrR.row FrR.rf (by omega)) (by omega)) (by omega)
  have c2 : ∀ k, 0 ≤ k → k < 11 → M3 1 i 2 k = M 1 j 2 k ∧ M3 1 i 3 k = M 1 j 3 k := by
    intro k q1 q2
    subst e1; subst e2; subst e3
    rw [wrow_nc (by omega), wrow_nc (by omega), wrow_at, cpy_in q1 q2, wrow_nc (by omega), wrow_at, cpy_in q1 q2, wrow_nc (by omega)]
    exact ⟨rfl, rfl⟩
  have c5 : ∀ k, 0 ≤ k → k < 3 → M3 1 i 5 k = M 1 j 5 k := by
    intro k q1 q2
    subst e1; subst e2; subst e3
    rw [wrow_at, cpy_in q1 q2, wrow_nc (by omega), wrow_nc (by omega)]
  clear e1 e2 e3
  have gen : ∀ s : Int, 0 ≤ s → s ≤ 12 → ∀ N : Mem, FrR 1 i (fun c => c = 4) M3 N → (∀ k, 0 ≤ k → k < s → N 1 i 4 k = M 1 j 4 k) → eX9_copyFrom G K X 46 [(0, rr G 1 i 1), (1, rr G 1 j 1), (2, iv s)] [] N := by
    intro s h0 h1
    refine loop_up (E := fun s => ∀ N : Mem, FrR 1 i (fun c => c = 4) M3 N → (∀ k, 0 ≤ k → k < s → N 1 i 4 k = M 1 j 4 k) → eX9_copyFrom G K X 46 [(0, rr G 1 i 1), (1, rr G 1 j 1), (2, iv s)] [] N) h1 (fun N hN hc => ?_) (fun s q1 q2 hn N hN hc => ?_)
    · refine bX9_copyFrom_46 hi0 hi1 hj0 hj1 ⟨i32 (by omega), fun _ => k N (f3.trans (hN.mono (fun c z => by omega))) (fun k q1 q2 => ?_) hc (fun k q1 q2 => ?_), fun q => absurd q (by omega)⟩
      · rw [hN 1 i 2 (by omega), hN 1 i 3 (by omega)]; exact c2 k q1 q2
      · rw [hN 1 i 5 (by omega)]; exact c5 k q1 q2
    · have e : N 1 j 4 s = M 1 j 4 s := by rw [hN 1 j 4 (by omega), f3 1 j 4 (by omega)]
      refine bX9_copyFrom_46 hi0 hi1 hj0 hj1 ⟨i32 (by omega), fun q => absurd q2 q, fun _ => ⟨by omega, nar01 (by rw [e]; exact hm s (by omega) q2), hn _ (hN.wr rfl) (fun k z1 z2 => ?_)⟩⟩
      by_cases hk : k = s
      · rw [hk, wr_at, e]
      · rw [wr_nk hk]; exact hc k z1 (by omega)
  exact gen 0 (by omega) (by omega) M3 FrR.rf (fun k _ _ => by omega)
theorem sp_tripsCopy (hi0 : 0 ≤ i) (hi1 : i < 12) (hj0 : 0 ≤ j) (hj1 : j < 12) (hij : i ≠ j) (hm : WFz (M 1 j))
    (k : ∀ M', FrR 1 i (fun c => 6 ≤ c ∧ c ≤ 10) M M' → M' 1 i 6 4 = M 1 j 6 4 → (∀ t, 0 ≤ t → t < 30 → M' 1 i 7 t = M 1 j 7 t ∧ M' 1 i 8 t = M 1 j 8 t ∧ M' 1 i 9 t = M 1 j 9 t ∧ M' 1 i 10 t = M 1 j 10 t) → K [] M') :
    Call G 1 0 zX8_copyFrom [rr G 1 i 6, rr G 1 j 6] M K X := by
  refine bX8_copyFrom hi0 hi1 hj0 hj1 (fun M1 e1 M2 e2 M3 e3 => ?_)
  have f3 : FrR 1 i (fun c => 6 ≤ c ∧ c ≤ 10) M M3 := by
    subst e1; subst e2; subst e3
    exact FrR.row (FrR.row (FrR.row FrR.rf (by omega)) (by omega)) (by omega)
  have c2 : ∀ k, 0 ≤ k → k < 30 → M3 1 i 7 k = M 1 j 7 k ∧ M3 1 i 8 k = M 1 j 8 k ∧ M3 1 i 9 k = M 1 j 9 k := by
    intro k q1 q2
    subst e1; subst e2; subst e3
    rw [wrow_nc (by omega), wrow_nc (by omega), wrow_at, cpy_in q1 q2, wrow_nc (by omega), wrow_at, cpy_in q1 q2, wrow_nc (by omega), wrow_at, cpy_in q1 q2, wrow_nc (by omega), wrow_nc (by omega)]
    exact ⟨rfl, rfl, rfl⟩
  clear e1 e2 e3
  have gen : ∀ s : Int, 0 ≤ s → s ≤ 30 → ∀ N : Mem, FrR 1 i (fun c => c = 10) M3 N → (∀ k, 0 ≤ k → k < s → N 1 i 10 k = M 1 j 10 k) → eX8_copyFrom G K X 47 [(0, rr G 1 i 6), (1, rr G 1 j 6), (2, iv s)] [] N := by
    intro s h0 h1
    refine loop_up (E := fun s => ∀ N : Mem, FrR 1 i (fun c => c = 10) M3 N → (∀ k, 0 ≤ k → k < s → N 1 i 10 k = M 1 j 10 k) → eX8_copyFrom G K X 47 [(0, rr G 1 i 6), (1, rr G 1 j 6), (2, iv s)] [] N) h1 (fun N hN hc => ?_) (fun s q1 q2 hn N hN hc => ?_)
    · have e : N 1 j 6 4 = M 1 j 6 4 := by rw [hN 1 j 6 (by omega), f3 1 j 6 (by omega)]
      refine bX8_copyFrom_47 hi0 hi1 hj0 hj1 ⟨i32 (by omega), fun _ => k _ ((f3.trans (hN.mono (fun c z => by omega))).wr (by omega)) ?_ (fun t q1 q2 => ?_), fun q => absurd q (by omega)⟩
      · rw [wr_at, e]
      · rw [wr_nc (by omega), wr_nc (by omega), wr_nc (by omega), wr_nc (by omega), hN 1 i 7 (by omega), hN 1 i 8 (by omega), hN 1 i 9 (by omega)]
        have := c2 t q1 q2
        exact ⟨this.1, this.2.1, this.2.2, hc t q1 q2⟩
    · have e : N 1 j 10 s = M 1 j 10 s := by rw [hN 1 j 10 (by omega), f3 1 j 10 (by omega)]
      refine bX8_copyFrom_47 hi0 hi1 hj0 hj1 ⟨i32 (by omega), fun q => absurd q2 q, fun _ => ⟨by omega, nar01 (by rw [e]; exact hm s (by omega) q2), hn _ (hN.wr rfl) (fun k z1 z2 => ?_)⟩⟩
      by_cases hk : k = s
      · rw [hk, wr_at, e]
      · rw [wr_nk hk]; exact hc k z1 (by omega)
  exact gen 0 (by omega) (by omega) M3 FrR.rf (fun k _ _ => by omega)
theorem sp_fleetCopy (hi0 : 0 ≤ i) (hi1 : i < 12) (hj0 : 0 ≤ j) (hj1 : j < 12) (hij : i ≠ j)
    (k : ∀ M', FrR 1 i (fun c => 11 ≤ c ∧ c ≤ 24) M M' → M' 1 i 11 3 = M 1 j 11 3 → (∀ v, 0 ≤ v → v < 10 → M' 1 i 12 v = M 1 j 12 v ∧ M' 1 i 13 v = M 1 j 13 v ∧ ∀ p, 0 ≤ p → p < 30 → M' 1 i (15 + v) p = M 1 j (15 + v) p) → K [] M') :
    Call G 1 0 zX2_copyFrom [rr G 1 i 11, rr G 1 j 11] M K X := by
  refine bX2_copyFrom hi0 hi1 hj0 hj1 (fun M1 e1 M3 e3 => ?_)
  have f3 : FrR 1 i (fun c => 11 ≤ c ∧ c ≤ 24) M M3 := by
    subst e1; subst e3
    exact FrR.row (FrR.row FrR.rf (by omega)) (by omega)
  have c2 : ∀ k, 0 ≤ k → k < 10 → M3 1 i 12 k = M 1 j 12 k ∧ M3 1 i 13 k = M 1 j 13 k := by
    intro k q1 q2
    subst e1; subst e3
    rw [wrow_nc (by omega), wrow_at, cpy_in q1 q2, wrow_at, cpy_in q1 q2, wrow_nc (by omega)]
    exact ⟨rfl, rfl⟩
  clear e1 e3
  have gen : ∀ s : Int, 0 ≤ s → s ≤ 10 → ∀ N : Mem, FrR 1 i (fun c => 15 ≤ c ∧ c ≤ 24) M3 N → (∀ v, 0 ≤ v → v < s → ∀ p, 0 ≤ p → p < 30 → N 1 i (15 + v) p = M 1 j (15 + v) p) → eX2_copyFrom G K X 32 [(0, rr G 1 i 11), (1, rr G 1 j 11), (2, iv s)] [] N := by
    intro s h0 h1
    refine loop_up (E := fun s => 0 ≤ s → ∀ N : Mem, FrR 1 i (fun c => 15 ≤ c ∧ c ≤ 24) M3 N → (∀ v, 0 ≤ v → v < s → ∀ p, 0 ≤ p → p < 30 → N 1 i (15 + v) p = M 1 j (15 + v) p) → eX2_copyFrom G K X 32 [(0, rr G 1 i 11), (1, rr G 1 j 11), (2, iv s)] [] N) h1 (fun hs0 N hN hc => ?_) (fun s q1 q2 hn hs0 N hN hc => ?_) h0
    · have e : N 1 j 11 3 = M 1 j 11 3 := by rw [hN 1 j 11 (by omega), f3 1 j 11 (by omega)]
      refine bX2_copyFrom_32 hi0 hi1 hj0 hj1 ⟨i32 (by omega), fun _ => k _ ((f3.trans (hN.mono (fun c z => by omega))).wr (by omega)) ?_ (fun v q1 q2 => ?_), fun q => absurd q (by omega)⟩
      · rw [wr_at, e]
      · rw [wr_nc (by omega), wr_nc (by omega), hN 1 i 12 (by omega), hN 1 i 13 (by omega)]
        have := c2 v q1 q2
        exact ⟨this.1, this.2, fun p z1 z2 => by rw [wr_nc (by omega)]; exact hc v q1 q2 p z1 z2⟩
    · refine bX2_copyFrom_32 hi0 hi1 hj0 hj1 ⟨i32 (by omega), fun q => absurd q2 q, fun _ => ⟨by omega, fun N1 eN => ?_⟩⟩
      subst eN
      refine hn (by omega) _ (hN.row (by omega)) (fun v z1 z2 p z3 z4 => ?_)
      by_cases hk : v = s
      · subst hk
        rw [wrow_at, cpy_in z3 z4, hN 1 j (15 + v) (by omega), f3 1 j (15 + v) (by omega)]
      · rw [wrow_nc (by omega)]; exact hc v z1 (by omega) p z3 z4
  exact gen 0 (by omega) (by omega) M3 FrR.rf (fun v _ _ => by omega)
theorem sp_blocksCopy (hi0 : 0 ≤ i) (hi1 : i < 12) (hj0 : 0 ≤ j) (hj1 : j < 12) (hij : i ≠ j)
    (k : ∀ M', FrR 1 i (fun c => 25 ≤ c ∧ c ≤ 28) M M' → M' 1 i 25 3 = M 1 j 25 3 → (∀ b, 0 ≤ b → b < 6 → M' 1 i 26 b = M 1 j 26 b ∧ M' 1 i 27 b = M 1 j 27 b ∧ M' 1 i 28 b = M 1 j 28 b) → K [] M') :
    Call G 1 0 zX0_copyFrom [rr G 1 i 25, rr G 1 j 25] M K X := by
  refine bX0_copyFrom hi0 hi1 hj0 hj1 (fun M1 e1 M2 e2 M3 e3 => ?_)
  subst e1; subst e2; subst e3
  refine k _ (FrR.wr (FrR.row (FrR.row (FrR.row FrR.rf (by omega)) (by omega)) (by omega)) (by omega)) ?_ (fun b q1 q2 => ?_)
  · rw [wr_at, wrow_nb (by omega), wrow_nb (by omega), wrow_nb (by omega)]
  · rw [wr_nc (by omega), wr_nc (by omega), wr_nc (by omega), wrow_nc (by omega), wrow_nc (by omega), wrow_at, cpy_in q1 q2, wrow_nc (by omega), wrow_at, cpy_in q1 q2, wrow_nc (by omega), wrow_at, cpy_in q1 q2, wrow_nc (by omega), wrow_nc (by omega)]
    exact ⟨rfl, rfl, rfl⟩
theorem sp_lineCopy (hi0 : 0 ≤ i) (hi1 : i < 12) (hj0 : 0 ≤ j) (hj1 : j < 12) (hij : i ≠ j) (hm : ∀ s, 0 ≤ s → s < 12 → 0 ≤ M 1 j 4 s ∧ M 1 j 4 s ≤ 1) (hz : WFz (M 1 j))
    (k : ∀ M', FrR 1 i (fun _ => True) M M' → LEq (M' 1 i) (M 1 j) → K [] M') :
    Call G 2 0 zX4_copyFrom [rr G 1 i 0, rr G 1 j 0] M K X := by
  refine bX4_copyFrom hi0 hi1 hj0 hj1 (sp_trackCopy hi0 hi1 hj0 hj1 hij hm (fun M1 f1 a2 a4 a5 => kV_mk ?_))
  have jj : ∀ c, M1 1 j c = M 1 j c := fun c => f1 1 j c (by omega)
  refine sp_tripsCopy hi0 hi1 hj0 hj1 hij (fun t q1 q2 => by rw [jj]; exact hz t q1 q2) (fun M2 f2 b6 b7 => kV_mk ?_)
  have jj2 : ∀ c, M2 1 j c = M 1 j c := fun c => (f2 1 j c (by omega)).trans (jj c)
  refine sp_fleetCopy hi0 hi1 hj0 hj1 hij (fun M3 f3 c11 c12 => kV_mk ?_)
  have jj3 : ∀ c, M3 1 j c = M 1 j c := fun c => (f3 1 j c (by omega)).trans (jj2 c)
  refine sp_blocksCopy hi0 hi1 hj0 hj1 hij (fun M4 f4 d25 d26 => kV_mk ?_)
  refine k M4 ((((f1.mono (fun _ _ => trivial)).trans (f2.mono (fun _ _ => trivial))).trans (f3.mono (fun _ _ => trivial))).trans (f4.mono (fun _ _ => trivial))) ⟨fun k q1 q2 => ?_, fun k q1 q2 => ?_, fun k q1 q2 => ?_, ?_, fun t q1 q2 => ?_, ?_, fun v q1 q2 => ?_, ?_, fun b q1 q2 => ?_⟩
  · rw [f4 1 i 2 (by omega), f4 1 i 3 (by omega), f3 1 i 2 (by omega), f3 1 i 3 (by omega), f2 1 i 2 (by omega), f2 1 i 3 (by omega)]; exact a2 k q1 q2
  · rw [f4 1 i 4 (by omega), f3 1 i 4 (by omega), f2 1 i 4 (by omega)]; exact a4 k q1 q2
  · rw [f4 1 i 5 (by omega), f3 1 i 5 (by omega), f2 1 i 5 (by omega)]; exact a5 k q1 q2
  · rw [f4 1 i 6 (by omega), f3 1 i 6 (by omega), b6, jj]
  · rw [f4 1 i 7 (by omega), f3 1 i 7 (by omega), f4 1 i 8 (by omega), f3 1 i 8 (by omega), f4 1 i 9 (by omega), f3 1 i 9 (by omega), f4 1 i 10 (by omega), f3 1 i 10 (by omega)]
    have := b7 t q1 q2
    rw [jj, jj, jj, jj] at this
    exact this
  · rw [f4 1 i 11 (by omega), c11, jj2]
  · have := c12 v q1 q2
    rw [jj2, jj2] at this
    rw [f4 1 i 12 (by omega), f4 1 i 13 (by omega)]
    exact ⟨this.1, this.2.1, fun p z1 z2 => by rw [f4 1 i (15 + v) (by omega), this.2.2 p z1 z2, jj2]⟩
  · rw [d25, jj3]
  · have := d26 b q1 q2
    rw [jj3, jj3, jj3] at this
    exact this
end Cp
