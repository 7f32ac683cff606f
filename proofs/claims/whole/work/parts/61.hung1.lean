/-! ===== the pairing: prices, reaching ===== -/
section Hg1
variable {G : GT} {K : List Value → Mem → Prop} {X : String → Mem → Prop} {M : Mem} {n : Int}
theorem sp_changePrices {dl : Int} (en : M 6 0 0 7 = n) (hn0 : 0 ≤ n) (hn1 : n ≤ 30) (hrc : ∀ c, 0 ≤ c → c ≤ n → M 6 0 38 c = 0 ∨ M 6 0 38 c = 1) (hp : ∀ c, 0 ≤ c → c ≤ n → M 6 0 38 c = 1 → 1 ≤ M 6 0 35 c ∧ M 6 0 35 c ≤ n)
    (k : ∀ M', FrR 6 0 (fun c => c = 33 ∨ c = 34 ∨ c = 37) M M' → (∀ r, M' 6 0 33 r = M 6 0 33 r + sumT (fun b => if M 6 0 38 b = 1 ∧ M 6 0 35 b = r then dl else 0) 0 (n + 1)) →
      (∀ c, 0 ≤ c → c ≤ n → M' 6 0 34 c = if M 6 0 38 c = 1 then M 6 0 34 c - dl else M 6 0 34 c) → (∀ c, 0 ≤ c → c ≤ n → M' 6 0 37 c = if M 6 0 38 c = 1 then M 6 0 37 c else M 6 0 37 c - dl) →
      sumT (M' 6 0 33) 1 (n + 1) + sumT (M' 6 0 34) 0 (n + 1) = sumT (M 6 0 33) 1 (n + 1) + sumT (M 6 0 34) 0 (n + 1) → K [] M') :
    Call G 0 0 zX5_changePrices [rr G 6 0 0, iv dl] M K X := by
  have gen := loop_up (E := fun q => 0 ≤ q → ∀ N : Mem, FrR 6 0 (fun c => c = 33 ∨ c = 34 ∨ c = 37) M N → (∀ r, N 6 0 33 r = M 6 0 33 r + sumT (fun b => if M 6 0 38 b = 1 ∧ M 6 0 35 b = r then dl else 0) 0 q) →
      (∀ c, N 6 0 34 c = if 0 ≤ c ∧ c < q ∧ M 6 0 38 c = 1 then M 6 0 34 c - dl else M 6 0 34 c) → (∀ c, N 6 0 37 c = if 0 ≤ c ∧ c < q ∧ ¬ M 6 0 38 c = 1 then M 6 0 37 c - dl else M 6 0 37 c) →
      sumT (N 6 0 33) 1 (n + 1) + sumT (N 6 0 34) 0 (n + 1) = sumT (M 6 0 33) 1 (n + 1) + sumT (M 6 0 34) 0 (n + 1) → eX5_changePrices G K X 2 [(0, rr G 6 0 0), (1, iv dl), (2, iv q)] [] N) (a := 0) (b := n + 1) (by omega) (fun _ N fN e33 e34 e37 eS => by
    have e0 : N 6 0 0 7 = n := by rw [fN 6 0 0 (by omega)]; exact en
    refine bX5_changePrices_2 ⟨i32 (by omega), by rw [e0]; exact i32 (by omega), fun _ => ?_, fun z => absurd z (by rw [e0]; omega)⟩
    refine k N fN e33 (fun c c0 c1 => ?_) (fun c c0 c1 => ?_) eS
    · rw [e34 c]
      by_cases h : M 6 0 38 c = 1
      · rw [if_pos ⟨c0, by omega, h⟩, if_pos h]
      · rw [if_neg (fun w => h w.2.2), if_neg h]
    · rw [e37 c]
      by_cases h : M 6 0 38 c = 1
      · rw [if_neg (fun w => w.2.2 h), if_pos h]
      · rw [if_pos ⟨c0, by omega, h⟩, if_neg h]) (fun q q1 q2 hn9 _ N fN e33 e34 e37 eS => by
    have e0 : N 6 0 0 7 = n := by rw [fN 6 0 0 (by omega)]; exact en
    have e38 : N 6 0 38 = M 6 0 38 := fN 6 0 38 (by omega)
    have e35 : N 6 0 35 = M 6 0 35 := fN 6 0 35 (by omega)
    have hq := hrc q q1 (by omega)
    refine bX5_changePrices_2 ⟨i32 (by omega), by rw [e0]; exact i32 (by omega), fun z => absurd z (by rw [e0]; omega), fun _ => ⟨q1, by omega, ?_⟩⟩
    rw [e38, e35]
    refine ⟨i32 (by omega), fun z => ?_, fun z => ?_⟩
    · refine hn9 (by omega) _ (fN.wr (by omega)) (fun r => ?_) (fun c => ?_) (fun c => ?_) ?_
      · rw [wr_nc (by omega), e33, sumT_step _ q1, if_neg (fun w => by omega)]
        omega
      · rw [wr_nc (by omega), e34]
        by_cases hc : c = q
        · rw [if_neg (by omega), if_neg (by rw [hc]; omega)]
        · by_cases h : 0 ≤ c ∧ c < q ∧ M 6 0 38 c = 1
          · rw [if_pos h, if_pos ⟨h.1, by omega, h.2.2⟩]
          · rw [if_neg h, if_neg (fun w => h ⟨w.1, by omega, w.2.2⟩)]
      · by_cases hc : c = q
        · rw [hc, wr_at, e37, if_neg (by omega), if_pos ⟨q1, by omega, by omega⟩]
        · rw [wr_nk hc, e37]
          by_cases h : 0 ≤ c ∧ c < q ∧ ¬ M 6 0 38 c = 1
          · rw [if_pos h, if_pos ⟨h.1, by omega, h.2.2⟩]
          · rw [if_neg h, if_neg (fun w => h ⟨w.1, by omega, w.2.2⟩)]
      · rw [wr_nc (by omega), wr_nc (by omega)]
        exact eS
    · have hr1 : M 6 0 38 q = 1 := by omega
      have hp9 := hp q q1 (by omega) hr1
      refine ⟨by omega, by omega, fun M22 e22 => ?_⟩
      have f33 : M22 6 0 33 = upI (N 6 0 33) (M 6 0 35 q) (N 6 0 33 (M 6 0 35 q) + dl) := by
        rw [e22, wr_nc (by omega)]
        funext x
        unfold wr
        rw [wrow_at]
      have f34 : M22 6 0 34 = upI (N 6 0 34) q (N 6 0 34 q - dl) := by
        rw [e22]
        unfold wr
        rw [wrow_at, wrow_nc (by omega)]
      have f37 : M22 6 0 37 = N 6 0 37 := by rw [e22, wr_nc (by omega), wr_nc (by omega)]
      refine hn9 (by omega) _ (by rw [e22]; exact (fN.wr (by omega)).wr (by omega)) (fun r => ?_) (fun c => ?_) (fun c => ?_) ?_
      · rw [f33, sumT_step _ q1]
        have := e33 r
        unfold upI
        by_cases h : r = M 6 0 35 q
        · rw [if_pos h, if_pos ⟨hr1, h.symm⟩, ← h]; omega
        · rw [if_neg h, if_neg (fun w => h w.2.symm)]; omega
      · rw [f34]
        unfold upI
        by_cases hc : c = q
        · rw [if_pos hc, e34, if_neg (by omega), hc, if_pos ⟨q1, by omega, hr1⟩]
        · rw [if_neg hc, e34]
          by_cases h : 0 ≤ c ∧ c < q ∧ M 6 0 38 c = 1
          · rw [if_pos h, if_pos ⟨h.1, by omega, h.2.2⟩]
          · rw [if_neg h, if_neg (fun w => h ⟨w.1, by omega, w.2.2⟩)]
      · rw [f37, e37]
        by_cases hc : c = q
        · rw [if_neg (by omega), if_neg (fun w => w.2.2 (by rw [hc]; exact hr1))]
        · by_cases h : 0 ≤ c ∧ c < q ∧ ¬ M 6 0 38 c = 1
          · rw [if_pos h, if_pos ⟨h.1, by omega, h.2.2⟩]
          · rw [if_neg h, if_neg (fun w => h ⟨w.1, by omega, w.2.2⟩)]
      · rw [f33, f34, sumT_upI _ _ hp9.1 (by omega), sumT_upI _ _ q1 q2]
        omega)
  refine bX5_changePrices (gen (Int.le_refl _) M FrR.rf (fun r => ?_) (fun c => ?_) (fun c => ?_) rfl)
  · rw [sumT_same]; omega
  · rw [if_neg (by omega)]
  · rw [if_neg (by omega)]
/-- the way from a row to a column, as the prices are -/
def wayH (M : Mem) (row c : Int) : Int := M 6 0 (2 + row) c - M 6 0 33 row - M 6 0 34 c
theorem sp_reachFrom {col row : Int} (en : M 6 0 0 7 = n) (hn0 : 0 ≤ n) (hn1 : n ≤ 30) (hc0 : 0 ≤ col) (hc1 : col ≤ n) (er : M 6 0 35 col = row) (hr0 : 0 ≤ row) (hr1 : row ≤ 30) (hrc : ∀ c, 0 ≤ c → c ≤ n → M 6 0 38 c = 0 ∨ M 6 0 38 c = 1)
    (hbd : ∀ c, 1 ≤ c → c ≤ n → M 6 0 38 c = 0 → c ≠ col → -100000 ≤ wayH M row c ∧ wayH M row c ≤ 100000 ∧ -100000 ≤ M 6 0 37 c ∧ M 6 0 37 c ≤ 1000000)
    (k : ∀ N ne, FrR 6 0 (fun c => 36 ≤ c ∧ c ≤ 38) M N → N 6 0 38 = upI (M 6 0 38) col 1 → (∀ c, 1 ≤ c → c ≤ n → N 6 0 38 c = 0 → N 6 0 37 c = min (M 6 0 37 c) (wayH M row c) ∧ N 6 0 36 c = if wayH M row c < M 6 0 37 c then col else M 6 0 36 c) →
      (∀ c, ¬ (1 ≤ c ∧ c ≤ n ∧ N 6 0 38 c = 0) → N 6 0 37 c = M 6 0 37 c ∧ N 6 0 36 c = M 6 0 36 c) →
      ((ne = 0 ∧ ∀ c, 1 ≤ c → c ≤ n → N 6 0 38 c ≠ 0) ∨ (1 ≤ ne ∧ ne ≤ n ∧ N 6 0 38 ne = 0 ∧ ∀ c, 1 ≤ c → c ≤ n → N 6 0 38 c = 0 → N 6 0 37 ne ≤ N 6 0 37 c)) →
      Call G 0 0 zX5_changePrices [rr G 6 0 0, iv (if ne = 0 then 0 else N 6 0 37 ne)] N (kV (fun M2 => K [iv ne] M2)) noX) :
    Call G 1 0 zX5_reachFrom [rr G 6 0 0, iv col] M K X := by
  refine bX5_reachFrom ⟨hc0, by omega, ?_⟩
  rw [er]
  have z38 : wr M 6 0 38 col 1 6 0 38 = upI (M 6 0 38) col 1 := by
    unfold wr
    rw [wrow_at]
  have gen := loop_up (E := fun o => 1 ≤ o → ∀ (N : Mem) (ne : Int), FrR 6 0 (fun c => 36 ≤ c ∧ c ≤ 38) M N → N 6 0 38 = upI (M 6 0 38) col 1 → (∀ c, 1 ≤ c → c < o → N 6 0 38 c = 0 → N 6 0 37 c = min (M 6 0 37 c) (wayH M row c) ∧ N 6 0 36 c = if wayH M row c < M 6 0 37 c then col else M 6 0 36 c) →
      (∀ c, ¬ (1 ≤ c ∧ c < o ∧ N 6 0 38 c = 0) → N 6 0 37 c = M 6 0 37 c ∧ N 6 0 36 c = M 6 0 36 c) →
      ((ne = 0 ∧ ∀ c, 1 ≤ c → c < o → N 6 0 38 c ≠ 0) ∨ (1 ≤ ne ∧ ne < o ∧ N 6 0 38 ne = 0 ∧ ∀ c, 1 ≤ c → c < o → N 6 0 38 c = 0 → N 6 0 37 ne ≤ N 6 0 37 c)) →
      eX5_reachFrom G K X 19 [(0, rr G 6 0 0), (1, iv col), (2, iv row), (3, iv ne), (4, iv o)] [] N) (a := 1) (b := n + 1) (by omega) (fun _ N ne fN e38 eA eB eC => by
    have e0 : N 6 0 0 7 = n := by rw [fN 6 0 0 (by omega)]; exact en
    have kk := k N ne fN e38 (fun c c0 c1 => eA c c0 (by omega)) (fun c hc => eB c (fun w => hc ⟨w.1, by omega, w.2.2⟩)) (by
      rcases eC with ⟨h1, h2⟩ | ⟨h1, h2, h3, h4⟩
      · exact Or.inl ⟨h1, fun c c0 c1 => h2 c c0 (by omega)⟩
      · exact Or.inr ⟨h1, by omega, h3, fun c c0 c1 => h4 c c0 (by omega)⟩)
    refine bX5_reachFrom_19 ⟨i32 (by omega), by rw [e0]; exact i32 (by omega), fun _ => ⟨i32 (by omega), fun z => ⟨by omega, by omega, ?_⟩, fun z => ?_⟩, fun z => absurd z (by rw [e0]; omega)⟩
    · rw [if_neg z] at kk; exact kk
    · rw [if_pos z] at kk; exact kk) (fun o q1 q2 hn9 _ N ne fN e38 eA eB eC => by
    have e0 : N 6 0 0 7 = n := by rw [fN 6 0 0 (by omega)]; exact en
    have ew : N 6 0 (2 + row) o - N 6 0 33 row - N 6 0 34 o = wayH M row o := by
      unfold wayH
      rw [fN 6 0 (2 + row) (by omega), fN 6 0 33 (by omega), fN 6 0 34 (by omega)]
    have rc01 : ∀ c, 0 ≤ c → c ≤ n → N 6 0 38 c = 0 ∨ N 6 0 38 c = 1 := fun c c0 c1 => by
      rw [e38]
      unfold upI
      split
      · exact Or.inr rfl
      · exact hrc c c0 c1
    have ho := rc01 o (by omega) (by omega)
    have eo := eB o (by omega)
    have bnd : ∀ c, 1 ≤ c → c ≤ n → N 6 0 38 c = 0 → -100000 ≤ wayH M row c ∧ wayH M row c ≤ 100000 ∧ -100000 ≤ M 6 0 37 c ∧ M 6 0 37 c ≤ 1000000 := fun c c0 c1 h => by
      rw [e38] at h
      unfold upI at h
      by_cases hc : c = col
      · rw [if_pos hc] at h; omega
      · rw [if_neg hc] at h
        exact hbd c c0 c1 h hc
    have sbd : ∀ c, 1 ≤ c → c < o → N 6 0 38 c = 0 → I32 (N 6 0 37 c) := fun c c0 c1 h => by
      have := bnd c c0 (by omega) h
      rw [(eA c c0 c1 h).1]
      exact i32 (by omega)
    refine bX5_reachFrom_19 ⟨i32 (by omega), by rw [e0]; exact i32 (by omega), fun z => absurd z (by rw [e0]; omega), fun _ => ⟨by omega, by omega, i32 (by omega), fun z => ?_, fun z => ?_⟩⟩
    · refine hn9 (by omega) N ne fN e38 (fun c c0 c1 h => eA c c0 (by by_cases hc : c = o; exact absurd (hc ▸ h) z; omega) h) (fun c hc => eB c (fun w => hc ⟨w.1, by omega, w.2.2⟩)) ?_
      rcases eC with ⟨h1, h2⟩ | ⟨h1, h2, h3, h4⟩
      · exact Or.inl ⟨h1, fun c c0 c1 => by by_cases hc : c = o; exact hc ▸ z; exact h2 c c0 (by omega)⟩
      · exact Or.inr ⟨h1, by omega, h3, fun c c0 c1 h => h4 c c0 (by by_cases hc : c = o; exact absurd (hc ▸ h) z; omega) h⟩
    · have bo := bnd o (by omega) (by omega) z
      rw [ew, eo.1]
      -- how it goes on with the row of slacks N'
      have fin : ∀ N' : Mem, FrR 6 0 (fun c => 36 ≤ c ∧ c ≤ 38) M N' → N' 6 0 38 = N 6 0 38 → (∀ c, c ≠ o → N' 6 0 37 c = N 6 0 37 c ∧ N' 6 0 36 c = N 6 0 36 c) → N' 6 0 37 o = min (M 6 0 37 o) (wayH M row o) → (N' 6 0 36 o = if wayH M row o < M 6 0 37 o then col else M 6 0 36 o) → ∀ ne' : Int,
          ((ne' = 0 ∧ ∀ c, 1 ≤ c → c < o + 1 → N' 6 0 38 c ≠ 0) ∨ (1 ≤ ne' ∧ ne' < o + 1 ∧ N' 6 0 38 ne' = 0 ∧ ∀ c, 1 ≤ c → c < o + 1 → N' 6 0 38 c = 0 → N' 6 0 37 ne' ≤ N' 6 0 37 c)) → eX5_reachFrom G K X 19 [(0, rr G 6 0 0), (1, iv col), (2, iv row), (3, iv ne'), (4, iv (o + 1))] [] N' := by
        intro N' f' e38' h1 h2 h3 ne' hne
        refine hn9 (by omega) N' ne' f' (e38'.trans e38) (fun c c0 c1 h => ?_) (fun c hc => ?_) hne
        · by_cases hc : c = o
          · rw [hc]; exact ⟨h2, h3⟩
          · rw [(h1 c hc).1, (h1 c hc).2]
            exact eA c c0 (by omega) (by rw [e38'] at h; exact h)
        · rw [e38'] at hc
          have hco : c ≠ o := fun w => hc ⟨by omega, by omega, by rw [w]; exact z⟩
          rw [(h1 c hco).1, (h1 c hco).2]
          exact eB c (fun w => hc ⟨w.1, by omega, w.2.2⟩)
      -- which is nearest
      have near : ∀ N' : Mem, N' 6 0 38 = N 6 0 38 → (∀ c, c ≠ o → N' 6 0 37 c = N 6 0 37 c) → ∀ ne' : Int, (ne = 0 ∧ ne' = o) ∨ (ne ≠ 0 ∧ ¬ N' 6 0 37 o < N' 6 0 37 ne ∧ ne' = ne) ∨ (ne ≠ 0 ∧ N' 6 0 37 o < N' 6 0 37 ne ∧ ne' = o) →
          ((ne' = 0 ∧ ∀ c, 1 ≤ c → c < o + 1 → N' 6 0 38 c ≠ 0) ∨ (1 ≤ ne' ∧ ne' < o + 1 ∧ N' 6 0 38 ne' = 0 ∧ ∀ c, 1 ≤ c → c < o + 1 → N' 6 0 38 c = 0 → N' 6 0 37 ne' ≤ N' 6 0 37 c)) := by
        intro N' e38' h1 ne' hne
        rw [e38']
        rcases eC with ⟨c1, c2⟩ | ⟨c1, c2, c3, c4⟩
        · have : ne' = o := by omega
          subst this
          refine Or.inr ⟨by omega, by omega, z, fun c q0 q9 h => ?_⟩
          by_cases hc : c = ne'
          · rw [hc]; exact Int.le_refl _
          · exact absurd h (c2 c q0 (by omega))
        · have hno : ne ≠ o := by omega
          have en9 := h1 ne hno
          rcases hne with ⟨w1, w2⟩ | ⟨w1, w2, w3⟩ | ⟨w1, w2, w3⟩
          · omega
          · subst w3
            refine Or.inr ⟨c1, by omega, c3, fun c q0 q9 h => ?_⟩
            by_cases hc : c = o
            · rw [hc]; omega
            · rw [en9, h1 c hc]; exact c4 c q0 (by omega) h
          · subst w3
            refine Or.inr ⟨by omega, by omega, z, fun c q0 q9 h => ?_⟩
            by_cases hc : c = ne'
            · rw [hc]; exact Int.le_refl _
            · have := c4 c q0 (by omega) h
              rw [h1 c hc]; omega
      have ib : 0 ≤ ne ∧ ne < 31 ∧ (ne ≠ 0 → ne ≠ o ∧ I32 (N 6 0 37 ne)) := by
        rcases eC with ⟨c1, c2⟩ | ⟨c1, c2, c3, c4⟩
        · exact ⟨by omega, by omega, fun w => absurd c1 w⟩
        · exact ⟨by omega, by omega, fun _ => ⟨by omega, sbd ne c1 c2 c3⟩⟩
      refine ⟨by omega, by omega, i32 (by omega), i32 (by omega), fun y => ?_, fun y => ?_⟩
      · have hmin : N 6 0 37 o = min (M 6 0 37 o) (wayH M row o) := by rw [eo.1]; omega
        have hb9 : (N 6 0 36 o = if wayH M row o < M 6 0 37 o then col else M 6 0 36 o) := by rw [if_neg y]; exact eo.2
        have F := fin N fN rfl (fun _ _ => ⟨rfl, rfl⟩) hmin hb9
        have D := near N rfl (fun _ _ => rfl)
        refine ⟨⟨by have := ib.1; omega, by have := ib.2.1; omega⟩, fun w => F o (D o (Or.inl ⟨w, rfl⟩)), fun w => ⟨ib.1, ib.2.1, (ib.2.2 w).2, fun u => ?_, fun u => ?_⟩⟩
        · exact F ne (D ne (Or.inr (Or.inl ⟨w, by rw [eo.1]; exact u, rfl⟩)))
        · exact F o (D o (Or.inr (Or.inr ⟨w, by rw [eo.1]; exact u, rfl⟩)))
      · intro M63 e63
        have h37 : ∀ c, c ≠ o → M63 6 0 37 c = N 6 0 37 c := fun c hc => by rw [e63, wr_nk hc]
        have h37o : M63 6 0 37 o = wayH M row o := by rw [e63, wr_at]
        have F := fin (wr M63 6 0 36 o col) (FrR.wr (by rw [e63]; exact fN.wr (by omega)) (by omega)) (by rw [wr_nc (by omega), e63, wr_nc (by omega)]) (fun c hc => ⟨by rw [wr_nc (by omega)]; exact h37 c hc, by rw [wr_nk hc, e63, wr_nc (by omega)]⟩)
          (by rw [wr_nc (by omega), h37o]; omega) (by rw [wr_at, if_pos y])
        have D := near (wr M63 6 0 36 o col) (by rw [wr_nc (by omega), e63, wr_nc (by omega)]) (fun c hc => by rw [wr_nc (by omega)]; exact h37 c hc)
        rw [wr_nc (by omega)] at D
        refine ⟨⟨by have := ib.1; omega, by have := ib.2.1; omega⟩, fun w => F o (D o (Or.inl ⟨w, rfl⟩)), fun w => ⟨ib.1, ib.2.1, by rw [h37o]; exact i32 (by omega), by rw [h37 ne (ib.2.2 w).1]; exact (ib.2.2 w).2, fun u => ?_, fun u => ?_⟩⟩
        · exact F ne (D ne (Or.inr (Or.inl ⟨w, u, rfl⟩)))
        · exact F o (D o (Or.inr (Or.inr ⟨w, u, rfl⟩))))
  refine gen (Int.le_refl _) (wr M 6 0 38 col 1) 0 (FrR.rf.wr (by omega)) z38 (fun c c0 c1 _ => by omega) (fun c _ => ⟨by rw [wr_nc (by omega)], by rw [wr_nc (by omega)]⟩) (Or.inl ⟨rfl, fun c c0 c1 => by omega⟩)
end Hg1
