/-! ===== the run ends ===== -/
theorem sumT_le {f g : Int → Int} {a b v : Int} (hv0 : a ≤ v) (hv1 : v < b) (h : ∀ x, a ≤ x → x < b → x ≠ v → f x = g x) (hlt : f v + 1 ≤ g v) : sumT f a b + 1 ≤ sumT g a b := by
  have key : ∀ n : Nat, (v < a + n → sumT f a (a + n) + 1 ≤ sumT g a (a + n)) ∧ (¬ v < a + n → sumT f a (a + n) = sumT g a (a + n)) ∨ b < a + n := by
    intro n
    induction n with
    | zero => exact Or.inl ⟨fun q => by omega, fun _ => by simp [sumT_same]⟩
    | succ n ih =>
      rcases ih with ⟨h1, h2⟩ | ih
      · by_cases hb : b < a + ((n + 1 : Nat) : Int)
        · exact Or.inr hb
        · refine Or.inl ⟨fun q => ?_, fun q => ?_⟩
          · rw [show a + ((n + 1 : Nat) : Int) = a + n + 1 by omega, sumT_step _ (by omega), sumT_step _ (by omega)]
            by_cases hv : v < a + n
            · have := h1 hv
              have := h (a + n) (by omega) (by omega) (by omega)
              omega
            · have h3 := h2 hv
              have hvn : v = a + n := by omega
              rw [hvn] at hlt
              omega
          · rw [show a + ((n + 1 : Nat) : Int) = a + n + 1 by omega, sumT_step _ (by omega), sumT_step _ (by omega), h2 (by omega), h (a + n) (by omega) (by omega) (by omega)]
      · exact Or.inr (by omega)
  have := key (b - a).toNat
  rw [show a + (((b - a).toNat : Nat) : Int) = b by omega] at this
  rcases this with ⟨h1, -⟩ | h
  · exact h1 hv1
  · omega
section Dl
variable {L D : LFn}
theorem begT_other {v p rd c k : Int} (h : k ≠ v ∨ (c ≠ 66 ∧ c ≠ 67 ∧ c ≠ 68 ∧ c ≠ 69)) : begT L D v p rd c k = D c k := by
  unfold begT
  split <;> simp only [up1_any]
  · rw [if_neg (by omega), if_neg (by omega), if_neg (by omega), if_neg (by omega)]
  · rw [if_neg (by omega), if_neg (by omega)]
theorem movT_other {v d n c k : Int} (hc : (c = 66 ∨ c = 67) ∨ ((c = 68 ∨ c = 69) ∧ k ≠ v)) (ht0 : 0 ≤ D 66 v) (ht1 : D 66 v < 30) (hd0 : 0 ≤ d) (hd1 : d < 2) : movT D v d n c k = D c k := by
  unfold movT
  simp only [up1_any]
  rw [if_neg (by omega), if_neg (by omega), if_neg (by omega), if_neg (by omega), if_neg (by omega)]
theorem movT_68 {v d n : Int} (ht1 : D 66 v < 30) : movT D v d n 68 v = nxS D v d := by
  unfold movT
  rw [up1_nc (by omega), up1_nc (by omega), up1_at]
theorem movT_69 {v d n : Int} (ht1 : D 66 v < 30) : movT D v d n 69 v = D 69 v + n := by
  unfold movT
  rw [up1_nc (by omega), up1_at]
/-- a look is one of these -/
theorem look_cases (P : LFn → Prop) (hm : WFm L) (hb : WFb L) {v : Int} (hs0 : 0 ≤ secT L D v) (hs1 : secT L D v < 11) (hl : D (64 + dirn L (D 66 v)) (D 68 v) ≤ 2999) (hA : P (up1 D 66 v (-1)))
    (hB : ∀ c x w, (c = 3 ∨ c = 4) → D 69 v < w → w ≤ 3100 → P (up1 (up1 D 0 c x) 69 v w))
    (hC : ∀ D' n, (D' = D ∨ ∃ x, D' = up1 D 0 2 x) → 1 ≤ n → n ≤ 30 → D 69 v < 3000 → P (depT L D' v (dirn L (D 66 v)) n)) : P (lookD L D v) := by
  have hs := hm.2.2.2.2
  have h2 := hm.1 _ hs0 hs1
  unfold lookD
  split
  · exact hA
  · split
    · exact hB 3 _ _ (Or.inl rfl) (by assumption) (by unfold frT; omega)
    · split
      · exact hC D _ (Or.inl rfl) (by omega) (by omega) (by omega)
      · rename_i q1 q2 q3
        split
        · exact hC _ _ (Or.inr ⟨_, rfl⟩) (by omega) (by omega) (by omega)
        · have hq : 0 ≤ blkA L (secT L D v) (D 69 v) ∧ blkA L (secT L D v) (D 69 v) < L 25 3 ∧ D 69 v ≤ L 28 (blkA L (secT L D v) (D 69 v)) := by
            rcases srch_spec (p := fun b => decide (L 26 b = secT L D v ∧ L 27 b ≤ D 69 v ∧ D 69 v ≤ L 28 b)) (k := 0) (b := L 25 3) with ⟨h, -⟩ | ⟨h3, h4, h5, -⟩
            · exact absurd h q3
            · refine ⟨h3, h4, ?_⟩
              simp only [decide_eq_true_eq] at h5
              exact h5.2.2
          have hbb := hb.2 _ hq.1 hq.2.1
          exact hB 4 _ _ (Or.inr rfl) (by omega) (by omega)
/-- a step keeps the bounds, and the tram comes on -/
theorem depT_ok (hv : WFv L) (ht : WFt L) (hm : WFm L) (hI : DI L D) {v n : Int} (h0 : 0 ≤ v) (h1 : v < L 11 3) (ho : onTr L D v) (hw : D 69 v < 3000) (hn0 : 1 ≤ n) (hn1 : n ≤ 30) :
    DI L (depT L D v (dirn L (D 66 v)) n) ∧ (∀ c k, (c = 66 ∨ c = 69) → k ≠ v → depT L D v (dirn L (D 66 v)) n c k = D c k) ∧ (depT L D v (dirn L (D 66 v)) n 66 v = -1 ∨ D 69 v < depT L D v (dirn L (D 66 v)) n 69 v) := by
  have ok := trip_ok hv ht h0 h1 ho
  obtain ⟨o1, o2, o3, o4, o5, o6, o7, o8, o9, o10, o11⟩ := ok
  obtain ⟨a1, a2, a3, a4, a5, a6, a7⟩ := ho
  have hs := hm.2.2.2.2
  generalize hd : dirn L (D 66 v) = d at *
  have m66 : ∀ k, movT D v d n 66 k = D 66 k := fun k => movT_other (Or.inl (Or.inl rfl)) o1 o3 (by omega) (by omega)
  have m67 : ∀ k, movT D v d n 67 k = D 67 k := fun k => movT_other (Or.inl (Or.inr rfl)) o1 o3 (by omega) (by omega)
  have m68 : movT D v d n 68 v = nxS D v d := movT_68 o3
  have m69 : movT D v d n 69 v = D 69 v + n := movT_69 o3
  have mo : ∀ c k, c = 68 ∨ c = 69 → k ≠ v → movT D v d n c k = D c k := fun c k hc hk => movT_other (Or.inr ⟨hc, hk⟩) o1 o3 (by omega) (by omega)
  have mr1 : ∀ d' s, 0 ≤ d' → d' < 2 → 0 ≤ s → s < 12 → -1000 ≤ movT D v d n (64 + d') s ∧ movT D v d n (64 + d') s ≤ 2999 := by
    intro d' s q0 q1 q2 q3
    have := hI.2.1 d' s q0 q1 q2 q3
    unfold movT
    simp only [up1_any]
    rw [if_neg (by omega), if_neg (by omega), if_neg (by omega)]
    split
    · omega
    · rw [if_neg (by omega)]
      exact this
  have mr2 : ∀ t s, 0 ≤ t → t < 30 → 0 ≤ s → s < 12 → (-1 ≤ movT D v d n (2 + t) s ∧ movT D v d n (2 + t) s ≤ 3100) ∧ -1 ≤ movT D v d n (33 + t) s ∧ movT D v d n (33 + t) s ≤ 3100 := by
    intro t s q0 q1 q2 q3
    have := hI.2.2 t s q0 q1 q2 q3
    unfold movT
    simp only [up1_any]
    refine ⟨?_, ?_⟩
    · split
      · omega
      · rw [if_neg (by omega), if_neg (by omega), if_neg (by omega), if_neg (by omega)]
        exact this.1
    · rw [if_neg (by omega), if_neg (by omega), if_neg (by omega), if_neg (by omega)]
      split
      · omega
      · exact this.2
  unfold depT
  by_cases hz : nxS D v d = L 8 (D 66 v)
  · rw [if_pos hz]
    have bo : ∀ c k, k ≠ v ∨ (c ≠ 66 ∧ c ≠ 67 ∧ c ≠ 68 ∧ c ≠ 69) → begT L (movT D v d n) v (D 67 v + 1) (D 69 v + n + L 5 0) c k = movT D v d n c k := fun c k h => begT_other h
    have bv : begT L (movT D v d n) v (D 67 v + 1) (D 69 v + n + L 5 0) 66 v = -1 ∨ (onTr L (begT L (movT D v d n) v (D 67 v + 1) (D 69 v + n + L 5 0)) v ∧ D 69 v < begT L (movT D v d n) v (D 67 v + 1) (D 69 v + n + L 5 0) 69 v) := by
      by_cases hp : D 67 v + 1 < L 13 v
      · right
        have hdd := (hv.2 v h0 h1).2.2.2.2 (D 67 v + 1) (by omega) hp
        have htt := ht.2 _ hdd.1 hdd.2
        have e69 : begT L (movT D v d n) v (D 67 v + 1) (D 69 v + n + L 5 0) 69 v = max (L 9 (L (15 + v) (D 67 v + 1))) (D 69 v + n + L 5 0) := by
          unfold begT
          rw [if_pos hp, up1_at]
        have e68 : begT L (movT D v d n) v (D 67 v + 1) (D 69 v + n + L 5 0) 68 v = L 7 (L (15 + v) (D 67 v + 1)) := by
          unfold begT
          rw [if_pos hp, up1_nc (by omega), up1_at]
        have e66 : begT L (movT D v d n) v (D 67 v + 1) (D 69 v + n + L 5 0) 66 v = L (15 + v) (D 67 v + 1) := by
          unfold begT
          rw [if_pos hp, up1_nc (by omega), up1_nc (by omega), up1_at]
        have e67 : begT L (movT D v d n) v (D 67 v + 1) (D 69 v + n + L 5 0) 67 v = D 67 v + 1 := by
          unfold begT
          rw [if_pos hp, up1_nc (by omega), up1_nc (by omega), up1_nc (by omega), up1_at]
        refine ⟨⟨by rw [e67]; omega, by rw [e67]; exact hp, by rw [e66, e67], ?_, ?_, by rw [e69]; omega, by rw [e69]; omega⟩, by rw [e69]; omega⟩
        · rw [e66, e68]
          exact ⟨by omega, by omega⟩
        · rw [e66, e68]; omega
      · left
        unfold begT
        rw [if_neg hp, up1_at]
    refine ⟨⟨fun x x0 x1 => ?_, fun d' s q0 q1 q2 q3 => ?_, fun t s q0 q1 q2 q3 => ?_⟩, fun c k hc hk => ?_, ?_⟩
    · by_cases hx : x = v
      · subst hx
        rcases bv with b | b
        · exact Or.inl b
        · exact Or.inr b.1
      · rcases hI.1 x x0 x1 with q | q
        · left
          rw [bo _ _ (Or.inl hx), m66]
          exact q
        · right
          unfold onTr
          rw [bo _ _ (Or.inl hx), bo _ _ (Or.inl hx), bo _ _ (Or.inl hx), bo _ _ (Or.inl hx), m66, m67, mo _ _ (Or.inl rfl) hx, mo _ _ (Or.inr rfl) hx]
          exact q
    · rw [bo _ _ (Or.inr (by omega))]; exact mr1 d' s q0 q1 q2 q3
    · rw [bo _ _ (Or.inr (by omega)), bo _ _ (Or.inr (by omega))]; exact mr2 t s q0 q1 q2 q3
    · rw [bo _ _ (Or.inl hk)]
      rcases hc with hc | hc
      · rw [hc, m66]
      · rw [hc, mo _ _ (Or.inr rfl) hk]
    · rcases bv with b | b
      · exact Or.inl b
      · exact Or.inr b.2
  · rw [if_neg hz]
    refine ⟨⟨fun x x0 x1 => ?_, mr1, mr2⟩, fun c k hc hk => ?_, Or.inr (by rw [m69]; omega)⟩
    · by_cases hx : x = v
      · subst hx
        right
        unfold onTr
        rw [m66, m67, m68, m69]
        exact ⟨a1, a2, a3, o11, hz, by omega, by omega⟩
      · rcases hI.1 x x0 x1 with q | q
        · left
          rw [m66]
          exact q
        · right
          unfold onTr
          rw [m66, m67, mo _ _ (Or.inl rfl) hx, mo _ _ (Or.inr rfl) hx]
          exact q
    · rcases hc with hc | hc
      · rw [hc, m66]
      · rw [hc, mo _ _ (Or.inr rfl) hk]
theorem DI_0 (hI : DI L D) (c x : Int) : DI L (up1 D 0 c x) := by
  have e : ∀ r, 2 ≤ r → up1 D 0 c x r = D r := fun r h => up1_nc (by omega)
  refine ⟨fun v h0 h1 => ?_, fun d s h0 h1 h2 h3 => ?_, fun t s h0 h1 h2 h3 => ?_⟩
  · unfold onTr
    rw [e 66 (by omega), e 67 (by omega), e 68 (by omega), e 69 (by omega)]
    exact hI.1 v h0 h1
  · rw [e _ (by omega)]; exact hI.2.1 d s h0 h1 h2 h3
  · rw [e _ (by omega), e _ (by omega)]; exact hI.2.2 t s h0 h1 h2 h3
theorem onTr_0 {v c x : Int} (ho : onTr L D v) : onTr L (up1 D 0 c x) v := by
  unfold onTr
  rw [up1_nc (by omega), up1_nc (by omega), up1_nc (by omega), up1_nc (by omega)]
  exact ho
theorem look_ok (hv : WFv L) (ht : WFt L) (hm : WFm L) (hb : WFb L) (hI : DI L D) {v : Int} (h0 : 0 ≤ v) (h1 : v < L 11 3) (ho : onTr L D v) :
    DI L (lookD L D v) ∧ muT L (lookD L D v) + 1 ≤ muT L D := by
  have ok := trip_ok hv ht h0 h1 ho
  obtain ⟨o1, o2, o3, o4, o5, o6, o7, o8, o9, o10, o11⟩ := ok
  have hl := hI.2.1 (dirn L (D 66 v)) (D 68 v) (by omega) (by omega) o4 o5
  have hw := ho.2.2.2.2.2
  have goal : DI L (lookD L D v) ∧ (∀ c k, (c = 66 ∨ c = 69) → k ≠ v → lookD L D v c k = D c k) ∧ (lookD L D v 66 v = -1 ∨ D 69 v < lookD L D v 69 v) := by
    refine look_cases (fun Z => DI L Z ∧ (∀ c k, (c = 66 ∨ c = 69) → k ≠ v → Z c k = D c k) ∧ (Z 66 v = -1 ∨ D 69 v < Z 69 v)) hm hb o6 o7 hl.2 ?_ ?_ ?_
    · refine ⟨⟨fun x x0 x1 => ?_, fun d s q0 q1 q2 q3 => ?_, fun t s q0 q1 q2 q3 => ?_⟩, fun c k hc hk => up1_any _ _ _ _ _ _ |>.trans (if_neg (by omega)), Or.inl (up1_at _ _ _ _)⟩
      · by_cases hx : x = v
        · subst hx
          exact Or.inl (up1_at _ _ _ _)
        · unfold onTr
          rw [up1_nk hx, up1_nc (by omega), up1_nc (by omega), up1_nc (by omega)]
          exact hI.1 x x0 x1
      · rw [up1_nc (by omega)]; exact hI.2.1 d s q0 q1 q2 q3
      · rw [up1_nc (by omega), up1_nc (by omega)]; exact hI.2.2 t s q0 q1 q2 q3
    · intro c x w hc hw1 hw2
      have hI' := DI_0 hI c x
      refine ⟨⟨fun y y0 y1 => ?_, fun d s q0 q1 q2 q3 => ?_, fun t s q0 q1 q2 q3 => ?_⟩, fun r k hr hk => ?_, Or.inr (by rw [up1_at]; exact hw1)⟩
      · by_cases hx : y = v
        · subst hx
          right
          have := onTr_0 (c := c) (x := x) ho
          unfold onTr at this ⊢
          rw [up1_nc (by omega), up1_nc (by omega), up1_nc (by omega), up1_at]
          exact ⟨this.1, this.2.1, this.2.2.1, this.2.2.2.1, this.2.2.2.2.1, by omega, hw2⟩
        · have := hI'.1 y y0 y1
          unfold onTr at this ⊢
          rw [up1_nc (by omega), up1_nc (by omega), up1_nc (by omega), up1_nk hx]
          exact this
      · rw [up1_nc (by omega)]; exact hI'.2.1 d s q0 q1 q2 q3
      · rw [up1_nc (L := up1 D 0 c x) (by omega), up1_nc (L := up1 D 0 c x) (by omega)]; exact hI'.2.2 t s q0 q1 q2 q3
      · rw [up1_any, if_neg (by omega), up1_nc (by omega)]
    · intro D' n hD' hn0 hn1 hw3
      rcases hD' with e | ⟨x, e⟩
      · rw [e]
        exact depT_ok hv ht hm hI h0 h1 ho hw3 hn0 hn1
      · have e66 : D' 66 = D 66 := by rw [e]; exact up1_nc (by omega)
        have e69 : D' 69 = D 69 := by rw [e]; exact up1_nc (by omega)
        have := depT_ok (D := D') hv ht hm (by rw [e]; exact DI_0 hI 2 x) h0 h1 (by rw [e]; exact onTr_0 ho) (by rw [e69]; exact hw3) hn0 hn1
        rw [e66, e69] at this
        refine ⟨this.1, fun c k hc hk => ?_, this.2.2⟩
        rw [this.2.1 c k hc hk]
        rcases hc with hc | hc
        · rw [hc, e66]
        · rw [hc, e69]
  refine ⟨goal.1, ?_⟩
  have hb := goal.1.1 v h0 h1
  refine sumT_le h0 h1 (fun x x0 x1 hx => ?_) ?_
  · unfold mvT
    rw [goal.2.1 66 x (Or.inl rfl) hx, goal.2.1 69 x (Or.inr rfl) hx]
  · unfold mvT
    rw [if_neg (show ¬ D 66 v = -1 by omega)]
    rcases goal.2.2 with q | q
    · rw [if_pos q]; omega
    · split <;> omega
theorem mu_bd (hI : DI L D) (hn : 0 ≤ L 11 3 ∧ L 11 3 ≤ 10) : 0 ≤ muT L D ∧ muT L D ≤ 31010 := by
  have := sumT_bd (f := mvT D) (a := 0) (lo := 0) (hi := 3101) (k := L 11 3) hn.1 (fun x x0 x1 => by
    unfold mvT
    rcases hI.1 x x0 x1 with q | q
    · rw [if_pos q]; omega
    · have := q.2.2.2.2.2
      split <;> omega)
  unfold muT
  omega
theorem next_ok (hI : DI L D) (hn : 0 ≤ L 11 3 ∧ L 11 3 ≤ 10) (h : nextD L D ≠ -1) : 0 ≤ nextD L D ∧ nextD L D < L 11 3 ∧ onTr L D (nextD L D) := by
  rcases nxt_bd D (L 11 3).toNat with q | ⟨q1, q2, q3⟩
  · exact absurd q h
  · have : nextD L D < L 11 3 := by unfold nextD; omega
    refine ⟨q1, this, ?_⟩
    rcases hI.1 _ q1 this with q | q
    · exact absurd q q3
    · exact q
theorem iter_same (hv : WFv L) (ht : WFt L) (hm : WFm L) (hb : WFb L) (n : Nat) : ∀ D m, DI L D → muT L D ≤ n → muT L D ≤ (m : Nat) → iterD L n D = iterD L m D := by
  induction n with
  | zero =>
    intro D m hI h1 h2
    have hz : nextD L D = -1 := Classical.byContradiction fun q => by
      have hx := next_ok hI hv.1 q
      have := (look_ok hv ht hm hb hI hx.1 hx.2.1 hx.2.2)
      have := (mu_bd this.1 hv.1).1
      omega
    cases m with
    | zero => rfl
    | succ m => simp only [iterD]; rw [if_pos hz]
  | succ n ih =>
    intro D m hI h1 h2
    by_cases hz : nextD L D = -1
    · simp only [iterD]
      rw [if_pos hz]
      cases m with
      | zero => rfl
      | succ m => simp only [iterD]; rw [if_pos hz]
    · have hx := next_ok hI hv.1 hz
      have hl := look_ok hv ht hm hb hI hx.1 hx.2.1 hx.2.2
      have h0 := (mu_bd hl.1 hv.1).1
      cases m with
      | zero => omega
      | succ m =>
        simp only [iterD]
        rw [if_neg hz, if_neg hz]
        exact ih _ m hl.1 (by omega) (by omega)
theorem end_next (hv : WFv L) (ht : WFt L) (hm : WFm L) (hb : WFb L) (hI : DI L D) (h : nextD L D ≠ -1) : endD L D = endD L (lookD L D (nextD L D)) := by
  have hx := next_ok hI hv.1 h
  have hl := look_ok hv ht hm hb hI hx.1 hx.2.1 hx.2.2
  have h0 := (mu_bd hl.1 hv.1).1
  unfold endD
  rw [show (muT L D).toNat = ((muT L D).toNat - 1) + 1 by omega]
  simp only [iterD]
  rw [if_neg h]
  exact iter_same hv ht hm hb _ _ _ hl.1 (by omega) (by omega)
theorem end_none (h : nextD L D = -1) : endD L D = D := by
  unfold endD
  cases (muT L D).toNat with
  | zero => rfl
  | succ n => simp only [iterD]; rw [if_pos h]
theorem end_DI (hv : WFv L) (ht : WFt L) (hm : WFm L) (hb : WFb L) (hI : DI L D) : DI L (endD L D) := by
  have key : ∀ n : Nat, ∀ D, DI L D → DI L (iterD L n D) := by
    intro n
    induction n with
    | zero => intro D h; exact h
    | succ n ih =>
      intro D h
      simp only [iterD]
      by_cases hz : nextD L D = -1
      · rw [if_pos hz]; exact h
      · rw [if_neg hz]
        have hx := next_ok h hv.1 hz
        exact ih _ (look_ok hv ht hm hb h hx.1 hx.2.1 hx.2.2).1
  exact key _ D hI
end Dl
