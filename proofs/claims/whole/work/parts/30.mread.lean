/-! ===== the reference: what is read of its line ===== -/
def RG (g : Int → Int) (L : LFn) : Prop :=
  (∀ k, 0 ≤ k → k < 11 → g k = L 2 k ∧ g (11 + k) = L 3 k) ∧ (∀ s, 0 ≤ s → s < 12 → g (22 + s) = L 4 s) ∧ (g 34 = L 5 0 ∧ g 35 = L 5 1 ∧ g 36 = L 5 2) ∧ g 37 = L 6 4 ∧
  (∀ t, 0 ≤ t → t < L 6 4 → g (40 + 4 * t) = L 7 t ∧ g (40 + 4 * t + 1) = L 8 t ∧ g (40 + 4 * t + 2) = L 9 t ∧ g (40 + 4 * t + 3) = L 10 t) ∧ g 160 = L 11 3 ∧
  (∀ v, 0 ≤ v → v < L 11 3 → g (161 + v) = L 12 v ∧ g (171 + v) = L 13 v ∧ ∀ p, 0 ≤ p → p < L 13 v → g (181 + 30 * v + p) = L (15 + v) p) ∧ g 481 = L 25 3 ∧
  ∀ b, 0 ≤ b → b < L 25 3 → g (482 + 3 * b) = L 26 b ∧ g (482 + 3 * b + 1) = L 27 b ∧ g (482 + 3 * b + 2) = L 28 b
section Mr
variable {G : GT} {K : List Value → Mem → Prop} {X : String → Mem → Prop} {M : Mem} {L : LFn}
theorem m_in {a b c : Int} (ha : I32 a) (hb : I32 b) (hc : I32 c) (k : K [iv (b2i (b ≤ a ∧ a ≤ c))] M) : Call G 0 0 zX12_in [iv a, iv b, iv c] M K X := by
  refine bX12_in ⟨ha, hb, fun h => ?_, fun h => ⟨hc, fun h2 => ?_, fun h2 => ?_⟩⟩
  · rw [b2i_f (by omega)] at k; exact k
  · rw [b2i_f (by omega)] at k; exact k
  · rw [b2i_t (by omega)] at k; exact k
theorem m_isStop {a : Int} (ha : I32 a) (k : K [iv (b2i (0 ≤ a ∧ a ≤ 11))] M) : Call G 1 0 zX12_isStop [iv a] M K X :=
  bX12_isStop (m_in ha (i32 (by omega)) (i32 (by omega)) (kI_mk ⟨b2i_01 _, k⟩))
theorem m_isSection {a : Int} (ha : I32 a) (k : K [iv (b2i (0 ≤ a ∧ a ≤ 10))] M) : Call G 1 0 zX12_isSection [iv a] M K X :=
  bX12_isSection (m_in ha (i32 (by omega)) (i32 (by omega)) (kI_mk ⟨b2i_01 _, k⟩))
theorem b2i_congr {p q : Prop} [Decidable p] [Decidable q] (h : p ↔ q) : b2i p = b2i q := by
  unfold b2i
  by_cases hp : p
  · rw [if_pos hp, if_pos (h.mp hp)]
  · rw [if_neg hp, if_neg (fun x => hp (h.mpr x))]
theorem m_isTrip (hR : RG (M 8 0 1) L) (ht : WFt L) {a : Int} (ha : I32 a) (k : K [iv (b2i (0 ≤ a ∧ a < L 6 4))] M) : Call G 1 0 zX12_isTrip [rr G 8 0 0, iv a] M K X := by
  have hn := ht.1
  refine bX12_isTrip ?_
  rw [hR.2.2.2.1]
  refine m_in ha (i32 (by omega)) (i32 (by omega)) (kI_mk ⟨b2i_01 _, ?_⟩)
  rw [b2i_congr (show (0 ≤ a ∧ a ≤ L 6 4 - 1) ↔ (0 ≤ a ∧ a < L 6 4) by omega)]
  exact k
theorem m_isVehicle (hR : RG (M 8 0 1) L) (hv : WFv L) {a : Int} (ha : I32 a) (k : K [iv (b2i (0 ≤ a ∧ a < L 11 3))] M) : Call G 1 0 zX12_isVehicle [rr G 8 0 0, iv a] M K X := by
  have hn := hv.1
  refine bX12_isVehicle ?_
  rw [hR.2.2.2.2.2.1]
  refine m_in ha (i32 (by omega)) (i32 (by omega)) (kI_mk ⟨b2i_01 _, ?_⟩)
  rw [b2i_congr (show (0 ≤ a ∧ a ≤ L 11 3 - 1) ↔ (0 ≤ a ∧ a < L 11 3) by omega)]
  exact k
theorem m_first (hR : RG (M 8 0 1) L) (ht : WFt L) {t : Int} (h0 : 0 ≤ t) (h1 : t < L 6 4) (k : K [iv (L 7 t)] M) : Call G 0 0 zX12_first [rr G 8 0 0, iv t] M K X := by
  have hn := ht.1
  refine bX12_first ⟨by omega, by omega, ?_⟩
  rw [(hR.2.2.2.2.1 t h0 h1).1]
  exact k
theorem m_last (hR : RG (M 8 0 1) L) (ht : WFt L) {t : Int} (h0 : 0 ≤ t) (h1 : t < L 6 4) (k : K [iv (L 8 t)] M) : Call G 0 0 zX12_last [rr G 8 0 0, iv t] M K X := by
  have hn := ht.1
  refine bX12_last ⟨by omega, by omega, ?_⟩
  rw [(hR.2.2.2.2.1 t h0 h1).2.1]
  exact k
theorem m_departs (hR : RG (M 8 0 1) L) (ht : WFt L) {t : Int} (h0 : 0 ≤ t) (h1 : t < L 6 4) (k : K [iv (L 9 t)] M) : Call G 0 0 zX12_departs [rr G 8 0 0, iv t] M K X := by
  have hn := ht.1
  refine bX12_departs ⟨by omega, by omega, ?_⟩
  rw [(hR.2.2.2.2.1 t h0 h1).2.2.1]
  exact k
theorem m_isActive (hR : RG (M 8 0 1) L) (ht : WFt L) {t : Int} (h0 : 0 ≤ t) (h1 : t < L 6 4) (k : K [iv (b2i (L 10 t = 0))] M) : Call G 0 0 zX12_isActive [rr G 8 0 0, iv t] M K X := by
  have hn := ht.1
  have h := ht.2 t h0 h1
  refine bX12_isActive ?_
  rw [(hR.2.2.2.2.1 t h0 h1).2.2.2]
  refine ⟨by omega, by omega, i32 (by omega), fun z => ?_, fun z => ?_⟩
  · rw [b2i_f z] at k; exact k
  · rw [b2i_t z] at k; exact k
theorem m_dutyAt (hR : RG (M 8 0 1) L) (hv : WFv L) {v p : Int} (h0 : 0 ≤ v) (h1 : v < L 11 3) (p0 : 0 ≤ p) (p1 : p < L 13 v) (k : K [iv (L (15 + v) p)] M) : Call G 0 0 zX12_dutyAt [rr G 8 0 0, iv v, iv p] M K X := by
  have hn := hv.1
  have h := hv.2 v h0 h1
  refine bX12_dutyAt ⟨by omega, by omega, ?_⟩
  rw [(hR.2.2.2.2.2.2.1 v h0 h1).2.2 p p0 p1]
  exact k
theorem m_homeStop (hR : RG (M 8 0 1) L) (hv : WFv L) {v : Int} (h0 : 0 ≤ v) (h1 : v < L 11 3) (k : K [iv (hst L v)] M) : Call G 0 0 zX12_homeStop [rr G 8 0 0, iv v] M K X := by
  have hn := hv.1
  have h := hv.2 v h0 h1
  unfold hst at k
  refine bX12_homeStop ?_
  rw [(hR.2.2.2.2.2.2.1 v h0 h1).1]
  refine ⟨by omega, by omega, i32 (by omega), fun z => ?_, fun z => ?_⟩
  · rw [if_neg z] at k; exact k
  · rw [if_pos z] at k; exact k
theorem m_between (hR : RG (M 8 0 1) L) {a b : Int} (ha : 0 ≤ a) (ha1 : a ≤ 11) (hb : 0 ≤ b) (hb1 : b ≤ 11) (k : K [iv (btw L a b)] M) : Call G 0 0 zX12_between [rr G 8 0 0, iv a, iv b] M K X := by
  have key : ∀ lo hi, 0 ≤ lo → lo ≤ hi → hi ≤ 11 → K [iv (sumT (L 2) lo hi)] M → eX12_between G K X 29 [(0, rr G 8 0 0), (4, iv hi), (5, iv 0), (6, iv lo)] [] M := by
    intro lo hi h1 h2 h3 hk
    have h := loop_up (E := fun k => eX12_between G K X 29 [(0, rr G 8 0 0), (4, iv hi), (5, iv (sumT (L 2) lo k)), (6, iv k)] [] M) h2
      (bX12_between_29 ⟨i32 (by omega), i32 (by omega), fun _ => hk, fun q => absurd q (by omega)⟩)
      (fun k q1 q2 hn => bX12_between_29 ⟨i32 (by omega), i32 (by omega), fun q => absurd q2 q, fun _ => ⟨by omega, by omega, by rw [sumT_step _ q1] at hn; rw [(hR.1 k (by omega) (by omega)).1]; exact hn⟩⟩)
    rw [sumT_same] at h
    exact h
  refine bX12_between ⟨i32 (by omega), i32 (by omega), fun h => ?_, fun h => ?_⟩
  · refine key b a hb (by omega) ha1 ?_
    unfold btw at k
    rw [Int.min_eq_right (by omega), Int.max_eq_left (by omega)] at k
    exact k
  · refine key a b ha (by omega) hb1 ?_
    unfold btw at k
    rw [Int.min_eq_left (by omega), Int.max_eq_right (by omega)] at k
    exact k
theorem m_arrives (hR : RG (M 8 0 1) L) (ht : WFt L) {t : Int} (h0 : 0 ≤ t) (h1 : t < L 6 4) (k : K [iv (arr L t)] M) : Call G 1 0 zX12_arrives [rr G 8 0 0, iv t] M K X := by
  have h := ht.2 t h0 h1
  exact bX12_arrives (m_departs hR ht h0 h1 (kI_mk (m_first hR ht h0 h1 (kI_mk (m_last hR ht h0 h1 (kI_mk (m_between hR (by omega) (by omega) (by omega) (by omega) (kI_mk k))))))))
theorem m_plannedAt (hR : RG (M 8 0 1) L) (ht : WFt L) {t s : Int} (h0 : 0 ≤ t) (h1 : t < L 6 4) (hs0 : 0 ≤ s) (hs1 : s ≤ 11) (k : K [iv (tmA L t s)] M) : Call G 1 0 zX12_plannedAt [rr G 8 0 0, iv t, iv s] M K X := by
  have h := ht.2 t h0 h1
  exact bX12_plannedAt (m_departs hR ht h0 h1 (kI_mk (m_first hR ht h0 h1 (kI_mk (m_between hR (by omega) (by omega) hs0 hs1 (kI_mk k))))))
theorem m_direction (hR : RG (M 8 0 1) L) (ht : WFt L) {t : Int} (h0 : 0 ≤ t) (h1 : t < L 6 4) (k : K [iv (dirn L t)] M) : Call G 1 0 zX12_direction [rr G 8 0 0, iv t] M K X := by
  have h := ht.2 t h0 h1
  unfold dirn at k
  refine bX12_direction (m_first hR ht h0 h1 (kI_mk (m_last hR ht h0 h1 (kI_mk ⟨i32 (by omega), i32 (by omega), fun z => ?_, fun z => ?_⟩))))
  · rw [if_neg z] at k; exact k
  · rw [if_pos z] at k; exact k
theorem m_isOnWay (hR : RG (M 8 0 1) L) (ht : WFt L) {t s : Int} (h0 : 0 ≤ t) (h1 : t < L 6 4) (hs : I32 s) (k : K [iv (b2i (onW L t s))] M) : Call G 1 0 zX12_isOnWay [rr G 8 0 0, iv t, iv s] M K X := by
  have h := ht.2 t h0 h1
  refine bX12_isOnWay (m_first hR ht h0 h1 (kI_mk (m_last hR ht h0 h1 (kI_mk ⟨i32 (by omega), i32 (by omega), fun z => m_last hR ht h0 h1 (kI_mk (m_first hR ht h0 h1 (kI_mk (m_in hs (i32 (by omega)) (i32 (by omega)) (kI_mk ⟨b2i_01 _, ?_⟩))))), fun z => m_first hR ht h0 h1 (kI_mk (m_last hR ht h0 h1 (kI_mk (m_in hs (i32 (by omega)) (i32 (by omega)) (kI_mk ⟨b2i_01 _, ?_⟩)))))⟩))))
  · rw [b2i_congr (show (L 8 t ≤ s ∧ s ≤ L 7 t) ↔ onW L t s by show _ ↔ (_ ∧ _); omega)]; exact k
  · rw [b2i_congr (show (L 7 t ≤ s ∧ s ≤ L 8 t) ↔ onW L t s by show _ ↔ (_ ∧ _); omega)]; exact k
theorem m_follows (hR : RG (M 8 0 1) L) (ht : WFt L) (hm : WFm L) {a b : Int} (ha0 : 0 ≤ a) (ha1 : a < L 6 4) (hb0 : 0 ≤ b) (hb1 : b < L 6 4) (k : K [iv (b2i (fol L b a))] M) : Call G 2 0 zX12_follows [rr G 8 0 0, iv a, iv b] M K X := by
  have h := ht.2 a ha0 ha1
  have h2 := ht.2 b hb0 hb1
  have hr := arr_bd hm ht ha0 ha1
  have hs := hm.2.2.2.2
  refine bX12_follows (m_first hR ht hb0 hb1 (kI_mk (m_last hR ht ha0 ha1 (kI_mk ⟨i32 (by omega), i32 (by omega), fun z => ?_, fun z => m_departs hR ht hb0 hb1 (kI_mk (m_arrives hR ht ha0 ha1 (kI_mk ?_)))⟩))))
  · rw [b2i_f (fun y => z y.1)] at k; exact k
  · rw [hR.2.2.1.1]
    refine ⟨i32 (by omega), i32 (by omega), fun y => ?_, fun y => ?_⟩
    · rw [b2i_f (fun w => by have := w.2; omega)] at k; exact k
    · rw [b2i_t ⟨z, by omega⟩] at k; exact k
theorem m_isSound (hR : RG (M 8 0 1) L) (ht : WFt L) (hm : WFm L) (hv : WFv L) {v : Int} (h0 : 0 ≤ v) (h1 : v < L 11 3) (k : K [iv (sndD L v)] M) : Call G 3 0 zX12_isSound [rr G 8 0 0, iv v] M K X := by
  have hn := hv.1
  have h := hv.2 v h0 h1
  have hg := (hR.2.2.2.2.2.2.1 v h0 h1).2.1
  have hn2 := ht.1
  unfold sndD at k
  have body : ∀ q : Int, 1 ≤ q → q ≤ L 13 v → K [iv (allT (fun p => decide (fol L (L (15 + v) p) (L (15 + v) (p - 1)))) q (L 13 v))] M → eX12_isSound G K X 2 [(0, rr G 8 0 0), (1, iv v), (2, iv q)] [] M := by
    intro q q0 q1 hk
    refine loop_up (E := fun p => 1 ≤ p → K [iv (allT (fun p => decide (fol L (L (15 + v) p) (L (15 + v) (p - 1)))) p (L 13 v))] M → eX12_isSound G K X 2 [(0, rr G 8 0 0), (1, iv v), (2, iv p)] [] M) q1 (fun _ hk => ?_) (fun p p0 p1 hn9 _ hk => ?_) q0 hk
    · rw [allT_end (Int.le_refl _)] at hk
      refine bX12_isSound_2 ?_
      rw [hg]
      exact ⟨by omega, by omega, i32 (by omega), i32 (by omega), fun _ => hk, fun z => absurd z (by omega)⟩
    · have hd := h.2.2.2.2 p (by omega) p1
      have hd2 := h.2.2.2.2 (p - 1) (by omega) (by omega)
      refine bX12_isSound_2 ?_
      rw [hg]
      refine ⟨by omega, by omega, i32 (by omega), i32 (by omega), fun z => absurd p1 z, fun _ => ⟨fun _ => m_dutyAt hR hv h0 h1 (by omega) (by omega) (kI_mk (m_dutyAt hR hv h0 h1 (by omega) p1 (kI_mk (m_follows hR ht hm hd2.1 hd2.2 hd.1 hd.2 (kI_mk ⟨b2i_i32 _, fun z => ?_, fun z => ?_⟩))))), fun z => absurd z (by omega)⟩⟩
      · have y' : fol L (L (15 + v) p) (L (15 + v) (p - 1)) := Classical.byContradiction fun w => z (b2i_0.mpr w)
        exact hn9 (by omega) (by rw [allT_t p1 (by simpa using y')] at hk; exact hk)
      · rw [allT_f (by omega) p1 (by simpa using b2i_0.mp z)] at hk
        exact hk
  refine bX12_isSound (bX12_isSound_2 ?_)
  rw [hg]
  refine ⟨by omega, by omega, i32 (by omega), i32 (by omega), fun z => ?_, fun z => ⟨fun y => absurd rfl y, fun _ => ?_⟩⟩
  · rw [if_neg (fun q => z q.1), allT_end (by omega)] at k
    exact k
  · have hd := h.2.2.2.2 0 (by omega) z
    have h7 := ht.2 _ hd.1 hd.2
    refine m_dutyAt hR hv h0 h1 (by omega) z (kI_mk (m_first hR ht hd.1 hd.2 (kI_mk (m_homeStop hR hv h0 h1 (kI_mk ⟨i32 (by omega), ?_, fun y => ?_, fun y => ?_⟩)))))
    · unfold hst; split <;> exact i32 (by omega)
    · rw [if_neg (fun q => q.2 y)] at k
      exact body (0 + 1) (by omega) (by omega) k
    · rw [if_pos ⟨z, y⟩] at k
      exact k
theorem m_vehicleOf (hR : RG (M 8 0 1) L) (ht : WFt L) (hv : WFv L) {t : Int} (hti : I32 t) (k : K [iv (vehOf L t)] M) : Call G 1 0 zX12_vehicleOf [rr G 8 0 0, iv t] M K X := by
  have hn := hv.1
  have hn2 := ht.1
  refine bX12_vehicleOf (loop_up (E := fun v => 0 ≤ v → K [iv (srch (fun v => decide (posOf L t v ≠ -1)) v (L 11 3))] M → eX12_vehicleOf G K X 2 [(0, rr G 8 0 0), (1, iv t), (2, iv v)] [] M) (b := L 11 3) (by omega) (fun _ hk => ?_) (fun v q1 q2 hn9 _ hk => ?_) (Int.le_refl _) k)
  · rw [srch_end (Int.le_refl _)] at hk
    refine bX12_vehicleOf_2 ?_
    rw [hR.2.2.2.2.2.1]
    exact ⟨i32 (by omega), i32 (by omega), fun _ => hk, fun q => absurd q (by omega)⟩
  · have h := hv.2 v q1 q2
    have hg := (hR.2.2.2.2.2.2.1 v q1 q2).2.1
    refine bX12_vehicleOf_2 ?_
    rw [hR.2.2.2.2.2.1]
    refine ⟨i32 (by omega), i32 (by omega), fun q => absurd q2 q, fun _ => ?_⟩
    have hp := srch_spec (p := fun p => decide (L (15 + v) p = t)) (k := 0) (b := L 13 v)
    refine loop_up (E := fun p => (∀ x, 0 ≤ x → x < p → L (15 + v) x ≠ t) → 0 ≤ p → eX12_vehicleOf G K X 16 [(0, rr G 8 0 0), (1, iv t), (2, iv v), (3, iv p)] [] M) (a := 0) (b := L 13 v) (by omega) (fun hx _ => ?_) (fun p p0 p1 hn8 hx _ => ?_) (fun x x0 x1 => by omega) (Int.le_refl _)
    · refine bX12_vehicleOf_16 ?_
      rw [hg]
      refine ⟨by omega, by omega, i32 (by omega), i32 (by omega), fun _ => hn9 (by omega) ?_, fun z => absurd z (by omega)⟩
      have : posOf L t v = -1 := by
        rcases hp with w | ⟨w1, w2, w3, -⟩
        · exact w.1
        · simp only [decide_eq_true_eq] at w3
          exact absurd w3 (hx _ w1 w2)
      rw [srch_next q2 (by simpa using this)] at hk
      exact hk
    · have hd := h.2.2.2.2 p p0 p1
      refine bX12_vehicleOf_16 ?_
      rw [hg]
      refine ⟨by omega, by omega, i32 (by omega), i32 (by omega), fun z => absurd p1 z, fun _ => m_dutyAt hR hv q1 q2 p0 p1 (kI_mk ⟨i32 (by omega), hti, fun z => hn8 (fun x x0 x1 => ?_) (by omega), fun z => ?_⟩)⟩
      · by_cases hxp : x = p
        · rw [hxp]; exact z
        · exact hx x x0 (by omega)
      · have : posOf L t v ≠ -1 := by
          rcases hp with w | ⟨w1, w2, w3, -⟩
          · have := w.2 p p0 p1
            simp only [decide_eq_false_iff_not] at this
            exact absurd z this
          · unfold posOf; omega
        rw [srch_hit q2 (by simpa using this)] at hk
        exact hk
theorem m_isEnd (hR : RG (M 8 0 1) L) (ht : WFt L) {s : Int} (hs : I32 s) (k : K [iv (endA L s)] M) : Call G 1 0 zX12_isEnd [rr G 8 0 0, iv s] M K X := by
  have hn := ht.1
  unfold endA at k
  refine bX12_isEnd (loop_up (E := fun t => K [iv (if srch (fun t => decide (L 10 t = 0 ∧ (L 7 t = s ∨ L 8 t = s))) t (L 6 4) = -1 then 0 else 1)] M → eX12_isEnd G K X 2 [(0, rr G 8 0 0), (1, iv s), (2, iv t)] [] M) hn.1 (fun hk => ?_) (fun t q1 q2 hn9 hk => ?_) k)
  · rw [srch_end (Int.le_refl _), if_pos rfl] at hk
    refine bX12_isEnd_2 ?_
    rw [hR.2.2.2.1]
    exact ⟨i32 (by omega), i32 (by omega), fun _ => hk, fun q => absurd q (by omega)⟩
  · have h := ht.2 t q1 q2
    refine bX12_isEnd_2 ?_
    rw [hR.2.2.2.1]
    refine ⟨i32 (by omega), i32 (by omega), fun q => absurd q2 q, fun _ => m_isActive hR ht q1 q2 (kI_mk ⟨b2i_i32 _, fun z => ?_, fun z => m_first hR ht q1 q2 (kI_mk ⟨i32 (by omega), hs, fun y => ?_, fun y => m_last hR ht q1 q2 (kI_mk ⟨i32 (by omega), fun w => ?_, fun w => ?_⟩)⟩)⟩)⟩
    · have z' := b2i_0.mp z
      exact hn9 (by rw [srch_next q2 (by simp; intro w; exact absurd w z')] at hk; exact hk)
    · have z' : L 10 t = 0 := Classical.byContradiction fun w => z (b2i_0.mpr w)
      rw [srch_hit q2 (by simp [z', y]), if_neg (by omega)] at hk
      exact hk
    · exact hn9 (by rw [srch_next q2 (by simp [y, w])] at hk; exact hk)
    · have z' : L 10 t = 0 := Classical.byContradiction fun w => z (b2i_0.mpr w)
      rw [srch_hit q2 (by simp [z', w]), if_neg (by omega)] at hk
      exact hk
theorem m_active (hR : RG (M 8 0 1) L) (ht : WFt L) (k : K [iv (actv L)] M) : Call G 1 0 zX12_active [rr G 8 0 0] M K X := by
  have hn := ht.1
  have h := loop_up (E := fun t => eX12_active G K X 4 [(0, rr G 8 0 0), (1, iv (cntT (fun t => decide (L 10 t = 0)) 0 t)), (2, iv t)] [] M) hn.1
    (bX12_active_4 (by rw [hR.2.2.2.1]; exact ⟨i32 (by omega), i32 (by omega), fun _ => k, fun q => absurd q (by omega)⟩))
    (fun t q1 q2 hn9 => bX12_active_4 (by
      rw [hR.2.2.2.1]
      exact ⟨i32 (by omega), i32 (by omega), fun q => absurd q2 q, fun _ => m_isActive hR ht q1 q2 (kI_mk ⟨b2i_i32 _, fun z => by rw [cntT_f q1 (by simpa using b2i_0.mp z)] at hn9; rw [Int.add_zero]; exact hn9, fun z => by
        have z' : L 10 t = 0 := Classical.byContradiction fun w => z (b2i_0.mpr w)
        rw [cntT_t q1 (by simpa using z')] at hn9; exact hn9⟩)⟩))
  rw [cntT_same] at h
  exact bX12_active h
theorem m_inDuties (hR : RG (M 8 0 1) L) (hv : WFv L) (k : K [iv (inDut L)] M) : Call G 0 0 zX12_inDuties [rr G 8 0 0] M K X := by
  have hn := hv.1
  have h := loop_up (E := fun v => eX12_inDuties G K X 4 [(0, rr G 8 0 0), (1, iv (sumT (L 13) 0 v)), (2, iv v)] [] M) hn.1
    (bX12_inDuties_4 (by rw [hR.2.2.2.2.2.1]; exact ⟨i32 (by omega), i32 (by omega), fun _ => k, fun q => absurd q (by omega)⟩))
    (fun v q1 q2 hn9 => bX12_inDuties_4 (by
      rw [hR.2.2.2.2.2.1, (hR.2.2.2.2.2.2.1 v q1 q2).2.1]
      exact ⟨i32 (by omega), i32 (by omega), fun q => absurd q2 q, fun _ => ⟨by omega, by omega, by rw [sumT_step _ q1] at hn9; exact hn9⟩⟩))
  rw [sumT_same] at h
  exact bX12_inDuties h
theorem m_onDuty (hR : RG (M 8 0 1) L) (hv : WFv L) (k : K [iv (onDut L)] M) : Call G 0 0 zX12_onDuty [rr G 8 0 0] M K X := by
  have hn := hv.1
  have h := loop_up (E := fun v => eX12_onDuty G K X 4 [(0, rr G 8 0 0), (1, iv (cntT (fun v => decide (0 < L 13 v)) 0 v)), (2, iv v)] [] M) hn.1
    (bX12_onDuty_4 (by rw [hR.2.2.2.2.2.1]; exact ⟨i32 (by omega), i32 (by omega), fun _ => k, fun q => absurd q (by omega)⟩))
    (fun v q1 q2 hn9 => bX12_onDuty_4 (by
      have := hv.2 v q1 q2
      rw [hR.2.2.2.2.2.1, (hR.2.2.2.2.2.2.1 v q1 q2).2.1]
      exact ⟨i32 (by omega), i32 (by omega), fun q => absurd q2 q, fun _ => ⟨by omega, by omega, i32 (by omega), fun z => by rw [cntT_f q1 (by simpa using z)] at hn9; rw [Int.add_zero]; exact hn9, fun z => by rw [cntT_t q1 (by simpa using z)] at hn9; exact hn9⟩⟩))
  rw [cntT_same] at h
  exact bX12_onDuty h
theorem m_turns (hR : RG (M 8 0 1) L) (hm : WFm L) (k : K [iv (trns L)] M) : Call G 0 0 zX12_turns [rr G 8 0 0] M K X := by
  have h := loop_up (E := fun s => eX12_turns G K X 4 [(0, rr G 8 0 0), (1, iv (cntT (fun s => decide (L 4 s ≠ 0)) 0 s)), (2, iv s)] [] M) (a := 0) (b := 12) (by omega)
    (bX12_turns_4 ⟨i32 (by omega), fun _ => k, fun q => absurd q (by omega)⟩)
    (fun s q1 q2 hn9 => bX12_turns_4 (by
      have hs := hm.2.1 s q1 q2
      rw [hR.2.1 s q1 q2]
      refine ⟨i32 (by omega), fun q => absurd q2 q, fun _ => ⟨by omega, by omega, ?_⟩⟩
      by_cases hz : L 4 s = 0
      · rw [cntT_f q1 (by simpa using hz)] at hn9
        rw [hz, Int.add_zero]; exact hn9
      · rw [cntT_t q1 (by simpa using hz)] at hn9
        rw [show L 4 s = 1 by omega]; exact hn9))
  rw [cntT_same] at h
  exact bX12_turns h
end Mr
