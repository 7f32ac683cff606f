/-! ===== the reference: reasons and sums ===== -/
section Mq
variable {G : GT} {K : List Value → Mem → Prop} {X : String → Mem → Prop} {M : Mem} {L : LFn}
theorem m_placeFor (hR : RG (M 8 0 1) L) (ht : WFt L) (hv : WFv L) {t v : Int} (ht0 : 0 ≤ t) (ht1 : t < L 6 4) (h0 : 0 ≤ v) (h1 : v < L 11 3) (k : K [iv (tbf L (L 9 t) v)] M) : Call G 1 0 zX12_placeFor [rr G 8 0 0, iv t, iv v] M K X := by
  have hn := hv.1
  have h := hv.2 v h0 h1
  have hg := (hR.2.2.2.2.2.2.1 v h0 h1).2.1
  have h9 := ht.2 t ht0 ht1
  refine bX12_placeFor (loop_up (E := fun q => 0 ≤ q → K [iv (skip (fun p => decide (L 9 (L (15 + v) p) < L 9 t)) q (L 13 v))] M → eX12_placeFor G K X 2 [(0, rr G 8 0 0), (1, iv t), (2, iv v), (3, iv q)] [] M) (a := 0) (b := L 13 v) (by omega) (fun _ hk => ?_) (fun p q1 q2 hn9 _ hk => ?_) (Int.le_refl _) k)
  · unfold skip at hk
    rw [srch_end (Int.le_refl _), if_pos rfl] at hk
    refine bX12_placeFor_2 ?_
    rw [hg]
    exact ⟨by omega, by omega, i32 (by omega), i32 (by omega), fun _ => hk, fun z => absurd z (by omega)⟩
  · have hd := h.2.2.2.2 p q1 q2
    have h92 := ht.2 _ hd.1 hd.2
    refine bX12_placeFor_2 ?_
    rw [hg]
    refine ⟨by omega, by omega, i32 (by omega), i32 (by omega), fun z => absurd q2 z, fun _ => m_dutyAt hR hv h0 h1 q1 q2 (kI_mk (m_departs hR ht hd.1 hd.2 (kI_mk (m_departs hR ht ht0 ht1 (kI_mk ⟨i32 (by omega), i32 (by omega), fun z => ?_, fun z => ?_⟩)))))⟩
    · unfold skip at hk
      rw [srch_hit q2 (by simpa using z), if_neg (by omega)] at hk
      exact hk
    · refine hn9 (by omega) ?_
      unfold skip at hk ⊢
      rw [srch_next q2 (by simpa using z)] at hk
      exact hk
theorem m_reasonFor (hR : RG (M 8 0 1) L) (ht : WFt L) (hm : WFm L) (hv : WFv L) {t v : Int} (ht0 : 0 ≤ t) (ht1 : t < L 6 4) (h0 : 0 ≤ v) (h1 : v < L 11 3) (k : K [iv (rsnG L t v)] M) : Call G 3 0 zX12_reasonFor [rr G 8 0 0, iv t, iv v] M K X := by
  have hn := hv.1
  have hn2 := ht.1
  have h := hv.2 v h0 h1
  have hg := (hR.2.2.2.2.2.2.1 v h0 h1).2.1
  have h9 := ht.2 t ht0 ht1
  have hb := tbf_bd (L := L) (m := L 9 t) (v := v) (by omega)
  have hvb : -1 ≤ vehOf L t ∧ (vehOf L t = -1 ∨ (0 ≤ vehOf L t ∧ vehOf L t < L 11 3)) := srch_bd _ (Int.le_refl _)
  unfold rsnG at k
  refine bX12_reasonFor (m_isActive hR ht ht0 ht1 (kI_mk ⟨b2i_i32 _, fun z => m_vehicleOf hR ht hv (i32 (by omega)) (kI_mk ⟨i32 (by omega), fun y => m_placeFor hR ht hv ht0 ht1 h0 h1 (kI_mk ?_), fun y => ?_⟩), fun z => ?_⟩))
  · have z' : L 10 t = 0 := Classical.byContradiction fun w => z (b2i_0.mpr w)
    rw [if_neg (fun w => w z'), if_neg (fun w => w (by omega))] at k
    unfold rsn at k
    rw [hg]
    generalize tbf L (L 9 t) v = at0 at k hb ⊢
    have s113 : K [iv (if at0 = 0 ∧ L 7 t ≠ hst L v then 6 else 0)] M → eX12_reasonFor G K X 113 [(0, rr G 8 0 0), (1, iv t), (2, iv v), (3, iv at0)] [] M := by
      intro hk
      refine bX12_reasonFor_113 ⟨i32 (by omega), fun w => ?_, fun w => m_first hR ht ht0 ht1 (kI_mk (m_homeStop hR hv h0 h1 (kI_mk ⟨i32 (by omega), by unfold hst; split <;> exact i32 (by omega), fun u => ?_, fun u => ?_⟩)))⟩
      · rw [if_neg (fun q => w q.1)] at hk
        exact bX12_reasonFor_135 (bX12_reasonFor_136 hk)
      · rw [if_neg (fun q => q.2 u)] at hk
        exact bX12_reasonFor_135 (bX12_reasonFor_136 hk)
      · rw [if_pos ⟨w, u⟩] at hk
        exact bX12_reasonFor_136 hk
    have s83 : K [iv (if at0 < L 13 v ∧ ¬ fol L (L (15 + v) at0) t then 5 else if at0 = 0 ∧ L 7 t ≠ hst L v then 6 else 0)] M → eX12_reasonFor G K X 83 [(0, rr G 8 0 0), (1, iv t), (2, iv v), (3, iv at0)] [] M := by
      intro hk
      refine bX12_reasonFor_83 ?_
      rw [hg]
      refine ⟨by omega, by omega, i32 (by omega), i32 (by omega), fun w => ?_, fun w => ?_⟩
      · rw [if_neg (fun q => w q.1)] at hk
        exact s113 hk
      · have hd := h.2.2.2.2 at0 hb.1 w
        refine m_dutyAt hR hv h0 h1 hb.1 w (kI_mk (m_follows hR ht hm ht0 ht1 hd.1 hd.2 (kI_mk ⟨b2i_i32 _, fun u => ?_, fun u => ?_⟩)))
        · have u' : fol L (L (15 + v) at0) t := Classical.byContradiction fun x => u (b2i_0.mpr x)
          rw [if_neg (fun q => q.2 u')] at hk
          exact s113 hk
        · rw [if_pos ⟨w, b2i_0.mp u⟩] at hk
          exact hk
    have s61 : K [iv (if 0 < at0 ∧ ¬ fol L t (L (15 + v) (at0 - 1)) then 4 else if at0 < L 13 v ∧ ¬ fol L (L (15 + v) at0) t then 5 else if at0 = 0 ∧ L 7 t ≠ hst L v then 6 else 0)] M → eX12_reasonFor G K X 61 [(0, rr G 8 0 0), (1, iv t), (2, iv v), (3, iv at0)] [] M := by
      intro hk
      refine bX12_reasonFor_61 ⟨i32 (by omega), fun w => ?_, fun w => ?_⟩
      · rw [if_neg (fun q => w q.1)] at hk
        exact s83 hk
      · have hd := h.2.2.2.2 (at0 - 1) (by omega) (by omega)
        refine m_dutyAt hR hv h0 h1 (by omega) (by omega) (kI_mk (m_follows hR ht hm hd.1 hd.2 ht0 ht1 (kI_mk ⟨b2i_i32 _, fun u => ?_, fun u => ?_⟩)))
        · have u' : fol L t (L (15 + v) (at0 - 1)) := Classical.byContradiction fun x => u (b2i_0.mpr x)
          rw [if_neg (fun q => q.2 u')] at hk
          exact s83 hk
        · rw [if_pos ⟨w, b2i_0.mp u⟩] at hk
          exact hk
    refine ⟨by omega, by omega, i32 (by omega), i32 (by omega), fun w => ?_, fun w => ?_⟩
    · rw [if_neg (fun q => w q.1)] at k
      exact s61 k
    · have hd := h.2.2.2.2 at0 hb.1 w
      have h92 := ht.2 _ hd.1 hd.2
      refine m_dutyAt hR hv h0 h1 hb.1 w (kI_mk (m_departs hR ht hd.1 hd.2 (kI_mk (m_departs hR ht ht0 ht1 (kI_mk ⟨i32 (by omega), i32 (by omega), fun u => ?_, fun u => ?_⟩)))))
      · rw [if_neg (fun q => u q.2)] at k
        exact s61 k
      · rw [if_pos ⟨w, u⟩] at k
        exact k
  · have z' : L 10 t = 0 := Classical.byContradiction fun w => z (b2i_0.mpr w)
    rw [if_neg (fun w => w z'), if_pos (by omega)] at k
    exact k
  · rw [if_pos (b2i_0.mp z)] at k
    exact k
theorem m_reasonForRound (hR : RG (M 8 0 1) L) (ht : WFt L) (hm : WFm L) (hv : WFv L) {f s v : Int} (hf0 : 0 ≤ f) (hf1 : f < L 6 4) (hs0 : 0 ≤ s) (hs1 : s < L 6 4) (h0 : 0 ≤ v) (h1 : v < L 11 3) (k : K [iv (rsnR L f s v)] M) : Call G 3 0 zX12_reasonForRound [rr G 8 0 0, iv f, iv s, iv v] M K X := by
  have hn := hv.1
  have hn2 := ht.1
  have h := hv.2 v h0 h1
  have hg := (hR.2.2.2.2.2.2.1 v h0 h1).2.1
  have h9 := ht.2 f hf0 hf1
  have hb := tbf_bd (L := L) (m := L 9 f) (v := v) (by omega)
  have hvf : -1 ≤ vehOf L f ∧ (vehOf L f = -1 ∨ (0 ≤ vehOf L f ∧ vehOf L f < L 11 3)) := srch_bd _ (Int.le_refl _)
  have hvs : -1 ≤ vehOf L s ∧ (vehOf L s = -1 ∨ (0 ≤ vehOf L s ∧ vehOf L s < L 11 3)) := srch_bd _ (Int.le_refl _)
  unfold rsnR at k
  have one : (L 10 f ≠ 0 ∨ L 10 s ≠ 0 ∨ f = s) → eX12_reasonForRound G K X 21 [] [] M := fun z => by
    rw [if_pos z] at k
    exact bX12_reasonForRound_21 k
  refine bX12_reasonForRound (m_isActive hR ht hf0 hf1 (kI_mk ⟨b2i_i32 _, fun z => one (Or.inl (b2i_0.mp z)), fun z => m_isActive hR ht hs0 hs1 (kI_mk ⟨b2i_i32 _, fun y => one (Or.inr (Or.inl (b2i_0.mp y))), fun y => ⟨i32 (by omega), i32 (by omega), fun w => ?_, fun w => one (Or.inr (Or.inr w))⟩⟩)⟩))
  have z' : L 10 f = 0 := Classical.byContradiction fun w => z (b2i_0.mpr w)
  have y' : L 10 s = 0 := Classical.byContradiction fun w => y (b2i_0.mpr w)
  rw [if_neg (fun q => by rcases q with q | q | q; exact q z'; exact q y'; exact w q)] at k
  have two : (vehOf L f ≠ -1 ∨ vehOf L s ≠ -1) → eX12_reasonForRound G K X 39 [] [] M := fun q => by
    rw [if_pos q] at k
    exact bX12_reasonForRound_39 k
  refine m_vehicleOf hR ht hv (i32 (by omega)) (kI_mk ⟨i32 (by omega), fun q => two (Or.inl (by omega)), fun q => m_vehicleOf hR ht hv (i32 (by omega)) (kI_mk ⟨i32 (by omega), fun r => ?_, fun r => two (Or.inr (by omega))⟩)⟩)
  rw [if_neg (fun x => by rcases x with x | x; exact x (by omega); exact x (by omega))] at k
  refine m_follows hR ht hm hf0 hf1 hs0 hs1 (kI_mk ⟨b2i_i32 _, fun x => ?_, fun x => ?_⟩)
  · have x' : fol L s f := Classical.byContradiction fun u => x (b2i_0.mpr u)
    rw [if_neg (fun u => u x')] at k
    unfold rsn at k
    refine m_placeFor hR ht hv hf0 hf1 h0 h1 (kI_mk ?_)
    rw [hg]
    generalize tbf L (L 9 f) v = at0 at k hb ⊢
    have s153 : K [iv (if at0 = 0 ∧ L 7 f ≠ hst L v then 6 else 0)] M → eX12_reasonForRound G K X 153 [(0, rr G 8 0 0), (1, iv f), (3, iv v), (4, iv at0)] [] M := by
      intro hk
      refine bX12_reasonForRound_153 ⟨i32 (by omega), fun w => ?_, fun w => m_first hR ht hf0 hf1 (kI_mk (m_homeStop hR hv h0 h1 (kI_mk ⟨i32 (by omega), by unfold hst; split <;> exact i32 (by omega), fun u => ?_, fun u => ?_⟩)))⟩
      · rw [if_neg (fun q => w q.1)] at hk
        exact bX12_reasonForRound_176 (bX12_reasonForRound_177 hk)
      · rw [if_neg (fun q => q.2 u)] at hk
        exact bX12_reasonForRound_176 (bX12_reasonForRound_177 hk)
      · rw [if_pos ⟨w, u⟩] at hk
        exact bX12_reasonForRound_177 hk
    have s121 : K [iv (if at0 < L 13 v ∧ ¬ fol L (L (15 + v) at0) s then 5 else if at0 = 0 ∧ L 7 f ≠ hst L v then 6 else 0)] M → eX12_reasonForRound G K X 121 [(0, rr G 8 0 0), (1, iv f), (2, iv s), (3, iv v), (4, iv at0)] [] M := by
      intro hk
      refine bX12_reasonForRound_121 ?_
      rw [hg]
      refine ⟨by omega, by omega, i32 (by omega), i32 (by omega), fun w => ?_, fun w => ?_⟩
      · rw [if_neg (fun q => w q.1)] at hk
        exact s153 hk
      · have hd := h.2.2.2.2 at0 hb.1 w
        refine m_dutyAt hR hv h0 h1 hb.1 w (kI_mk (m_follows hR ht hm hs0 hs1 hd.1 hd.2 (kI_mk ⟨b2i_i32 _, fun u => ?_, fun u => ?_⟩)))
        · have u' : fol L (L (15 + v) at0) s := Classical.byContradiction fun x => u (b2i_0.mpr x)
          rw [if_neg (fun q => q.2 u')] at hk
          exact s153 hk
        · rw [if_pos ⟨w, b2i_0.mp u⟩] at hk
          exact hk
    have s97 : K [iv (if 0 < at0 ∧ ¬ fol L f (L (15 + v) (at0 - 1)) then 4 else if at0 < L 13 v ∧ ¬ fol L (L (15 + v) at0) s then 5 else if at0 = 0 ∧ L 7 f ≠ hst L v then 6 else 0)] M → eX12_reasonForRound G K X 97 [(0, rr G 8 0 0), (1, iv f), (2, iv s), (3, iv v), (4, iv at0)] [] M := by
      intro hk
      refine bX12_reasonForRound_97 ⟨i32 (by omega), fun w => ?_, fun w => ?_⟩
      · rw [if_neg (fun q => w q.1)] at hk
        exact s121 hk
      · have hd := h.2.2.2.2 (at0 - 1) (by omega) (by omega)
        refine m_dutyAt hR hv h0 h1 (by omega) (by omega) (kI_mk (m_follows hR ht hm hd.1 hd.2 hf0 hf1 (kI_mk ⟨b2i_i32 _, fun u => ?_, fun u => ?_⟩)))
        · have u' : fol L f (L (15 + v) (at0 - 1)) := Classical.byContradiction fun x => u (b2i_0.mpr x)
          rw [if_neg (fun q => q.2 u')] at hk
          exact s121 hk
        · rw [if_pos ⟨w, b2i_0.mp u⟩] at hk
          exact hk
    refine ⟨by omega, by omega, i32 (by omega), i32 (by omega), fun w => ?_, fun w => ?_⟩
    · rw [if_neg (fun q => w q.1)] at k
      exact s97 k
    · have hd := h.2.2.2.2 at0 hb.1 w
      have h92 := ht.2 _ hd.1 hd.2
      refine m_dutyAt hR hv h0 h1 hb.1 w (kI_mk (m_departs hR ht hd.1 hd.2 (kI_mk (m_departs hR ht hf0 hf1 (kI_mk ⟨i32 (by omega), i32 (by omega), fun u => ?_, fun u => ?_⟩)))))
      · rw [if_neg (fun q => u q.2)] at k
        exact s97 k
      · rw [if_pos ⟨w, u⟩] at k
        exact k
  · rw [if_pos (b2i_0.mp x)] at k
    exact k
theorem m_minutesOfTrips (hR : RG (M 8 0 1) L) (ht : WFt L) (hv : WFv L) {v : Int} (h0 : 0 ≤ v) (h1 : v < L 11 3) (k : K [iv (minO L v)] M) : Call G 2 0 zX12_minutesOf [rr G 8 0 0, iv v, iv 0] M K X := by
  have hn := hv.1
  have h := hv.2 v h0 h1
  have hg := (hR.2.2.2.2.2.2.1 v h0 h1).2.1
  have h9 := loop_up (E := fun p => eX12_minutesOf G K X 5 [(0, rr G 8 0 0), (1, iv v), (2, iv 0), (3, iv (sumT (fun p => arr L (L (15 + v) p) - L 9 (L (15 + v) p)) 0 p)), (4, iv p)] [] M) (a := 0) (b := L 13 v) (by omega)
    (bX12_minutesOf_5 (by rw [hg]; exact ⟨by omega, by omega, i32 (by omega), i32 (by omega), fun _ => k, fun z => absurd z (by omega)⟩))
    (fun p q1 q2 hn9 => bX12_minutesOf_5 (by
      rw [hg]
      have hd := h.2.2.2.2 p q1 q2
      exact ⟨by omega, by omega, i32 (by omega), i32 (by omega), fun z => absurd q2 z, fun _ => m_dutyAt hR hv h0 h1 q1 q2 (kI_mk ⟨i32 (by omega), fun z => absurd rfl z, fun _ => m_arrives hR ht hd.1 hd.2 (kI_mk (m_departs hR ht hd.1 hd.2 (kI_mk (by rw [sumT_step _ q1] at hn9; exact hn9))))⟩)⟩))
  rw [sumT_same] at h9
  exact bX12_minutesOf h9
theorem m_minutesBetweenTrips (hR : RG (M 8 0 1) L) (ht : WFt L) (hv : WFv L) {v : Int} (h0 : 0 ≤ v) (h1 : v < L 11 3) (k : K [iv (minB L v)] M) : Call G 2 0 zX12_minutesOf [rr G 8 0 0, iv v, iv 1] M K X := by
  have hn := hv.1
  have h := hv.2 v h0 h1
  have hg := (hR.2.2.2.2.2.2.1 v h0 h1).2.1
  by_cases hz : 1 ≤ L 13 v
  · have h9 := loop_up (E := fun p => eX12_minutesOf G K X 5 [(0, rr G 8 0 0), (1, iv v), (2, iv 1), (3, iv (sumT (fun p => L 9 (L (15 + v) p) - arr L (L (15 + v) (p - 1))) 1 p)), (4, iv p)] [] M) (a := 1) (b := L 13 v) hz
      (bX12_minutesOf_5 (by rw [hg]; exact ⟨by omega, by omega, i32 (by omega), i32 (by omega), fun _ => k, fun z => absurd z (by omega)⟩))
      (fun p q1 q2 hn9 => bX12_minutesOf_5 (by
        rw [hg]
        have hd := h.2.2.2.2 p (by omega) q2
        have hd2 := h.2.2.2.2 (p - 1) (by omega) (by omega)
        exact ⟨by omega, by omega, i32 (by omega), i32 (by omega), fun z => absurd q2 z, fun _ => m_dutyAt hR hv h0 h1 (by omega) q2 (kI_mk ⟨i32 (by omega), fun _ => ⟨fun z => absurd z (by omega), fun _ => m_departs hR ht hd.1 hd.2 (kI_mk (m_dutyAt hR hv h0 h1 (by omega) (by omega) (kI_mk (m_arrives hR ht hd2.1 hd2.2 (kI_mk (by rw [sumT_step _ q1] at hn9; exact hn9))))))⟩, fun z => absurd z (by omega)⟩)⟩))
    rw [sumT_same] at h9
    refine bX12_minutesOf (bX12_minutesOf_5 ?_)
    rw [hg]
    exact ⟨by omega, by omega, i32 (by omega), i32 (by omega), fun z => absurd z (by omega), fun _ => m_dutyAt hR hv h0 h1 (by omega) (by omega) (kI_mk ⟨i32 (by omega), fun _ => ⟨fun _ => h9, fun z => absurd z (by omega)⟩, fun z => absurd z (by omega)⟩)⟩
  · have e : minB L v = 0 := by
      unfold minB sumT
      rw [show (L 13 v - 1).toNat = 0 by omega]
      rfl
    rw [e] at k
    refine bX12_minutesOf (bX12_minutesOf_5 ?_)
    rw [hg]
    exact ⟨by omega, by omega, i32 (by omega), i32 (by omega), fun _ => k, fun z => absurd z (by omega)⟩
theorem m_rowPlace (hR : RG (M 8 0 1) L) (hv : WFv L) {v : Int} (h0 : 0 ≤ v) (h1 : v < L 11 3) (k : K [iv (plcO L v)] M) : Call G 0 0 zX12_rowPlace [rr G 8 0 0, iv v] M K X := by
  have hn := hv.1
  have hv9 := hv.2 v h0 h1
  have e1 := (hR.2.2.2.2.2.2.1 v h0 h1).1
  have h := loop_up (E := fun w => eX12_rowPlace G K X 6 [(0, rr G 8 0 0), (1, iv v), (2, iv (cntT (fun w => decide (L 12 w = L 12 v)) (v + 1) w)), (3, iv w)] [] M) (a := v + 1) (b := L 11 3) (by omega)
    (bX12_rowPlace_6 (by rw [hR.2.2.2.2.2.1]; exact ⟨i32 (by omega), i32 (by omega), fun _ => k, fun q => absurd q (by omega)⟩))
    (fun w q1 q2 hn9 => bX12_rowPlace_6 (by
      have hw := hv.2 w (by omega) q2
      rw [hR.2.2.2.2.2.1, e1, (hR.2.2.2.2.2.2.1 w (by omega) q2).1]
      exact ⟨i32 (by omega), i32 (by omega), fun q => absurd q2 q, fun _ => ⟨by omega, by omega, by omega, by omega, i32 (by omega), i32 (by omega), fun z => by rw [cntT_f q1 (by simpa using z)] at hn9; rw [Int.add_zero]; exact hn9, fun z => by rw [cntT_t q1 (by simpa using z)] at hn9; exact hn9⟩⟩))
  rw [cntT_same] at h
  exact bX12_rowPlace h
theorem m_boxed (hR : RG (M 8 0 1) L) (hv : WFv L) (ht : WFt L) {v : Int} (h0 : 0 ≤ v) (h1 : v < L 11 3) (k : K [iv (boxd L v)] M) : Call G 1 0 zX12_boxed [rr G 8 0 0, iv v] M K X := by
  have hn := hv.1
  have hv9 := hv.2 v h0 h1
  have e1 := hR.2.2.2.2.2.2.1 v h0 h1
  unfold boxd at k
  refine bX12_boxed (loop_up (E := fun w => K [iv (if L 13 v = 0 then 0 else if srch (boxT L v) w (L 11 3) = -1 then 0 else 1)] M → eX12_boxed G K X 4 [(0, rr G 8 0 0), (1, iv v), (2, iv w)] [] M) (a := v + 1) (b := L 11 3) (by omega) (fun hk => ?_) (fun w q1 q2 hn9 hk => ?_) k)
  · rw [srch_end (Int.le_refl _)] at hk
    refine bX12_boxed_4 ?_
    rw [hR.2.2.2.2.2.1]
    refine ⟨i32 (by omega), i32 (by omega), fun _ => ?_, fun q => absurd q (by omega)⟩
    split at hk
    · exact hk
    · rw [if_pos rfl] at hk
      exact hk
  · have hw := hv.2 w (by omega) q2
    have e2 := hR.2.2.2.2.2.2.1 w (by omega) q2
    refine bX12_boxed_4 ?_
    rw [hR.2.2.2.2.2.1, e1.1, e1.2.1, e2.1, e2.2.1]
    refine ⟨i32 (by omega), i32 (by omega), fun q => absurd q2 q, fun _ => ⟨by omega, by omega, i32 (by omega), fun z => ?_, fun z => ⟨by omega, by omega, by omega, by omega, i32 (by omega), i32 (by omega), fun y => ?_, fun y => ⟨by omega, by omega, i32 (by omega), fun x => ?_, fun x => ?_⟩⟩⟩⟩
    · rw [if_pos (by omega)] at hk; exact hk
    · rw [if_neg (by omega)] at hn9 hk
      exact hn9 (by rw [srch_next q2 (by simp [boxT, y])] at hk; exact hk)
    · rw [if_neg (by omega), srch_hit q2 (by simp [boxT]; omega), if_neg (by omega)] at hk
      exact hk
    · have hd1 := hw.2.2.2.2 0 (by omega) (by omega)
      have hd2 := hv9.2.2.2.2 0 (by omega) z
      have h91 := ht.2 _ hd1.1 hd1.2
      have h92 := ht.2 _ hd2.1 hd2.2
      rw [if_neg (by omega)] at hn9 hk
      refine m_dutyAt hR hv (by omega) q2 (by omega) (by omega) (kI_mk (m_departs hR ht hd1.1 hd1.2 (kI_mk (m_dutyAt hR hv h0 h1 (by omega) z (kI_mk (m_departs hR ht hd2.1 hd2.2 (kI_mk ⟨i32 (by omega), i32 (by omega), fun u => ?_, fun u => ?_⟩)))))))
      · exact hn9 (by rw [srch_next q2 (by simp [boxT]; intro _; omega)] at hk; exact hk)
      · rw [srch_hit q2 (by simp [boxT]; omega), if_neg (by omega)] at hk
        exact hk
theorem m_blockOn (hR : RG (M 8 0 1) L) (hb : WFb L) {s m : Int} (hs : I32 s) (hmm : I32 m) (k : K [iv (blkA L s m)] M) : Call G 1 0 zX12_blockOn [rr G 8 0 0, iv s, iv m] M K X := by
  have hn := hb.1
  have e81 := hR.2.2.2.2.2.2.2.1
  unfold blkA at k
  refine bX12_blockOn (loop_up (E := fun b => K [iv (srch (fun b => decide (L 26 b = s ∧ L 27 b ≤ m ∧ m ≤ L 28 b)) b (L 25 3))] M → eX12_blockOn G K X 2 [(0, rr G 8 0 0), (1, iv s), (2, iv m), (3, iv b)] [] M) hn.1 (fun hk => ?_) (fun b q1 q2 hn9 hk => ?_) k)
  · rw [srch_end (Int.le_refl _)] at hk
    refine bX12_blockOn_2 ?_
    rw [e81]
    exact ⟨i32 (by omega), i32 (by omega), fun _ => hk, fun q => absurd q (by omega)⟩
  · have h := hb.2 b q1 q2
    have e := hR.2.2.2.2.2.2.2.2 b q1 q2
    refine bX12_blockOn_2 ?_
    rw [e81, e.1, e.2.1, e.2.2]
    refine ⟨i32 (by omega), i32 (by omega), fun q => absurd q2 q, fun _ => ⟨by omega, by omega, i32 (by omega), hs, fun z => ?_, fun z => ⟨by omega, by omega, by omega, by omega, m_in hmm (i32 (by omega)) (i32 (by omega)) (kI_mk ⟨b2i_i32 _, fun y => ?_, fun y => ?_⟩)⟩⟩⟩
    · exact hn9 (by rw [srch_next q2 (by simp; intro w; exact absurd w z)] at hk; exact hk)
    · have y' := b2i_0.mp y
      exact hn9 (by rw [srch_next q2 (by simp; intro _ w; omega)] at hk; exact hk)
    · have y' : L 27 b ≤ m ∧ m ≤ L 28 b := Classical.byContradiction fun w => y (b2i_0.mpr w)
      rw [srch_hit q2 (by simp [z, y'])] at hk
      exact hk
theorem m_isInside (hR : RG (M 8 0 1) L) (ht : WFt L) (hm : WFm L) {t s : Int} (h0 : 0 ≤ t) (h1 : t < L 6 4) (hs : I32 s) (k : K [iv (b2i (onW L t s ∧ s ≠ L 7 t ∧ s ≠ L 8 t ∧ L 4 s = 1))] M) : Call G 2 0 zX12_isInside [rr G 8 0 0, iv t, iv s] M K X := by
  have h := ht.2 t h0 h1
  refine bX12_isInside (m_isOnWay hR ht h0 h1 hs (kI_mk ⟨b2i_i32 _, fun z => ?_, fun z => m_first hR ht h0 h1 (kI_mk ⟨hs, i32 (by omega), fun y => ?_, fun y => m_last hR ht h0 h1 (kI_mk ⟨i32 (by omega), fun w => ?_, fun w => ?_⟩)⟩)⟩))
  · rw [b2i_f (fun w => (b2i_0.mp z) w.1)] at k; exact k
  · rw [b2i_f (fun w => w.2.1 y)] at k; exact k
  · rw [b2i_f (fun u => u.2.2.1 w)] at k; exact k
  · have z' : onW L t s := Classical.byContradiction fun u => z (b2i_0.mpr u)
    have z1 := z'.1
    have z2 := z'.2
    have h4 := hm.2.1 s (by omega) (by omega)
    rw [hR.2.1 s (by omega) (by omega)]
    refine ⟨by omega, by omega, i32 (by omega), fun u => ?_, fun u => ?_⟩
    · rw [b2i_f (fun x => u x.2.2.2)] at k; exact k
    · rw [b2i_t ⟨z', y, w, u⟩] at k; exact k
end Mq
