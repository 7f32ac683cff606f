/-! ===== vehicle, bunches, the soonest behind, waiting ===== -/
def qBun (L : LFn) (d s : Int) : Int × Int := if ¬ (0 ≤ d ∧ d < 2) ∨ ¬ (0 ≤ s ∧ s < 12) then (1, 0) else (0, if (pasS L d s).1 = 0 then 0 else below (pasS L d s) (L 5 1))
theorem pasS_sm {L : LFn} (ht : WFt L) (hm : WFm L) {d s : Int} (hs0 : 0 ≤ s) (hs1 : s ≤ 11) : SmS (pasS L d s) := by
  intro k h0 h1
  obtain ⟨x, x1, -, -, x4⟩ := foldS_mem _ k h0 h1
  have hn := ht.1
  have e : (pasS L d s).2.1 k = tmA L x s := x4
  have := tmA_bd hm ht (t := (x : Int)) (s := s) (by omega) (by omega) hs0 hs1
  rw [e]
  omega
section Pc
variable {G : GT} {K : List Value → Mem → Prop} {X : String → Mem → Prop} {M : Mem} {L : LFn}
theorem p_bunches (hL : M 1 0 = L) (hw : WFn L) {d s : Int} (hd : I32 d) (hs : I32 s) (k : (qBun L d s).1 = 0 → ∀ M', FrQ 0 M M' → K [iv (qBun L d s).2] M') (x : (qBun L d s).1 = 1 → X "java/lang/IndexOutOfBoundsException" M) : Call G 9 2 zX11_bunches [rr G 0 0 0, iv d, iv s] M K X := by
  obtain ⟨ht, hm, hv, hb⟩ := hw
  have h5 := hm.2.2.2.2
  unfold qBun at k x
  refine bX11_bunches (sp_requireIndex hd (i32 (by omega)) (fun z => kV_mk (sp_requireIndex hs (i32 (by omega)) (fun y => kV_mk ?_) (fun y => ?_))) (fun z => ?_))
  · rw [if_neg (by omega)] at k
    refine sp_listPassages (by omega) (by omega) (by omega) (by omega) (by rw [hL]; exact ht) (by rw [hL]; exact hm) hd y.1 (by omega) (fun M' f s' => kV_mk ?_)
    rw [hL] at s'
    have e1 : M' 1 0 = L := (f.ne (Or.inl (by decide))).trans hL
    rw [e1]
    exact sp_headwaysBelow (by omega) (by omega) s' (pasS_sm ht hm y.1 (by omega)) (i32 (by omega)) (kI_mk (k rfl M' f))
  · rw [if_pos (Or.inr y)] at x; exact x rfl
  · rw [if_pos (Or.inl z)] at x; exact x rfl
/-- as AnsM, but the reference's row was used -/
def AnsC (M : Mem) (K : List Value → Mem → Prop) (q : Int × Int) : Prop := ∀ M', FrC (wr M 8 0 0 7 q.1) M' → K [iv (if q.1 = 0 then q.2 else 0)] M'
theorem q_bunches (hR : RG (M 8 0 1) L) (hw : WFn L) {d s : Int} (hd : I32 d) (hs : I32 s) (k : AnsC M K (qBun L d s)) : Call G 4 0 zX12_bunches [rr G 8 0 0, iv d, iv s] M K X := by
  obtain ⟨ht, hm, hv, hb⟩ := hw
  have hR' : RG (wr M 8 0 0 7 0 8 0 1) L := by rw [thr_g]; exact hR
  unfold qBun at k
  refine bX12_bunches (m_in hd (i32 (by omega)) (i32 (by omega)) (kI_mk ⟨b2i_i32 _, fun z => ?_, fun z => m_isStop hs (kI_mk ⟨b2i_i32 _, fun y => ?_, fun y => ?_⟩)⟩))
  · rw [if_pos (Or.inl (by have := b2i_0.mp z; omega))] at k
    exact k _ FrC.rf
  · rw [if_pos (Or.inr (by have := b2i_0.mp y; omega))] at k
    exact k _ FrC.rf
  · have z' := Classical.byContradiction fun w => z (b2i_0.mpr w)
    have y' := Classical.byContradiction fun w => y (b2i_0.mpr w)
    rw [if_neg (by omega)] at k
    refine m_passages hR' ht hm hd y'.1 y'.2 (fun M' f s' => kV_mk ?_)
    exact m_close s' (pasS_sm ht hm y'.1 y'.2) (RG_C f hR') hm (kI_mk (k M' f))
theorem p_vehicle (hL : M 1 0 = L) (hw : WFn L) {v w : Int} (hvi : I32 v) (hwi : I32 w) (k : (qVeh L v w).1 = 0 → K [iv (qVeh L v w).2] M) (x1 : (qVeh L v w).1 = 1 → X "java/lang/IndexOutOfBoundsException" M) (x2 : (qVeh L v w).1 = 2 → X "java/lang/IllegalArgumentException" M) : Call G 9 2 zX11_vehicle [rr G 0 0 0, iv v, iv w] M K X := by
  obtain ⟨ht, hm, hv, hb⟩ := hw
  have nv := hv.1
  unfold qVeh at k x1 x2
  refine bX11_vehicle ?_
  rw [hL]
  refine sp_requireIndex hvi (i32 (by omega)) (fun z => kV_mk ?_) (fun z => ?_)
  · rw [if_neg (fun u => u z)] at k x2
    rw [hL]
    have hvL : WFv (M 1 0) := by rw [hL]; exact hv
    have htL : WFt (M 1 0) := by rw [hL]; exact ht
    have z2 : v < M 1 0 11 3 := by rw [hL]; exact z.2
    refine ⟨hwi, fun y => ⟨z.1, by omega, ?_⟩, fun y => ⟨z.1, by omega, ?_⟩, fun y => ?_, fun y => ?_, fun y => ?_, fun y => ?_, fun y => ?_, fun y => ?_⟩
    · rw [if_neg (by omega), if_pos y] at k; exact k rfl
    · rw [if_neg (by omega), if_neg (by omega), if_pos y] at k; exact k rfl
    · rw [if_neg (by omega), if_neg (by omega), if_neg (by omega), if_pos y] at k
      exact sp_minutesOfTrips (by omega) (by omega) hvL htL z.1 z2 (kI_mk (by rw [hL]; exact k rfl))
    · rw [if_neg (by omega), if_neg (by omega), if_neg (by omega), if_neg (by omega), if_pos y] at k
      exact sp_minutesBetweenTrips (by omega) (by omega) hvL htL z.1 z2 (kI_mk (by rw [hL]; exact k rfl))
    · rw [if_neg (by omega), if_neg (by omega), if_neg (by omega), if_neg (by omega), if_neg (by omega), if_pos y] at k
      exact sp_placeOf (by omega) (by omega) hvL z.1 z2 (kI_mk (by rw [hL]; exact k rfl))
    · rw [if_neg (by omega), if_neg (by omega), if_neg (by omega), if_neg (by omega), if_neg (by omega), if_neg (by omega), if_pos y] at k
      refine sp_isBoxedIn (by omega) (by omega) hvL htL z.1 z2 (kI_mk ?_)
      rw [hL]
      have hb01 : boxd L v = 0 ∨ boxd L v = 1 := by
        unfold boxd
        split
        · exact Or.inl rfl
        · split
          · exact Or.inl rfl
          · exact Or.inr rfl
      refine ⟨i32 (by omega), fun u => ?_, fun u => ?_⟩
      · rw [u] at k; exact k rfl
      · rw [show boxd L v = 1 by omega] at k; exact k rfl
    · rw [if_neg (by omega), if_neg (by omega), if_neg (by omega), if_neg (by omega), if_neg (by omega), if_neg (by omega), if_neg (by omega)] at k
      exact sp_endStopOf (by omega) (by omega) hvL htL z.1 z2 (kI_mk (by rw [hL]; exact k rfl))
    · rw [if_pos (by omega)] at x2; exact x2 rfl
  · rw [if_pos z] at x1; exact x1 rfl
theorem q_vehicle (hR : RG (M 8 0 1) L) (hw : WFn L) {v w : Int} (hvi : I32 v) (hwi : I32 w) (k : AnsM M K (qVeh L v w)) : Call G 4 0 zX12_vehicle [rr G 8 0 0, iv v, iv w] M K X := by
  obtain ⟨ht, hm, hv, hb⟩ := hw
  have hR' : RG (wr M 8 0 0 7 0 8 0 1) L := by rw [thr_g]; exact hR
  have nv := hv.1
  unfold qVeh at k
  refine bX12_vehicle (m_isVehicle hR hv hvi (kI_mk ⟨b2i_i32 _, fun z => ?_, fun z => m_in hwi (i32 (by omega)) (i32 (by omega)) (kI_mk ⟨b2i_i32 _, fun y => ?_, fun y => ?_⟩)⟩))
  · rw [if_pos (b2i_0.mp z)] at k
    exact ansE (by decide) k
  · have z' := Classical.byContradiction fun u => z (b2i_0.mpr u)
    rw [if_neg (fun u => u z'), if_pos (b2i_0.mp y)] at k
    exact ansE (by decide) k
  · have z' := Classical.byContradiction fun u => z (b2i_0.mpr u)
    have y' := Classical.byContradiction fun u => y (b2i_0.mpr u)
    rw [if_neg (fun u => u z'), if_neg (fun u => u y')] at k
    replace k := ans0 k
    have hg := hR'.2.2.2.2.2.2.1 v z'.1 z'.2
    have hl := (hv.2 v z'.1 z'.2).2.2
    refine bX12_vehicleTold ?_
    rw [hg.1, hg.2.1]
    refine ⟨hwi, fun u => ⟨by omega, by omega, ?_⟩, fun u => ⟨by omega, by omega, ?_⟩, fun u => ?_, fun u => ?_, fun u => ?_, fun u => ?_, fun u => ⟨by omega, by omega, i32 (by omega), fun r => ?_, fun r => ?_⟩⟩
    · rw [if_pos u] at k; exact kI_mk k
    · rw [if_neg (by omega), if_pos u] at k; exact kI_mk k
    · rw [if_neg (by omega), if_neg (by omega), if_pos u] at k
      exact m_minutesOfTrips hR' ht hv z'.1 z'.2 (kI_mk (kI_mk k))
    · rw [if_neg (by omega), if_neg (by omega), if_neg (by omega), if_pos u] at k
      exact m_minutesBetweenTrips hR' ht hv z'.1 z'.2 (kI_mk (kI_mk k))
    · rw [if_neg (by omega), if_neg (by omega), if_neg (by omega), if_neg (by omega), if_pos u] at k
      exact m_rowPlace hR' hv z'.1 z'.2 (kI_mk (kI_mk k))
    · rw [if_neg (by omega), if_neg (by omega), if_neg (by omega), if_neg (by omega), if_neg (by omega), if_pos u] at k
      exact m_boxed hR' hv ht z'.1 z'.2 (kI_mk (kI_mk k))
    · rw [if_neg (by omega), if_neg (by omega), if_neg (by omega), if_neg (by omega), if_neg (by omega), if_neg (by omega)] at k
      unfold endS at k
      rw [if_neg r] at k
      have hd := hl.2.2 (L 13 v - 1) (by omega) (by omega)
      exact m_dutyAt hR' hv z'.1 z'.2 (by omega) (by omega) (kI_mk (m_last hR' ht hd.1 hd.2 (kI_mk (kI_mk k))))
    · rw [if_neg (by omega), if_neg (by omega), if_neg (by omega), if_neg (by omega), if_neg (by omega), if_neg (by omega)] at k
      unfold endS at k
      rw [if_pos r] at k
      exact m_homeStop hR' hv z'.1 z'.2 (kI_mk (kI_mk k))
/-- the reference's next trip -/
def qNext (L : LFn) (t : Int) : Int × Int := if ¬ (0 ≤ t ∧ t < L 6 4) then (1, 0) else if soon L t = -1 then (2, 0) else (0, soon L t)
theorem q_nextTrip (hR : RG (M 8 0 1) L) (hw : WFn L) {t : Int} (hti : I32 t) (k : AnsM M K (qNext L t)) : Call G 3 0 zX12_nextTrip [rr G 8 0 0, iv t] M K X := by
  obtain ⟨ht, hm, hv, hb⟩ := hw
  have hn := ht.1
  have hR' : RG (wr M 8 0 0 7 0 8 0 1) L := by rw [thr_g]; exact hR
  unfold qNext at k
  refine bX12_nextTrip (m_isTrip hR ht hti (kI_mk ⟨b2i_i32 _, fun z => ?_, fun z => ?_⟩))
  · rw [if_pos (b2i_0.mp z)] at k
    exact ansE (by decide) k
  · have z' := Classical.byContradiction fun u => z (b2i_0.mpr u)
    rw [if_neg (fun u => u z')] at k
    unfold soon at k
    have h := loop_up (E := fun n => eX12_nextTrip G K X 30 [(0, rr G 8 0 0), (1, iv t), (2, iv (best (fun n => decide (L 10 n = 0 ∧ fol L n t)) (L 9) n)), (3, iv n)] [] (wr M 8 0 0 7 0)) hn.1
      (by
        have hb := best_bd (fun n => decide (L 10 n = 0 ∧ fol L n t)) (L 9) hn.1
        generalize best (fun n => decide (L 10 n = 0 ∧ fol L n t)) (L 9) (L 6 4) = bq at hb k ⊢
        refine bX12_nextTrip_30 ?_
        rw [hR'.2.2.2.1]
        refine ⟨i32 (by omega), i32 (by omega), fun _ => ⟨i32 (by omega), fun y => ?_, fun y => bX12_fails (kI_mk ?_)⟩, fun y => absurd y (by omega)⟩
        · rw [if_neg (by omega)] at k
          exact ans0 k
        · rw [if_pos (by omega)] at k
          rw [wr_wr]
          exact ansE (by decide) k)
      (fun n q1 q2 hn9 => by
        have hnn := ht.2 n q1 q2
        rw [best_step _ _ q1] at hn9
        have hb := best_bd (fun n => decide (L 10 n = 0 ∧ fol L n t)) (L 9) q1
        generalize best (fun n => decide (L 10 n = 0 ∧ fol L n t)) (L 9) n = bq at hb hn9 ⊢
        refine bX12_nextTrip_30 ?_
        rw [hR'.2.2.2.1]
        refine ⟨i32 (by omega), i32 (by omega), fun q => absurd q2 q, fun _ => m_isActive hR' ht q1 q2 (kI_mk ⟨b2i_i32 _, fun y => ?_, fun y => m_follows hR' ht hm z'.1 z'.2 q1 q2 (kI_mk ⟨b2i_i32 _, fun w => ?_, fun w => ⟨i32 (by omega), fun u => ?_, fun u => ?_⟩⟩)⟩)⟩
        · rw [if_neg (by simp only [decide_eq_true_eq]; exact fun q => (b2i_0.mp y) q.1)] at hn9
          exact hn9
        · rw [if_neg (by simp only [decide_eq_true_eq]; exact fun q => (b2i_0.mp w) q.2)] at hn9
          exact hn9
        · have y' : L 10 n = 0 := Classical.byContradiction fun q => y (b2i_0.mpr q)
          have w' : fol L n t := Classical.byContradiction fun q => w (b2i_0.mpr q)
          rw [if_pos (by simp only [decide_eq_true_eq]; exact ⟨y', w'⟩), if_pos (by omega)] at hn9
          exact hn9
        · have y' : L 10 n = 0 := Classical.byContradiction fun q => y (b2i_0.mpr q)
          have w' : fol L n t := Classical.byContradiction fun q => w (b2i_0.mpr q)
          have hbb : 0 ≤ bq ∧ bq < n := by omega
          have hb2 := ht.2 bq hbb.1 (by omega)
          rw [if_pos (by simp only [decide_eq_true_eq]; exact ⟨y', w'⟩), if_neg (by omega)] at hn9
          refine m_departs hR' ht q1 q2 (kI_mk (m_departs hR' ht hbb.1 (by omega) (kI_mk ⟨i32 (by omega), i32 (by omega), fun r => ?_, fun r => ?_⟩)))
          · rw [if_neg r] at hn9
            exact hn9
          · rw [if_pos r] at hn9
            exact hn9)
    rw [best_0] at h
    exact h
end Pc
