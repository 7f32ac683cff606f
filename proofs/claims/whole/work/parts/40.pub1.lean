/-! ===== publics that only read: count, trip, vehicle, wouldRefuse ===== -/
/-- (code, value) -/
def qCount (L : LFn) (v : Int) : Int × Int := if v = 0 then (0, L 6 4) else if v = 1 then (0, actv L) else if v = 2 then (0, inDut L) else if v = 3 then (0, L 11 3) else if v = 4 then (0, onDut L) else if v = 5 then (0, L 25 3) else if v = 6 then (0, trns L) else (1, 0)
def qTrip (L : LFn) (t v : Int) : Int × Int := if ¬ (0 ≤ t ∧ t < L 6 4) then (1, 0) else if ¬ (0 ≤ v ∧ v ≤ 6) then (2, 0) else (0, if v = 0 then L 7 t else if v = 1 then L 8 t else if v = 2 then L 9 t else if v = 3 then arr L t else if v = 4 then dirn L t else if v = 5 then b2i (¬ L 10 t = 0) else vehOf L t)
def qVeh (L : LFn) (v w : Int) : Int × Int := if ¬ (0 ≤ v ∧ v < L 11 3) then (1, 0) else if ¬ (0 ≤ w ∧ w ≤ 6) then (2, 0) else (0, if w = 0 then L 12 v else if w = 1 then L 13 v else if w = 2 then minO L v else if w = 3 then minB L v else if w = 4 then plcO L v else if w = 5 then boxd L v else endS L v)
def qWould (L : LFn) (t v : Int) : Int × Int := if ¬ (0 ≤ t ∧ t < L 6 4) ∨ ¬ (0 ≤ v ∧ v < L 11 3) then (1, 0) else (0, rsnG L t v)
section Pb
variable {G : GT} {K : List Value → Mem → Prop} {X : String → Mem → Prop} {M : Mem} {L : LFn}
theorem sp_requireIndex {a b : Int} (ha : I32 a) (hb : I32 b) (k : 0 ≤ a ∧ a < b → K [] M) (x : ¬ (0 ≤ a ∧ a < b) → X "java/lang/IndexOutOfBoundsException" M) : Call G 8 1 zX11_requireIndex [iv a, iv b] M K X :=
  bX11_requireIndex ⟨ha, fun z => x (by omega), fun z => ⟨hb, fun y => k (by omega), fun y => x (by omega)⟩⟩
theorem p_count (hL : M 1 0 = L) (hw : WFn L) {v : Int} (hi : I32 v) (k : (qCount L v).1 = 0 → K [iv (qCount L v).2] M) (x : (qCount L v).1 = 1 → X "java/lang/IllegalArgumentException" M) : Call G 8 1 zX11_count [rr G 0 0 0, iv v] M K X := by
  obtain ⟨ht, hm, hv, hb⟩ := hw
  unfold qCount at k x
  refine bX11_count ?_
  rw [hL]
  refine ⟨hi, fun z => ?_, fun z => ?_, fun z => ?_, fun z => ?_, fun z => ?_, fun z => ?_, fun z => ?_, fun z => ?_⟩
  · rw [if_pos z] at k; exact k rfl
  · rw [if_neg (by omega), if_pos z] at k
    exact sp_activeCount (by omega) (by omega) (by rw [hL]; exact ht) (kI_mk (by rw [hL]; exact k rfl))
  · rw [if_neg (by omega), if_neg (by omega), if_pos z] at k
    exact sp_tripsInDuties (by omega) (by omega) (by rw [hL]; exact hv) (kI_mk (by rw [hL]; exact k rfl))
  · rw [if_neg (by omega), if_neg (by omega), if_neg (by omega), if_pos z] at k; exact k rfl
  · rw [if_neg (by omega), if_neg (by omega), if_neg (by omega), if_neg (by omega), if_pos z] at k
    exact sp_vehiclesWithDuty (by omega) (by omega) (by rw [hL]; exact hv) (kI_mk (by rw [hL]; exact k rfl))
  · rw [if_neg (by omega), if_neg (by omega), if_neg (by omega), if_neg (by omega), if_neg (by omega), if_pos z] at k; exact k rfl
  · rw [if_neg (by omega), if_neg (by omega), if_neg (by omega), if_neg (by omega), if_neg (by omega), if_neg (by omega), if_pos z] at k
    exact sp_turnableCount (by omega) (by omega) (by rw [hL]; exact hm) (kI_mk (by rw [hL]; exact k rfl))
  · rw [if_neg (by omega), if_neg (by omega), if_neg (by omega), if_neg (by omega), if_neg (by omega), if_neg (by omega), if_neg (by omega)] at x
    exact x rfl
/-- the reference answers q -/
def AnsM (M : Mem) (K : List Value → Mem → Prop) (q : Int × Int) : Prop := K [iv (if q.1 = 0 then q.2 else 0)] (wr M 8 0 0 7 q.1)
theorem ans0 {x : Int} (h : AnsM M K (0, x)) : K [iv x] (wr M 8 0 0 7 0) := h
theorem ansE {c x : Int} (hc : c ≠ 0) (h : AnsM M K (c, x)) : K [iv 0] (wr M 8 0 0 7 c) := by
  unfold AnsM at h
  rw [if_neg hc] at h
  exact h
theorem thr_g (M : Mem) (x : Int) : wr M 8 0 0 7 x 8 0 1 = M 8 0 1 := wr_nc (by omega)
theorem q_count (hR : RG (M 8 0 1) L) (hw : WFn L) {v : Int} (hi : I32 v) (k : AnsM M K (qCount L v)) : Call G 2 0 zX12_count [rr G 8 0 0, iv v] M K X := by
  obtain ⟨ht, hm, hv, hb⟩ := hw
  have hR' : RG (wr M 8 0 0 7 0 8 0 1) L := by rw [thr_g]; exact hR
  unfold qCount at k
  refine bX12_count ⟨hi, fun z => ?_, fun z => ?_, fun z => ?_, fun z => ?_, fun z => ?_, fun z => ?_, fun z => ?_, fun z => ?_⟩
  · rw [if_pos z] at k
    replace k := ans0 k
    rw [hR.2.2.2.1]; exact k
  · rw [if_neg (by omega), if_pos z] at k
    replace k := ans0 k
    exact m_active hR' ht (kI_mk k)
  · rw [if_neg (by omega), if_neg (by omega), if_pos z] at k
    replace k := ans0 k
    exact m_inDuties hR' hv (kI_mk k)
  · rw [if_neg (by omega), if_neg (by omega), if_neg (by omega), if_pos z] at k
    replace k := ans0 k
    rw [hR.2.2.2.2.2.1]; exact k
  · rw [if_neg (by omega), if_neg (by omega), if_neg (by omega), if_neg (by omega), if_pos z] at k
    replace k := ans0 k
    exact m_onDuty hR' hv (kI_mk k)
  · rw [if_neg (by omega), if_neg (by omega), if_neg (by omega), if_neg (by omega), if_neg (by omega), if_pos z] at k
    replace k := ans0 k
    rw [hR.2.2.2.2.2.2.2.1]; exact k
  · rw [if_neg (by omega), if_neg (by omega), if_neg (by omega), if_neg (by omega), if_neg (by omega), if_neg (by omega), if_pos z] at k
    replace k := ans0 k
    exact m_turns hR' hm (kI_mk k)
  · rw [if_neg (by omega), if_neg (by omega), if_neg (by omega), if_neg (by omega), if_neg (by omega), if_neg (by omega), if_neg (by omega)] at k
    replace k := ansE (by decide) k
    refine bX12_fails (kI_mk ?_)
    rw [wr_wr]
    exact k
theorem p_wouldRefuse (hL : M 1 0 = L) (hw : WFn L) {t v : Int} (hti : I32 t) (hvi : I32 v) (k : (qWould L t v).1 = 0 → K [iv (qWould L t v).2] M) (x : (qWould L t v).1 = 1 → X "java/lang/IndexOutOfBoundsException" M) : Call G 9 2 zX11_wouldRefuse [rr G 0 0 0, iv t, iv v] M K X := by
  obtain ⟨ht, hm, hv, hb⟩ := hw
  have nt := ht.1
  have nv := hv.1
  unfold qWould at k x
  refine bX11_wouldRefuse ?_
  rw [hL]
  refine sp_requireIndex hti (i32 (by omega)) (fun z => kV_mk ?_) (fun z => ?_)
  · rw [hL]
    refine sp_requireIndex hvi (i32 (by omega)) (fun y => kV_mk ?_) (fun y => ?_)
    · rw [if_neg (by omega)] at k
      refine sp_reasonAgainst (by omega) (by omega) (by rw [hL]; exact hv) (by rw [hL]; exact ht) (by rw [hL]; exact hm) z.1 (by rw [hL]; exact z.2) y.1 (by rw [hL]; exact y.2) (kI_mk ?_)
      rw [hL]
      exact k rfl
    · rw [if_pos (Or.inr y)] at x
      exact x rfl
  · rw [if_pos (Or.inl z)] at x
    exact x rfl
theorem q_wouldRefuse (hR : RG (M 8 0 1) L) (hw : WFn L) {t v : Int} (hti : I32 t) (hvi : I32 v) (k : AnsM M K (qWould L t v)) : Call G 4 0 zX12_wouldRefuse [rr G 8 0 0, iv t, iv v] M K X := by
  obtain ⟨ht, hm, hv, hb⟩ := hw
  have hR' : RG (wr M 8 0 0 7 0 8 0 1) L := by rw [thr_g]; exact hR
  unfold qWould at k
  refine bX12_wouldRefuse (m_isTrip hR ht hti (kI_mk ⟨b2i_i32 _, fun z => ?_, fun z => m_isVehicle hR hv hvi (kI_mk ⟨b2i_i32 _, fun y => ?_, fun y => ?_⟩)⟩))
  · rw [if_pos (Or.inl (b2i_0.mp z))] at k
    replace k := ansE (by decide) k
    exact k
  · rw [if_pos (Or.inr (b2i_0.mp y))] at k
    replace k := ansE (by decide) k
    exact k
  · have z' := Classical.byContradiction fun w => z (b2i_0.mpr w)
    have y' := Classical.byContradiction fun w => y (b2i_0.mpr w)
    rw [if_neg (by omega)] at k
    replace k := ans0 k
    exact m_reasonFor hR' ht hm hv z'.1 z'.2 y'.1 y'.2 (kI_mk k)
theorem p_trip (hL : M 1 0 = L) (hw : WFn L) {t v : Int} (hti : I32 t) (hvi : I32 v) (k : (qTrip L t v).1 = 0 → K [iv (qTrip L t v).2] M) (x1 : (qTrip L t v).1 = 1 → X "java/lang/IndexOutOfBoundsException" M) (x2 : (qTrip L t v).1 = 2 → X "java/lang/IllegalArgumentException" M) : Call G 9 2 zX11_trip [rr G 0 0 0, iv t, iv v] M K X := by
  obtain ⟨ht, hm, hv, hb⟩ := hw
  have nt := ht.1
  unfold qTrip at k x1 x2
  refine bX11_trip ?_
  rw [hL]
  refine sp_requireIndex hti (i32 (by omega)) (fun z => kV_mk ?_) (fun z => ?_)
  · rw [if_neg (fun w => w z)] at k x2
    have h7 := ht.2 t z.1 z.2
    rw [hL]
    refine ⟨hvi, fun y => ⟨z.1, by omega, ?_⟩, fun y => ⟨z.1, by omega, ?_⟩, fun y => ⟨z.1, by omega, ?_⟩, fun y => ?_, fun y => ?_, fun y => ⟨z.1, by omega, i32 (by omega), fun w => ?_, fun w => ?_⟩, fun y => ?_, fun y => ?_⟩
    · rw [if_neg (by omega), if_pos y] at k; exact k rfl
    · rw [if_neg (by omega), if_neg (by omega), if_pos y] at k; exact k rfl
    · rw [if_neg (by omega), if_neg (by omega), if_neg (by omega), if_pos y] at k; exact k rfl
    · rw [if_neg (by omega), if_neg (by omega), if_neg (by omega), if_neg (by omega), if_pos y] at k
      exact sp_arrivalOf (by omega) (by omega) (by rw [hL]; exact ht) z.1 (by rw [hL]; exact z.2) (kI_mk (by rw [hL]; exact k rfl))
    · rw [if_neg (by omega), if_neg (by omega), if_neg (by omega), if_neg (by omega), if_neg (by omega), if_pos y] at k
      exact sp_directionOf (by omega) (by omega) (by rw [hL]; exact ht) z.1 (by rw [hL]; exact z.2) (kI_mk (by rw [hL]; exact k rfl))
    · rw [if_neg (by omega), if_neg (by omega), if_neg (by omega), if_neg (by omega), if_neg (by omega), if_neg (by omega), if_pos y, b2i_f (fun u => u w)] at k; exact k rfl
    · rw [if_neg (by omega), if_neg (by omega), if_neg (by omega), if_neg (by omega), if_neg (by omega), if_neg (by omega), if_pos y, b2i_t w] at k; exact k rfl
    · rw [if_neg (by omega), if_neg (by omega), if_neg (by omega), if_neg (by omega), if_neg (by omega), if_neg (by omega), if_neg (by omega)] at k
      exact sp_vehicleOf (by omega) (by omega) (by rw [hL]; exact hv) (by rw [hL]; exact ht) hti (kI_mk (by rw [hL]; exact k rfl))
    · rw [if_pos (by omega)] at x2
      exact x2 rfl
  · rw [if_pos z] at x1
    exact x1 rfl
theorem q_trip (hR : RG (M 8 0 1) L) (hw : WFn L) {t v : Int} (hti : I32 t) (hvi : I32 v) (k : AnsM M K (qTrip L t v)) : Call G 3 0 zX12_trip [rr G 8 0 0, iv t, iv v] M K X := by
  obtain ⟨ht, hm, hv, hb⟩ := hw
  have hR' : RG (wr M 8 0 0 7 0 8 0 1) L := by rw [thr_g]; exact hR
  unfold qTrip at k
  refine bX12_trip (m_isTrip hR ht hti (kI_mk ⟨b2i_i32 _, fun z => ?_, fun z => m_in hvi (i32 (by omega)) (i32 (by omega)) (kI_mk ⟨b2i_i32 _, fun y => ?_, fun y => ?_⟩)⟩))
  · rw [if_pos (b2i_0.mp z)] at k
    replace k := ansE (by decide) k
    exact k
  · have z' := Classical.byContradiction fun w => z (b2i_0.mpr w)
    rw [if_neg (fun w => w z'), if_pos (b2i_0.mp y)] at k
    replace k := ansE (by decide) k
    exact k
  · have z' := Classical.byContradiction fun w => z (b2i_0.mpr w)
    have y' := Classical.byContradiction fun w => y (b2i_0.mpr w)
    rw [if_neg (fun w => w z'), if_neg (fun w => w y')] at k
    replace k := ans0 k
    refine bX12_tripTold ⟨hvi, fun w => ?_, fun w => ?_, fun w => ?_, fun w => ?_, fun w => ?_, fun w => ?_, fun w => ?_⟩
    · rw [if_pos w] at k
      exact m_first hR' ht z'.1 z'.2 (kI_mk (kI_mk k))
    · rw [if_neg (by omega), if_pos w] at k
      exact m_last hR' ht z'.1 z'.2 (kI_mk (kI_mk k))
    · rw [if_neg (by omega), if_neg (by omega), if_pos w] at k
      exact m_departs hR' ht z'.1 z'.2 (kI_mk (kI_mk k))
    · rw [if_neg (by omega), if_neg (by omega), if_neg (by omega), if_pos w] at k
      exact m_arrives hR' ht z'.1 z'.2 (kI_mk (kI_mk k))
    · rw [if_neg (by omega), if_neg (by omega), if_neg (by omega), if_neg (by omega), if_pos w] at k
      exact m_direction hR' ht z'.1 z'.2 (kI_mk (kI_mk k))
    · rw [if_neg (by omega), if_neg (by omega), if_neg (by omega), if_neg (by omega), if_neg (by omega), if_pos w] at k
      refine m_isActive hR' ht z'.1 z'.2 (kI_mk ⟨b2i_i32 _, fun u => kI_mk ?_, fun u => kI_mk ?_⟩)
      · rw [b2i_t (b2i_0.mp u)] at k
        exact k
      · have u' : L 10 t = 0 := Classical.byContradiction fun q => u (b2i_0.mpr q)
        rw [b2i_f (fun q => q u')] at k
        exact k
    · rw [if_neg (by omega), if_neg (by omega), if_neg (by omega), if_neg (by omega), if_neg (by omega), if_neg (by omega)] at k
      exact m_vehicleOf hR' ht hv hti (kI_mk (kI_mk k))
end Pb
