/-! ===== the reference: leaving duties, standing, sums ===== -/
theorem posOf_at {L : LFn} {t v : Int} (h : posOf L t v ≠ -1) : 0 ≤ posOf L t v ∧ posOf L t v < L 13 v ∧ L (15 + v) (posOf L t v) = t ∧ ∀ x, 0 ≤ x → x < posOf L t v → L (15 + v) x ≠ t := by
  rcases srch_spec (p := fun p => decide (L (15 + v) p = t)) (k := 0) (b := L 13 v) with ⟨h1, -⟩ | ⟨h1, h2, h3, h4⟩
  · exact absurd h1 h
  · refine ⟨h1, h2, of_decide_eq_true h3, fun x x0 x1 => ?_⟩
    have := h4 x x0 x1
    simpa using this
theorem vehOf_at {L : LFn} {t : Int} (h : vehOf L t ≠ -1) : 0 ≤ vehOf L t ∧ vehOf L t < L 11 3 ∧ posOf L t (vehOf L t) ≠ -1 := by
  rcases srch_spec (p := fun v => decide (posOf L t v ≠ -1)) (k := 0) (b := L 11 3) with ⟨h1, -⟩ | ⟨h1, h2, h3, -⟩
  · exact absurd h1 h
  · exact ⟨h1, h2, of_decide_eq_true h3⟩
section Mv
variable {G : GT} {K : List Value → Mem → Prop} {X : String → Mem → Prop} {M : Mem} {L D : LFn}
theorem m_leaves (hR : RG (M 8 0 1) L) (ht : WFt L) (hv : WFv L) (hb : WFb L) {t o : Int} (hti : I32 t) (ho : o = 0 ∨ o = 1) (k : ∀ M', FrX P1 M M' → RG (M' 8 0 1) (if o = 0 then outB L t else outF L t) → K [] M') : Call G 2 0 zX12_leaves [rr G 8 0 0, iv t, iv o] M K X := by
  have hn := hv.1
  have hn2 := ht.1
  have hvb : -1 ≤ vehOf L t ∧ (vehOf L t = -1 ∨ (0 ≤ vehOf L t ∧ vehOf L t < L 11 3)) := srch_bd _ (Int.le_refl _)
  refine bX12_leaves (m_vehicleOf hR ht hv hti (kI_mk ⟨i32 (by omega), fun z => ?_, fun z => ?_⟩))
  · obtain ⟨a1, a2, a3⟩ := vehOf_at (L := L) (t := t) (by omega)
    obtain ⟨p1, p2, p3, p4⟩ := posOf_at a3
    have hl := (hv.2 _ a1 a2).2.2
    have eF : (if o = 0 then outB L t else outF L t) = up1 L 13 (vehOf L t) (if o = 0 then posOf L t (vehOf L t) + 1 else posOf L t (vehOf L t)) := by
      unfold outB outF
      rw [if_neg (show ¬ vehOf L t = -1 by omega), if_neg (show ¬ vehOf L t = -1 by omega)]
      split <;> rfl
    rw [eF] at k
    generalize vehOf L t = v at *
    generalize posOf L t v = q at *
    have gen := loop_up (E := fun x => 0 ≤ x → eX12_leaves G K X 14 [(0, rr G 8 0 0), (1, iv t), (2, iv o), (3, iv v), (4, iv x)] [] M) (a := 0) (b := q) p1 (fun _ => by
      refine bX12_leaves_14 (m_dutyAt hR hv a1 a2 p1 p2 (kI_mk ⟨?_, hti, fun _ => ⟨i32 (by omega), fun y => ⟨by omega, by omega, k _ (fx1 FrX.rf _ _) ?_⟩, fun y => ⟨by omega, by omega, k _ (fx1 FrX.rf _ _) ?_⟩⟩, fun w => absurd p3 w⟩))
      · rw [p3]; exact hti
      · rw [wr_rv, if_pos y]
        exact RG_cut hR hv ht hb a1 a2 (by omega)
      · rw [wr_rv, if_neg y]
        exact RG_cut hR hv ht hb a1 a2 (by omega)) (fun x q1 q2 hn9 _ => by
      have hd := hl.2.2 x q1 (by omega)
      exact bX12_leaves_14 (m_dutyAt hR hv a1 a2 q1 (by omega) (kI_mk ⟨i32 (by omega), hti, fun w => absurd w (p4 x q1 q2), fun _ => hn9 (by omega)⟩)))
    exact gen (Int.le_refl _)
  · have eF : (if o = 0 then outB L t else outF L t) = L := by
      unfold outB outF
      rw [if_pos (show vehOf L t = -1 by omega), if_pos (show vehOf L t = -1 by omega)]
      split <;> rfl
    rw [eF] at k
    exact k M FrX.rf hR
theorem m_begins (hR : RG (M 8 0 1) L) (hw : WFn L) (k : ∀ M', FrG 3 M M' → RG (M' 8 0 3) L → K [] M') : Call G 1 0 zX12_begins [rr G 8 0 0] M K X :=
  bX12_begins (m_copies dm8_1 ar8_1 dm8_3 ar8_3 (by decide) (fun M' f e => kV_mk (k M' f (RG_eq hw (fun x x0 x1 => e x x0 x1) hR))))
theorem m_stands {n : Int} {H : Int → LFn} {S : LFn} (hR : RG (M 8 0 1) L) (ht : WFt L) (hm : WFm L) (hv : WFv L) (hP : Pas M n H) (hS : RG (M 8 0 3) S) (hw : WFn S) (hwH : ∀ r, 0 ≤ r → r < n → WFn (H r))
    (k1 : sndA L = 1 → ∀ M', FrP M M' → Pas M' (pushN n) (pushH n H S) → K [iv 1] M') (k0 : sndA L = 0 → ∀ M', FrG 1 M M' → RG (M' 8 0 1) S → K [iv 0] M') : Call G 4 0 zX12_stands [rr G 8 0 0] M K X := by
  have hn := hv.1
  refine bX12_stands (loop_up (E := fun v => 0 ≤ v → allT (fun v => decide (sndD L v = 1)) v (L 11 3) = sndA L → eX12_stands G K X 2 [(0, rr G 8 0 0), (1, iv v)] [] M) hn.1 (fun _ e => ?_) (fun v q1 q2 hn9 _ e => ?_) (Int.le_refl _) rfl)
  · rw [allT_end (Int.le_refl _)] at e
    refine bX12_stands_2 ?_
    rw [hR.2.2.2.2.2.1]
    exact ⟨i32 (by omega), i32 (by omega), fun _ => m_remembers hP hS hw hwH (fun M' f p => kV_mk (k1 e.symm M' f p)), fun z => absurd z (by omega)⟩
  · have h01 : sndD L v = 0 ∨ sndD L v = 1 := by
      unfold sndD
      split
      · exact Or.inl rfl
      · exact allT_01 _ _ _
    refine bX12_stands_2 ?_
    rw [hR.2.2.2.2.2.1]
    refine ⟨i32 (by omega), i32 (by omega), fun z => absurd q2 z, fun _ => m_isSound hR ht hm hv q1 q2 (kI_mk ⟨i32 (by omega), fun z => ?_, fun z => ?_⟩)⟩
    · rw [allT_t q2 (by simp; omega)] at e
      exact hn9 (by omega) e
    · rw [allT_f q1 q2 (by simp; omega)] at e
      exact m_copies dm8_3 ar8_3 dm8_1 ar8_1 (by decide) (fun M' f e2 => kV_mk (k0 e.symm M' f (RG_eq hw (fun x x0 x1 => e2 x x0 x1) hS)))
/-- the run's sums -/
abbrev PS (c k : Int) : Prop := PR c k ∨ (c = 0 ∧ 21 ≤ k ∧ k ≤ 23)
theorem m_sums (hR : RG (M 8 0 1) L) (ht : WFt L) (hv : WFv L) (hm : WFm L) (hb : WFb L) {D0 : LFn} (hB : Beg L D0) (k : ∀ M', FrX PS M M' → RDp (M' 8 0) L (endD L D0) → M' 8 0 0 21 = cntD L (endD L D0) (L 6 4) → M' 8 0 0 22 = sumD L (endD L D0) (L 6 4) → M' 8 0 0 23 = grtD L (endD L D0) (L 6 4) → K [] M') : Call G 5 0 zX12_sums [rr G 8 0 0] M K X := by
  have hn := ht.1
  have hI := end_DI hv ht hm hb (hB.di hv ht)
  refine bX12_sums (m_runs hR ht hv hm hb hB (fun M1 f1 r1 => kV_mk ?_))
  generalize endD L D0 = D at *
  have rdw : ∀ N : Mem, ∀ j x, 21 ≤ j → RDp (N 8 0) L D → RDp (wr N 8 0 0 j x 8 0) L D := by
    intro N j x hj h
    rw [wr_reg]
    obtain ⟨a1, a2, a3, a4, a5, a6⟩ := h
    refine ⟨fun v v0 v1 => ?_, fun d s q0 q1 q2 q3 => ?_, fun t s q0 q1 q2 q3 => ?_, ?_, ?_, ?_⟩
    · rw [up1_nc (by omega), up1_nc (by omega), up1_nc (by omega)]; exact a1 v v0 v1
    · rw [up1_nc (by omega)]; exact a2 d s q0 q1 q2 q3
    · rw [up1_nc (by omega), up1_nc (by omega)]; exact a3 t s q0 q1 q2 q3
    · rw [up1_nk (by omega)]; exact a4
    · rw [up1_nk (by omega)]; exact a5
    · rw [up1_nk (by omega)]; exact a6
  have frw : ∀ N : Mem, ∀ j x, 21 ≤ j → j ≤ 23 → FrX PS M N → FrX PS M (wr N 8 0 0 j x) := fun N j x h1 h2 h => FrX.wr h (Or.inr (by omega)) _
  have rgw : ∀ N : Mem, FrX PS M N → RG (N 8 0 1) L := fun N h => by rw [h.row (fun k => by show ¬ ((_ ∨ _) ∨ _); omega)]; exact hR
  have gen := loop_up (E := fun t => 0 ≤ t → ∀ N : Mem, FrX PS M N → RDp (N 8 0) L D → N 8 0 0 21 = cntD L D t → N 8 0 0 22 = sumD L D t → N 8 0 0 23 = grtD L D t → eX12_sums G K X 21 [(0, rr G 8 0 0), (1, iv t)] [] N) hn.1 (fun _ N f r c1 c2 c3 => by
    refine bX12_sums_21 ?_
    rw [(rgw N f).2.2.2.1]
    exact ⟨i32 (by omega), i32 (by omega), fun _ => k N f r c1 c2 c3, fun z => absurd z (by omega)⟩) (fun t q1 q2 hn9 _ N f r c1 c2 c3 => by
    have hc : 0 ≤ cntD L D t ∧ cntD L D t ≤ t - 0 := cntT_bd _ q1
    have hg := grt_bd hI ht hm q1 (by omega)
    have hd := dlyD_bd hI ht hm q1 q2
    have es : sumD L D (t + 1) = sumD L D t + (if arrD L D t = -1 then 0 else dlyD L D t) := sumT_step _ q1
    have eg := grt_step L D q1
    refine bX12_sums_21 ?_
    rw [(rgw N f).2.2.2.1]
    refine ⟨i32 (by omega), i32 (by omega), fun z => absurd q2 z, fun _ => m_hasArrived (rgw N f) ht hI r q1 q2 (kI_mk ⟨b2i_i32 _, fun z => ?_, fun z => ?_⟩)⟩
    · have z' : arrD L D t = -1 := Classical.byContradiction fun w => b2i_0.mp z w
      rw [if_pos z'] at es eg
      refine hn9 (by omega) N f r ?_ (by omega) (by omega)
      rw [c1]
      exact (cntT_f q1 (by simpa using z')).symm
    · have z' : arrD L D t ≠ -1 := Classical.byContradiction fun w => z (b2i_0.mpr w)
      rw [if_neg z'] at es eg
      have ec : cntD L D (t + 1) = cntD L D t + 1 := cntT_t q1 (by simpa using z')
      -- the three written
      have fin : ∀ N2 : Mem, FrX PS M N2 → RDp (N2 8 0) L D → N2 8 0 0 21 = cntD L D (t + 1) → N2 8 0 0 23 = grtD L D (t + 1) → ∀ x, x = sumD L D (t + 1) → eX12_sums G K X 21 [(0, rr G 8 0 0), (1, iv (t + 1))] [] (wr N2 8 0 0 22 x) := by
        intro N2 f2 r2 d1 d3 x hx
        exact hn9 (by omega) _ (frw _ _ _ (by omega) (by omega) f2) (rdw _ _ _ (by omega) r2) (by rw [wr_nk (by omega)]; exact d1) (by rw [wr_at]; exact hx) (by rw [wr_nk (by omega)]; exact d3)
      have two : ∀ y, y = grtD L D (t + 1) → Call G 2 0 zX12_delayOf [rr G 8 0 0, iv t] (wr (wr N 8 0 0 23 y) 8 0 0 21 (N 8 0 0 21 + 1)) (kI (fun x M28 => eX12_sums G K X 21 [(0, rr G 8 0 0), (1, iv (t + 1))] [] (wr M28 8 0 0 22 (N 8 0 0 22 + x)))) noX := by
        intro y hy
        have f2 := frw _ 21 (N 8 0 0 21 + 1) (by omega) (by omega) (frw _ 23 y (by omega) (by omega) f)
        have r2 := rdw _ 21 (N 8 0 0 21 + 1) (by omega) (rdw _ 23 y (by omega) r)
        refine m_delayOf (rgw _ f2) ht r2 q1 q2 (kI_mk (fin _ f2 r2 ?_ ?_ _ ?_))
        · rw [wr_at]; omega
        · rw [wr_nk (by omega), wr_at]; exact hy
        · omega
      rw [c1]
      rw [c1] at two
      refine ⟨i32 (by omega), fun y => m_delayOf (rgw N f) ht r q1 q2 (kI_mk ?_), fun y => m_delayOf (rgw N f) ht r q1 q2 (kI_mk ?_)⟩
      · rw [c1]
        exact two _ (by rw [if_pos y] at eg; exact eg.symm)
      · rw [if_neg y] at eg
        rw [c3]
        refine ⟨i32 (by omega), i32 (by omega), fun w => fun M42 e42 => ?_, fun w => ?_⟩
        · have := two (grtD L D t) (by omega)
          rw [c1] at e42
          have e22 : M42 8 0 0 22 = N 8 0 0 22 := by rw [e42, wr_nk (by omega), wr_nk (by omega)]
          rw [e22, e42]
          exact this
        · refine m_delayOf (rgw N f) ht r q1 q2 (kI_mk ?_)
          rw [c1]
          exact two _ (by omega))
  have f0 : FrX PS M (wr (wr (wr M1 8 0 0 21 0) 8 0 0 22 0) 8 0 0 23 0) := frw _ _ _ (by omega) (by omega) (frw _ _ _ (by omega) (by omega) (frw _ _ _ (by omega) (by omega) (f1.mono (fun c k h => Or.inl h))))
  exact gen (Int.le_refl _) _ f0 (rdw _ _ _ (by omega) (rdw _ _ _ (by omega) (rdw _ _ _ (by omega) r1))) (by rw [wr_nk (by omega), wr_nk (by omega), wr_at]; exact (cntT_same _ _).symm) (by rw [wr_nk (by omega), wr_at]; exact (sumT_same _ _).symm) (by rw [wr_at]; rfl)
end Mv
