/-! ===== cancel (the reference) ===== -/
section Pk
variable {G : GT} {K : List Value → Mem → Prop} {X : String → Mem → Prop} {M : Mem} {L : LFn}
theorem q_cancel {n : Int} {H : Int → LFn} (hR : RG (M 8 0 1) L) (hw : WFn L) (hP : Pas M n H) (hwH : ∀ r, 0 ≤ r → r < n → WFn (H r)) {t c : Int} (hti : I32 t) (hc : c = 0 ∨ c = 1) (hA : 0 ≤ t → t < L 6 4 → L 10 t = 0 → trnE L t = 1)
    (hwO : WFn (outF L t)) (k0 : qCan L t c = 0 → MutM M K n H L (canL L t c) (L 10 t)) (k1 : qCan L t c ≠ 0 → AnsM M K (qCan L t c, 0)) : Call G 3 0 zX12_cancel [rr G 8 0 0, iv t, iv c] M K X := by
  have hw' := hw
  obtain ⟨ht, hm, hv, hbk⟩ := hw
  have hR' : RG (wr M 8 0 0 7 0 8 0 1) L := by rw [thr_g]; exact hR
  unfold qCan at k0 k1
  refine bX12_cancel (m_isTrip hR ht hti (kI_mk ⟨b2i_i32 _, fun z => bX12_cancel_14 ⟨i32 (by omega), fun y => absurd (show (0 : Int) < 1 by omega) y, fun _ => ?_⟩, fun z => bX12_cancel_14 ⟨i32 (by omega), fun _ => ?_, fun y => absurd y (by omega)⟩⟩))
  · rw [if_pos (b2i_0.mp z)] at k1
    exact ansE (by decide) (k1 (by decide))
  · have z' := Classical.byContradiction fun w => z (b2i_0.mpr w)
    rw [if_neg (fun w => w z')] at k0 k1
    have h7 := ht.2 t z'.1 z'.2
    have nt := ht.1
    -- the change
    have go : ¬ (c = 0 ∧ trnE L t = 0) → eX12_cancel G K X 77 [(0, rr G 8 0 0), (1, iv t), (2, iv c)] [] (wr M 8 0 0 7 0) := by
      intro hq
      rw [if_neg hq] at k0
      refine bX12_cancel_77 (m_begins hR' hw' (fun M1 f1 s1 => kV_mk ?_))
      have fr1 := fxG (fx7 M 0) f1 (Or.inr rfl)
      have g1 : M1 8 0 1 = M 8 0 1 := (f1 8 0 1 (by omega)).trans (thr_g M 0)
      have hR1 : RG (M1 8 0 1) L := by rw [g1]; exact hR
      have z1 : M1 8 0 0 = wr M 8 0 0 7 0 8 0 0 := f1 8 0 0 (by omega)
      have p41 : M1 8 0 4 = M 8 0 4 := (f1 8 0 4 (by omega)).trans (wr_nc (by omega))
      have last : ∀ M2, FrX P1 M1 M2 → RG (M2 8 0 1) (if c = 0 then L else outF L t) → eX12_cancel G K X 105 [(0, rr G 8 0 0), (1, iv t), (2, iv c), (3, iv (L 10 t))] [] M2 := by
        intro M2 f2 r2
        have f3 : FrX P1 M1 (wr M2 8 0 1 (40 + 4 * t + 3) c) := fx1 f2 _ _
        have hwX : WFn (if c = 0 then L else outF L t) := by split; exact hw'; exact hwO
        have o6 : (if c = 0 then L else outF L t) 6 4 = L 6 4 := by
          split
          · rfl
          · unfold outF
            split
            · rfl
            · rw [up1_nc (by omega)]
        have r3 : RG (wr M2 8 0 1 (40 + 4 * t + 3) c 8 0 1) (canL L t c) := by
          rw [wr_rv]
          have := RG_trip (v := c) (f := 3) r2 hwX z'.1 (by rw [o6]; exact z'.2) (by omega) (by omega)
          unfold canL
          by_cases hc0 : c = 0
          · rw [if_pos hc0] at this ⊢
            exact this
          · rw [if_neg hc0] at this ⊢
            exact this
        have fin : Call G 0 0 zX12_remembers [rr G 8 0 0] (wr M2 8 0 1 (40 + 4 * t + 3) c) (kV (fun M4 => (L 10 t = 0 ∨ L 10 t = 1) ∧ K [iv (L 10 t)] M4)) noX := by
          generalize wr M2 8 0 1 (40 + 4 * t + 3) c = M3 at f3 r3 ⊢
          have e3 : M3 8 0 3 = M1 8 0 3 := f3.row (fun k => by show ¬ (_ = _); omega)
          have z2 : M3 8 0 0 = M1 8 0 0 := f3.row (fun k => by show ¬ (_ = _); omega)
          have p4 : M3 8 0 4 = M 8 0 4 := (f3.row (fun k => by show ¬ (_ = _); omega)).trans p41
          refine m_remembers (hP.keep (by rw [z2, z1, wr_nk (by omega)]) p4) (by rw [e3]; exact s1) hw' hwH (fun M4 f4 q4 => kV_mk ⟨by omega, ?_⟩)
          have g3 : M4 8 0 1 = M3 8 0 1 := f4.g (by omega)
          refine k0 rfl M4 (fxP (fx1M fr1 f3) f4) ?_ (by rw [g3]; exact r3) q4
          rw [f4 8 0 0 7 (by omega), z2, z1, wr_at]
        refine bX12_cancel_105 ⟨i32 (by omega), fun y => bX12_cancel_126 ⟨by omega, by omega, ?_⟩, fun y => bX12_cancel_126 ⟨by omega, by omega, ?_⟩⟩
        · rw [y] at fin; exact fin
        · rw [show c = 1 by omega] at fin; exact fin
      have mid : eX12_cancel G K X 94 [(0, rr G 8 0 0), (1, iv t), (2, iv c)] [iv (L 10 t)] M1 := by
        refine bX12_cancel_94 ⟨i32 (by omega), fun y => last M1 FrX.rf (by rw [if_pos y]; exact hR1), fun y => m_leaves hR1 ht hv hbk hti (Or.inr rfl) (fun M2 f2 r2 => kV_mk (last M2 f2 ?_))⟩
        rw [if_neg y]
        rw [if_neg (by omega)] at r2
        exact r2
      refine m_isActive hR1 ht z'.1 z'.2 (kI_mk ⟨b2i_i32 _, fun y => ?_, fun y => ?_⟩)
      · have y' : L 10 t = 0 := Classical.byContradiction fun w => y (b2i_0.mpr w)
        rw [y'] at mid
        exact mid
      · have y' := b2i_0.mp y
        rw [show L 10 t = 1 by omega] at mid
        exact mid
    have no : (c = 0 ∧ trnE L t = 0) → ∀ N : Mem, N = wr M 8 0 0 7 0 → eX12_cancel G K X 70 [(0, rr G 8 0 0)] [] N := by
      intro hq N eN
      rw [if_pos hq] at k1
      refine bX12_cancel_70 ?_
      rw [eN, wr_wr]
      exact ansE (by decide) (k1 (by decide))
    have h41 := hm.2.1 (L 7 t) (by omega) (by omega)
    have h42 := hm.2.1 (L 8 t) (by omega) (by omega)
    refine ⟨i32 (by omega), fun y => go (fun w => y w.1), fun y => m_isActive hR' ht z'.1 z'.2 (kI_mk ⟨b2i_i32 _, fun w => ?_, fun w => m_first hR' ht z'.1 z'.2 (kI_mk ?_)⟩)⟩
    · have w' : L 10 t = 0 := Classical.byContradiction fun u => w (b2i_0.mpr u)
      have := hA z'.1 z'.2 w'
      exact go (fun u => by omega)
    · rw [hR'.2.1 _ (by omega) (by omega)]
      refine ⟨by omega, by omega, i32 (by omega), fun u => no ⟨y, b2i_f (fun q => q.1 u)⟩ _ rfl, fun u => m_last hR' ht z'.1 z'.2 (kI_mk ?_)⟩
      rw [hR'.2.1 _ (by omega) (by omega)]
      refine ⟨by omega, by omega, i32 (by omega), fun r => go (fun q => ?_), fun r => no ⟨y, b2i_f (fun q => q.2 r)⟩ _ rfl⟩
      have := b2i_t (p := L 4 (L 7 t) ≠ 0 ∧ L 4 (L 8 t) ≠ 0) ⟨u, r⟩
      have q2 := q.2
      unfold trnE at q2
      omega
end Pk
