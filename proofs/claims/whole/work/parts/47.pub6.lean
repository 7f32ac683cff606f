/-! ===== setTurn ===== -/
def qTurn (L : LFn) (s a : Int) : Int := if ¬ (1 ≤ s ∧ s ≤ 10) then 1 else if a = 0 ∧ endA L s ≠ 0 then 2 else 0
theorem endA_01 (L : LFn) (s : Int) : endA L s = 0 ∨ endA L s = 1 := by unfold endA; split <;> simp
section Pg
variable {G : GT} {K : List Value → Mem → Prop} {X : String → Mem → Prop} {M : Mem} {L : LFn}
theorem p_setTurn (hL : M 1 0 = L) (hw : WFn L) (hz : BZ L) (hH : HI M) {s a : Int} (hs : I32 s) (ha : a = 0 ∨ a = 1)
    (k0 : qTurn L s a = 0 → ∀ M', (∀ r i, r ≠ 1 → r ≠ 2 → M' r i = M r i) → (∀ i, (i < 3 ∨ 10 < i) → i ≠ 0 → M' 1 i = M 1 i) → M' 1 0 = up1 L 4 s a → Kept M M' L → K [iv (L 4 s)] M')
    (x1 : qTurn L s a = 1 → X "java/lang/IndexOutOfBoundsException" M) (x2 : qTurn L s a = 2 → X "java/lang/IllegalStateException" M) : Call G 8 1 zX11_setTurn [rr G 0 0 0, iv s, iv a] M K X := by
  obtain ⟨ht, hm, hv, hbk⟩ := hw
  unfold qTurn at k0 x1 x2
  have h01 := endA_01 L s
  refine bX11_setTurn (sp_isFromTo hs (i32 (by omega)) (i32 (by omega)) (kI_mk ⟨b2i_i32 _, fun z => ⟨i32 (by omega), fun y => ?_, fun y => ?_⟩, fun z => ?_⟩))
  · have z' := Classical.byContradiction fun w => z (b2i_0.mpr w)
    rw [if_neg (fun w => w z'), if_neg (by omega)] at k0
    have h4 := hm.2.1 s (by omega) (by omega)
    refine ⟨by omega, by omega, sp_keep hH (by omega) (by omega) (by rw [hL]; exact hz) (fun M1 f1 kp1 => kV_mk ?_)⟩
    have e1 : M1 1 0 = L := (f1.2 0 (Or.inl (by omega)) (by omega)).trans hL
    rw [hL] at kp1 ⊢
    refine ⟨nar01 (by omega), by omega, k0 rfl _ (fun r i r1 r2 => (wr_rn (fun w => r1 w.1)).trans (f1.1 r i r1 r2)) (fun i hi i0 => (wr_rn (fun w => i0 w.2)).trans (f1.2 i hi (by omega))) (by rw [wr_line, e1]) (kp1.line hH.1.1 (FrL.rf.wr _ _ _))⟩
  · have z' := Classical.byContradiction fun w => z (b2i_0.mpr w)
    rw [if_neg (fun w => w z')] at k0 x2
    have h4 := hm.2.1 s (by omega) (by omega)
    refine sp_isEndOfActive (by omega) (by omega) (by rw [hL]; exact ht) hs (kI_mk ?_)
    rw [hL]
    refine ⟨i32 (by omega), fun u => ⟨by omega, by omega, sp_keep hH (by omega) (by omega) (by rw [hL]; exact hz) (fun M1 f1 kp1 => kV_mk ?_)⟩, fun u => ?_⟩
    · rw [if_neg (fun w => w.2 u)] at k0
      have e1 : M1 1 0 = L := (f1.2 0 (Or.inl (by omega)) (by omega)).trans hL
      rw [hL] at kp1
      refine ⟨nar01 (by omega), by omega, k0 rfl _ (fun r i r1 r2 => (wr_rn (fun w => r1 w.1)).trans (f1.1 r i r1 r2)) (fun i hi i0 => (wr_rn (fun w => i0 w.2)).trans (f1.2 i hi (by omega))) (by rw [wr_line, e1]) (kp1.line hH.1.1 (FrL.rf.wr _ _ _))⟩
    · rw [if_pos ⟨y, u⟩] at x2
      exact x2 rfl
  · rw [if_pos (b2i_0.mp z)] at x1
    exact x1 rfl
theorem q_setTurn {n : Int} {H : Int → LFn} (hR : RG (M 8 0 1) L) (hw : WFn L) (hP : Pas M n H) (hwH : ∀ r, 0 ≤ r → r < n → WFn (H r)) {s a : Int} (hs : I32 s) (ha : a = 0 ∨ a = 1) (k0 : qTurn L s a = 0 → MutM M K n H L (up1 L 4 s a) (L 4 s)) (k1 : qTurn L s a ≠ 0 → AnsM M K (qTurn L s a, 0)) : Call G 2 0 zX12_setTurn [rr G 8 0 0, iv s, iv a] M K X := by
  have hw' := hw
  obtain ⟨ht, hm, hv, hbk⟩ := hw
  have h01 := endA_01 L s
  unfold qTurn at k0 k1
  have wrt : (1 ≤ s ∧ s ≤ 10) → MutM M K n H L (up1 L 4 s a) (L 4 s) → ∀ M1, FrG 3 (wr M 8 0 0 7 0) M1 → RG (M1 8 0 3) L → ∀ r : Int, r = L 4 s → Call G 0 0 zX12_remembers [rr G 8 0 0] (wr M1 8 0 1 (22 + s) a) (kV (fun M29 => K [iv r] M29)) noX := by
    intro hsb hk M1 f1 s1 r hr
    have fr1 := fxG (fx7 M 0) f1 (Or.inr rfl)
    have g1 : M1 8 0 1 = M 8 0 1 := (f1 8 0 1 (by omega)).trans (thr_g M 0)
    have f2 : FrX P1 M1 (wr M1 8 0 1 (22 + s) a) := fx1 FrX.rf _ _
    have r2 : RG (wr M1 8 0 1 (22 + s) a 8 0 1) (up1 L 4 s a) := by rw [wr_rv, g1]; exact RG_turn hR hw' (by omega) (by omega)
    generalize wr M1 8 0 1 (22 + s) a = M2 at f2 r2 ⊢
    have e3 : M2 8 0 3 = M1 8 0 3 := f2.row (fun k => by show ¬ (_ = _); omega)
    have z2 : M2 8 0 0 = M1 8 0 0 := f2.row (fun k => by show ¬ (_ = _); omega)
    have z1 : M1 8 0 0 = wr M 8 0 0 7 0 8 0 0 := f1 8 0 0 (by omega)
    have p4 : M2 8 0 4 = M 8 0 4 := (f2.row (fun k => by show ¬ (_ = _); omega)).trans ((f1 8 0 4 (by omega)).trans (wr_nc (by omega)))
    refine m_remembers (hP.keep (by rw [z2, z1, wr_nk (by omega)]) p4) (by rw [e3]; exact s1) hw' hwH (fun M3 f3 p3 => kV_mk ?_)
    have g3 : M3 8 0 1 = M2 8 0 1 := f3.g (by omega)
    rw [hr]
    refine hk M3 (fxP (fx1M fr1 f2) f3) ?_ (by rw [g3]; exact r2) p3
    rw [f3 8 0 0 7 (by omega), z2, z1, wr_at]
  refine bX12_setTurn (m_in hs (i32 (by omega)) (i32 (by omega)) (kI_mk ⟨b2i_i32 _, fun z => ?_, fun z => ⟨i32 (by omega), fun y => ?_, fun y => ?_⟩⟩))
  · rw [if_pos (b2i_0.mp z)] at k1
    exact ansE (by decide) (k1 (by decide))
  · have z' := Classical.byContradiction fun w => z (b2i_0.mpr w)
    rw [if_neg (fun w => w z'), if_neg (by omega)] at k0
    have h4 := hm.2.1 s (by omega) (by omega)
    refine m_begins (by rw [thr_g]; exact hR) hw' (fun M1 f1 s1 => kV_mk ?_)
    have g1 : M1 8 0 1 = M 8 0 1 := (f1 8 0 1 (by omega)).trans (thr_g M 0)
    have w1 := wrt z' (k0 rfl) M1 f1 s1
    rw [show a = 1 by omega] at w1
    rw [g1, hR.2.1 s (by omega) (by omega)]
    exact ⟨by omega, by omega, i32 (by omega), fun u => w1 0 (by omega), fun u => w1 1 (by omega)⟩
  · have z' := Classical.byContradiction fun w => z (b2i_0.mpr w)
    rw [if_neg (fun w => w z')] at k0 k1
    have h4 := hm.2.1 s (by omega) (by omega)
    refine m_isEnd hR ht hs (kI_mk ⟨i32 (by omega), fun u => ?_, fun u => ?_⟩)
    · rw [if_neg (fun w => w.2 u)] at k0
      refine m_begins (by rw [thr_g]; exact hR) hw' (fun M1 f1 s1 => kV_mk ?_)
      have g1 : M1 8 0 1 = M 8 0 1 := (f1 8 0 1 (by omega)).trans (thr_g M 0)
      have w1 := wrt z' (k0 rfl) M1 f1 s1
      rw [show a = 0 by omega] at w1
      rw [g1, hR.2.1 s (by omega) (by omega)]
      exact ⟨by omega, by omega, i32 (by omega), fun u => w1 0 (by omega), fun u => w1 1 (by omega)⟩
    · rw [if_pos ⟨y, u⟩] at k1
      exact ansE (by decide) (k1 (by decide))
end Pg
