/-! ===== give ===== -/
theorem rsnG_bd (L : LFn) (t v : Int) : 0 ≤ rsnG L t v ∧ rsnG L t v ≤ 6 := by
  have := rsn_bd L t t v
  unfold rsnG
  split
  · omega
  · split <;> omega
/-- what a refused giving may write in region 8 -/
abbrev PF (c k : Int) : Prop := c = 0 ∧ (k = 6 ∨ k = 7)
section Ph
variable {G : GT} {K : List Value → Mem → Prop} {X : String → Mem → Prop} {M : Mem} {L : LFn}
theorem p_give (hL : M 1 0 = L) (hw : WFn L) (hz : BZ L) (hH : HI M) {t v : Int} (hti : I32 t) (hvi : I32 v) (hl : 0 ≤ v → v < L 11 3 → rsnG L t v = 0 → L 13 v < 30)
    (k0 : (0 ≤ t ∧ t < L 6 4) → (0 ≤ v ∧ v < L 11 3) → rsnG L t v = 0 → ∀ M', (∀ r i, r ≠ 1 → r ≠ 2 → M' r i = M r i) → (∀ i, (i < 3 ∨ 10 < i) → i ≠ 0 → M' 1 i = M 1 i) → M' 1 0 = insL L v (tbf L (L 9 t) v) t → Kept M M' L → K [iv (tbf L (L 9 t) v)] M')
    (x1 : ¬ ((0 ≤ t ∧ t < L 6 4) ∧ 0 ≤ v ∧ v < L 11 3) → X "java/lang/IndexOutOfBoundsException" M) (x2 : (0 ≤ t ∧ t < L 6 4) → (0 ≤ v ∧ v < L 11 3) → rsnG L t v ≠ 0 → X "java/lang/UnsupportedOperationException" (wr M 0 0 0 8 (rsnG L t v))) : Call G 9 3 zX11_give [rr G 0 0 0, iv t, iv v] M K X := by
  obtain ⟨ht, hm, hv, hbk⟩ := hw
  have nt := ht.1
  have nv := hv.1
  refine bX11_give ?_
  rw [hL]
  refine sp_requireIndex hti (i32 (by omega)) (fun z => kV_mk ?_) (fun z => x1 (fun w => z w.1))
  rw [hL]
  refine sp_requireIndex hvi (i32 (by omega)) (fun y => kV_mk ?_) (fun y => x1 (fun w => y w.2))
  have hrb := rsnG_bd L t v
  refine sp_reasonAgainst (by omega) (by omega) (by rw [hL]; exact hv) (by rw [hL]; exact ht) (by rw [hL]; exact hm) z.1 (by rw [hL]; exact z.2) y.1 (by rw [hL]; exact y.2) (kI_mk ?_)
  rw [hL]
  refine ⟨i32 (by omega), fun u => sp_keep hH (by omega) (by omega) (by rw [hL]; exact hz) (fun M1 f1 kp1 => kV_mk ?_), fun u => x2 z y u⟩
  have e1 : M1 1 0 = L := (f1.2 0 (Or.inl (by omega)) (by omega)).trans hL
  rw [hL] at kp1
  have hlv := (hv.2 v y.1 y.2).2.2
  have hbd := tbf_bd (L := L) (m := L 9 t) (v := v) hlv.1
  refine sp_positionFor (i := 0) (by omega) (by omega) (by rw [e1]; exact hv) (by rw [e1]; exact ht) z.1 (by rw [e1]; exact z.2) y.1 (by rw [e1]; exact y.2) (kI_mk ?_)
  rw [e1]
  refine sp_insert (i := 0) (by omega) (by omega) y.1 (by omega) (by rw [e1]; exact hlv.1) (by rw [e1]; exact hl y.1 y.2 u) hbd.1 (by rw [e1]; exact hbd.2) (fun M2 f2 e2 => kV_mk ?_)
  rw [e1] at e2
  exact k0 z y u M2 (fun r i r1 r2 => (f2.ne (Or.inl r1)).trans (f1.1 r i r1 r2)) (fun i hi i0 => (f2.ne (Or.inr i0)).trans (f1.2 i hi (by omega))) e2 (kp1.line hH.1.1 f2)
theorem q_give {n : Int} {H : Int → LFn} (hR : RG (M 8 0 1) L) (hw : WFn L) (hP : Pas M n H) (hwH : ∀ r, 0 ≤ r → r < n → WFn (H r)) {t v : Int} (hti : I32 t) (hvi : I32 v) (hl : 0 ≤ v → v < L 11 3 → rsnG L t v = 0 → L 13 v < 30)
    (k0 : (0 ≤ t ∧ t < L 6 4) → (0 ≤ v ∧ v < L 11 3) → rsnG L t v = 0 → MutM M K n H L (insL L v (tbf L (L 9 t) v) t) (tbf L (L 9 t) v)) (k1 : ¬ ((0 ≤ t ∧ t < L 6 4) ∧ 0 ≤ v ∧ v < L 11 3) → AnsM M K (1, 0))
    (k2 : (0 ≤ t ∧ t < L 6 4) → (0 ≤ v ∧ v < L 11 3) → rsnG L t v ≠ 0 → ∀ M', FrX PF M M' → M' 8 0 0 7 = 2 → M' 8 0 0 6 = rsnG L t v → K [iv 0] M') : Call G 4 0 zX12_give [rr G 8 0 0, iv t, iv v] M K X := by
  have hw' := hw
  obtain ⟨ht, hm, hv, hbk⟩ := hw
  have hrb := rsnG_bd L t v
  have hR' : RG (wr M 8 0 0 7 0 8 0 1) L := by rw [thr_g]; exact hR
  refine bX12_give (m_isTrip hR ht hti (kI_mk ⟨b2i_i32 _, fun z => ansE (by decide) (k1 (fun w => (b2i_0.mp z) w.1)), fun z => m_isVehicle hR hv hvi (kI_mk ⟨b2i_i32 _, fun y => ansE (by decide) (k1 (fun w => (b2i_0.mp y) w.2)), fun y => ?_⟩)⟩))
  have z' := Classical.byContradiction fun w => z (b2i_0.mpr w)
  have y' := Classical.byContradiction fun w => y (b2i_0.mpr w)
  refine m_reasonFor hR' ht hm hv z'.1 z'.2 y'.1 y'.2 (kI_mk ⟨i32 (by omega), fun u => ?_, fun u => ?_⟩)
  · have u' : rsnG L t v = 0 := by omega
    refine m_begins hR' hw' (fun M1 f1 s1 => kV_mk ?_)
    have fr1 := fxG (fx7 M 0) f1 (Or.inr rfl)
    have g1 : M1 8 0 1 = M 8 0 1 := (f1 8 0 1 (by omega)).trans (thr_g M 0)
    refine m_gives (by rw [g1]; exact hR) hv ht hbk z'.1 z'.2 y'.1 y'.2 (hl y'.1 y'.2 u') (fun M2 f2 r2 => kI_mk ?_)
    have e3 : M2 8 0 3 = M1 8 0 3 := f2.row (fun k => by show ¬ (_ = _); omega)
    have z2 : M2 8 0 0 = M1 8 0 0 := f2.row (fun k => by show ¬ (_ = _); omega)
    have z1 : M1 8 0 0 = wr M 8 0 0 7 0 8 0 0 := f1 8 0 0 (by omega)
    have p4 : M2 8 0 4 = M 8 0 4 := (f2.row (fun k => by show ¬ (_ = _); omega)).trans ((f1 8 0 4 (by omega)).trans (wr_nc (by omega)))
    refine m_remembers (hP.keep (by rw [z2, z1, wr_nk (by omega)]) p4) (by rw [e3]; exact s1) hw' hwH (fun M3 f3 p3 => kV_mk ?_)
    have g3 : M3 8 0 1 = M2 8 0 1 := f3.g (by omega)
    refine k0 z' y' u' M3 (fxP (fx1M fr1 f2) f3) ?_ (by rw [g3]; exact r2) p3
    rw [f3 8 0 0 7 (by omega), z2, z1, wr_at]
  · refine bX12_fails (kI_mk (k2 z' y' (by omega) _ (FrX.wr (FrX.wr (FrX.wr FrX.rf (show PF 0 7 from ⟨rfl, Or.inr rfl⟩) 0) (show PF 0 6 from ⟨rfl, Or.inl rfl⟩) _) (show PF 0 7 from ⟨rfl, Or.inr rfl⟩) 2) (wr_at _ _ _ _ _ _) ?_))
    rw [wr_nk (by omega), wr_at]
end Ph
