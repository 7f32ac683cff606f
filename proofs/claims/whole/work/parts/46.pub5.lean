/-! ===== addVehicle ===== -/
theorem RG_addV {g : Int → Int} {L : LFn} {d : Int} (hR : RG g L) (hw : WFn L) (hn1 : L 11 3 < 10) : RG (upI (upI (upI g (161 + L 11 3) d) (171 + L 11 3) 0) 160 (L 11 3 + 1)) (addV L d) := by
  obtain ⟨ht, hm, hv, hb⟩ := hw
  have nt := ht.1
  have nv := hv.1
  have nb := hb.1
  obtain ⟨r1, r2, r3, r4, r5, r6, r7, r8, r9⟩ := hR
  have o : ∀ x, x ≠ 160 → x ≠ 161 + L 11 3 → x ≠ 171 + L 11 3 → upI (upI (upI g (161 + L 11 3) d) (171 + L 11 3) 0) 160 (L 11 3 + 1) x = g x := fun x h1 h2 h3 => by rw [upI_ne h1, upI_ne h3, upI_ne h2]
  have l : ∀ c, (c < 11 ∨ 13 < c) → addV L d c = L c := fun c hc => by unfold addV; rw [up1_nc (by omega), up1_nc (by omega), up1_nc (by omega)]
  have l11 : addV L d 11 3 = L 11 3 + 1 := by unfold addV; rw [up1_at]
  refine ⟨fun k h0 h1 => ?_, fun s h0 h1 => ?_, ⟨?_, ?_, ?_⟩, ?_, fun u h0 h1 => ?_, ?_, fun w w0 w1 => ?_, ?_, fun x h0 h1 => ?_⟩
  · rw [o _ (by omega) (by omega) (by omega), o _ (by omega) (by omega) (by omega), l 2 (by omega), l 3 (by omega)]; exact r1 k h0 h1
  · rw [o _ (by omega) (by omega) (by omega), l 4 (by omega)]; exact r2 s h0 h1
  · rw [o _ (by omega) (by omega) (by omega), l 5 (by omega)]; exact r3.1
  · rw [o _ (by omega) (by omega) (by omega), l 5 (by omega)]; exact r3.2.1
  · rw [o _ (by omega) (by omega) (by omega), l 5 (by omega)]; exact r3.2.2
  · rw [o _ (by omega) (by omega) (by omega), l 6 (by omega)]; exact r4
  · rw [l 6 (by omega)] at h1
    rw [o _ (by omega) (by omega) (by omega), o _ (by omega) (by omega) (by omega), o _ (by omega) (by omega) (by omega), o _ (by omega) (by omega) (by omega), l 7 (by omega), l 8 (by omega), l 9 (by omega), l 10 (by omega)]
    exact r5 u h0 h1
  · rw [l11, upI_at]
  · rw [l11] at w1
    by_cases hq : w = L 11 3
    · rw [hq]
      refine ⟨?_, ?_, fun p p0 p1 => ?_⟩
      · unfold addV
        rw [upI_ne (by omega), upI_ne (by omega), upI_at, up1_nc (by omega), up1_nc (by omega), up1_at]
      · unfold addV
        rw [upI_ne (by omega), upI_at, up1_nc (by omega), up1_at]
      · unfold addV at p1
        rw [up1_nc (by omega), up1_at] at p1
        omega
    · have h := r7 w w0 (by omega)
      have hl := (hv.2 w w0 (by omega)).2.2
      have e12 : addV L d 12 w = L 12 w := by unfold addV; rw [up1_nc (by omega), up1_nc (by omega), up1_nk hq]
      have e13 : addV L d 13 w = L 13 w := by unfold addV; rw [up1_nc (by omega), up1_nk hq, up1_nc (by omega)]
      rw [o _ (by omega) (by omega) (by omega), o _ (by omega) (by omega) (by omega), e12, e13, l (15 + w) (by omega)]
      exact ⟨h.1, h.2.1, fun p p0 p1 => by rw [o _ (by omega) (by omega) (by omega)]; exact h.2.2 p p0 p1⟩
  · rw [o _ (by omega) (by omega) (by omega), l 25 (by omega)]; exact r8
  · rw [l 25 (by omega)] at h1
    rw [o _ (by omega) (by omega) (by omega), o _ (by omega) (by omega) (by omega), o _ (by omega) (by omega) (by omega), l 26 (by omega), l 27 (by omega), l 28 (by omega)]
    exact r9 x h0 h1
def qAddV (L : LFn) (d : Int) : Int := if ¬ (0 ≤ d ∧ d < 2) then 1 else if L 11 3 = 10 then 2 else 0
section Pf
variable {G : GT} {K : List Value → Mem → Prop} {X : String → Mem → Prop} {M : Mem} {L : LFn}
theorem p_addVehicle (hL : M 1 0 = L) (hw : WFn L) (hz : BZ L) (hH : HI M) {d : Int} (hd : I32 d)
    (k0 : qAddV L d = 0 → ∀ M', (∀ r i, r ≠ 1 → r ≠ 2 → M' r i = M r i) → (∀ i, (i < 3 ∨ 10 < i) → i ≠ 0 → M' 1 i = M 1 i) → M' 1 0 = addV L d → Kept M M' L → K [iv (L 11 3)] M')
    (x1 : qAddV L d = 1 → X "java/lang/IndexOutOfBoundsException" M) (x2 : qAddV L d = 2 → X "java/lang/IllegalStateException" M) : Call G 9 2 zX11_addVehicle [rr G 0 0 0, iv d] M K X := by
  obtain ⟨ht, hm, hv, hbk⟩ := hw
  have hn := hv.1
  unfold qAddV at k0 x1 x2
  refine bX11_addVehicle (sp_requireIndex hd (i32 (by omega)) (fun z => kV_mk ?_) (fun z => ?_))
  · rw [if_neg (fun w => w z)] at k0 x2
    rw [hL]
    refine ⟨i32 (by omega), fun u => ?_, fun u => ?_⟩
    · rw [if_neg (by omega)] at k0
      refine sp_keep hH (by omega) (by omega) (by rw [hL]; exact hz) (fun M1 f1 kp1 => kV_mk ?_)
      have e1 : M1 1 0 = L := (f1.2 0 (Or.inl (by omega)) (by omega)).trans hL
      rw [hL] at kp1
      refine sp_addTo (i := 0) (by omega) (by omega) (by rw [e1]; exact hn.1) (by rw [e1]; exact u) (fun M2 f2 e2 => kI_mk ?_)
      rw [e1] at e2 ⊢
      exact k0 rfl M2 (fun r i r1 r2 => (f2.ne (Or.inl r1)).trans (f1.1 r i r1 r2)) (fun i hi i0 => (f2.ne (Or.inr i0)).trans (f1.2 i hi (by omega))) e2 (kp1.line hH.1.1 f2)
    · rw [if_pos (by omega)] at x2
      exact x2 rfl
  · rw [if_pos z] at x1
    exact x1 rfl
theorem q_addVehicle {n : Int} {H : Int → LFn} (hR : RG (M 8 0 1) L) (hw : WFn L) (hP : Pas M n H) (hwH : ∀ r, 0 ≤ r → r < n → WFn (H r)) {d : Int} (hd : I32 d) (k0 : qAddV L d = 0 → MutM M K n H L (addV L d) (L 11 3)) (k1 : qAddV L d ≠ 0 → AnsM M K (qAddV L d, 0)) : Call G 2 0 zX12_addVehicle [rr G 8 0 0, iv d] M K X := by
  obtain ⟨ht, hm, hv, hbk⟩ := hw
  have hn := hv.1
  unfold qAddV at k0 k1
  refine bX12_addVehicle (m_in hd (i32 (by omega)) (i32 (by omega)) (kI_mk ⟨b2i_i32 _, fun z => ?_, fun z => ?_⟩))
  · rw [if_pos (by have := b2i_0.mp z; omega)] at k1
    exact ansE (by decide) (k1 (by decide))
  · have z' := Classical.byContradiction fun w => z (b2i_0.mpr w)
    rw [if_neg (by omega)] at k0 k1
    rw [hR.2.2.2.2.2.1]
    refine ⟨i32 (by omega), fun u => ?_, fun u => ?_⟩
    · rw [if_neg u] at k0
      refine m_begins (by rw [thr_g]; exact hR) ⟨ht, hm, hv, hbk⟩ (fun M1 f1 s1 => kV_mk ?_)
      have fr1 := fxG (fx7 M 0) f1 (Or.inr rfl)
      have g1 : M1 8 0 1 = M 8 0 1 := (f1 8 0 1 (by omega)).trans (thr_g M 0)
      have hR1 : RG (M1 8 0 1) L := by rw [g1]; exact hR
      rw [hR1.2.2.2.2.2.1]
      refine ⟨by omega, by omega, by omega, by omega, fun M26 e26 => ?_⟩
      have n160 : M26 8 0 1 160 = L 11 3 := by rw [e26, wr_nk (by omega), wr_nk (by omega)]; exact hR1.2.2.2.2.2.1
      rw [n160]
      have f2 : FrX P1 M1 (wr M26 8 0 1 160 (L 11 3 + 1)) := by rw [e26]; exact fx1 (fx1 (fx1 FrX.rf _ _) _ _) _ _
      have e2 : wr M26 8 0 1 160 (L 11 3 + 1) 8 0 1 = upI (upI (upI (M1 8 0 1) (161 + L 11 3) d) (171 + L 11 3) 0) 160 (L 11 3 + 1) := by rw [wr_rv, e26, wr_rv, wr_rv]
      have r2 : RG (wr M26 8 0 1 160 (L 11 3 + 1) 8 0 1) (addV L d) := by rw [e2]; exact RG_addV hR1 ⟨ht, hm, hv, hbk⟩ (by omega)
      generalize wr M26 8 0 1 160 (L 11 3 + 1) = M2 at f2 r2 ⊢
      have e3 : M2 8 0 3 = M1 8 0 3 := f2.row (fun k => by show ¬ (_ = _); omega)
      have z2 : M2 8 0 0 = M1 8 0 0 := f2.row (fun k => by show ¬ (_ = _); omega)
      have z1 : M1 8 0 0 = wr M 8 0 0 7 0 8 0 0 := f1 8 0 0 (by omega)
      have p4 : M2 8 0 4 = M 8 0 4 := (f2.row (fun k => by show ¬ (_ = _); omega)).trans ((f1 8 0 4 (by omega)).trans (wr_nc (by omega)))
      refine m_remembers (hP.keep (by rw [z2, z1, wr_nk (by omega)]) p4) (by rw [e3]; exact s1) ⟨ht, hm, hv, hbk⟩ hwH (fun M3 f3 p3 => kV_mk ?_)
      have g3 : M3 8 0 1 = M2 8 0 1 := f3.g (by omega)
      refine k0 rfl M3 (fxP (fx1M fr1 f2) f3) ?_ (by rw [g3]; exact r2) p3
      rw [f3 8 0 0 7 (by omega), z2, z1, wr_at]
    · rw [if_pos u] at k1
      exact ansE (by decide) (k1 (by decide))
end Pf
