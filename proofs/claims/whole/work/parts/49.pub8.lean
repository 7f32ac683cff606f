/-! ===== block ===== -/
theorem RG_addK {g : Int → Int} {L : LFn} {s a b : Int} (hR : RG g L) (hw : WFn L) (hn1 : L 25 3 < 6) : RG (upI (upI (upI (upI g (482 + 3 * L 25 3) s) (482 + 3 * L 25 3 + 1) a) (482 + 3 * L 25 3 + 2) b) 481 (L 25 3 + 1)) (addK L s a b) := by
  obtain ⟨ht, hm, hv, hb⟩ := hw
  have nt := ht.1
  have nv := hv.1
  have nb := hb.1
  obtain ⟨r1, r2, r3, r4, r5, r6, r7, r8, r9⟩ := hR
  have o : ∀ x, (x < 481 ∨ (481 < x ∧ x < 482 + 3 * L 25 3)) → upI (upI (upI (upI g (482 + 3 * L 25 3) s) (482 + 3 * L 25 3 + 1) a) (482 + 3 * L 25 3 + 2) b) 481 (L 25 3 + 1) x = g x := fun x h => by rw [upI_ne (by omega), upI_ne (by omega), upI_ne (by omega), upI_ne (by omega)]
  have l : ∀ c, c < 25 → addK L s a b c = L c := fun c hc => by unfold addK; rw [up1_nc (by omega), up1_nc (by omega), up1_nc (by omega), up1_nc (by omega)]
  have l25 : addK L s a b 25 3 = L 25 3 + 1 := by unfold addK; rw [up1_at]
  refine ⟨fun k h0 h1 => ?_, fun s h0 h1 => ?_, ⟨?_, ?_, ?_⟩, ?_, fun u h0 h1 => ?_, ?_, fun w w0 w1 => ?_, ?_, fun x h0 h1 => ?_⟩
  · rw [o _ (by omega), o _ (by omega), l 2 (by omega), l 3 (by omega)]; exact r1 k h0 h1
  · rw [o _ (by omega), l 4 (by omega)]; exact r2 s h0 h1
  · rw [o _ (by omega), l 5 (by omega)]; exact r3.1
  · rw [o _ (by omega), l 5 (by omega)]; exact r3.2.1
  · rw [o _ (by omega), l 5 (by omega)]; exact r3.2.2
  · rw [o _ (by omega), l 6 (by omega)]; exact r4
  · rw [l 6 (by omega)] at h1
    rw [o _ (by omega), o _ (by omega), o _ (by omega), o _ (by omega), l 7 (by omega), l 8 (by omega), l 9 (by omega), l 10 (by omega)]
    exact r5 u h0 h1
  · rw [o _ (by omega), l 11 (by omega)]; exact r6
  · rw [l 11 (by omega)] at w1
    have hl := (hv.2 w w0 w1).2.2
    rw [o _ (by omega), o _ (by omega), l 12 (by omega), l 13 (by omega), l (15 + w) (by omega)]
    exact ⟨(r7 w w0 w1).1, (r7 w w0 w1).2.1, fun p p0 p1 => by rw [o _ (by omega)]; exact (r7 w w0 w1).2.2 p p0 p1⟩
  · rw [l25, upI_at]
  · rw [l25] at h1
    by_cases hx : x = L 25 3
    · unfold addK
      rw [hx]
      refine ⟨?_, ?_, ?_⟩
      · rw [upI_ne (by omega), upI_ne (by omega), upI_ne (by omega), upI_at, up1_nc (by omega), up1_nc (by omega), up1_nc (by omega), up1_at]
      · rw [upI_ne (by omega), upI_ne (by omega), upI_at, up1_nc (by omega), up1_nc (by omega), up1_at]
      · rw [upI_ne (by omega), upI_at, up1_nc (by omega), up1_at]
    · have e26 : addK L s a b 26 x = L 26 x := by unfold addK; rw [up1_nc (by omega), up1_nc (by omega), up1_nc (by omega), up1_nk hx]
      have e27 : addK L s a b 27 x = L 27 x := by unfold addK; rw [up1_nc (by omega), up1_nc (by omega), up1_nk hx, up1_nc (by omega)]
      have e28 : addK L s a b 28 x = L 28 x := by unfold addK; rw [up1_nc (by omega), up1_nk hx, up1_nc (by omega), up1_nc (by omega)]
      rw [o _ (by omega), o _ (by omega), o _ (by omega), e26, e27, e28]
      exact r9 x h0 (by omega)
def qBlk (L : LFn) (s a b : Int) : Int := if ¬ (0 ≤ s ∧ s < 11) then 1 else if ¬ (0 ≤ a ∧ a ≤ 2000) then 2 else if ¬ (a ≤ b ∧ b ≤ 2000) then 2 else if L 25 3 = 6 then 3 else 0
section Pi
variable {G : GT} {K : List Value → Mem → Prop} {X : String → Mem → Prop} {M : Mem} {L : LFn}
theorem p_block (hL : M 1 0 = L) (hw : WFn L) (hz : BZ L) (hH : HI M) {s a b : Int} (hs : I32 s) (ha : I32 a) (hb : I32 b)
    (k0 : qBlk L s a b = 0 → ∀ M', (∀ r i, r ≠ 1 → r ≠ 2 → M' r i = M r i) → (∀ i, (i < 3 ∨ 10 < i) → i ≠ 0 → M' 1 i = M 1 i) → M' 1 0 = addK L s a b → Kept M M' L → K [iv (L 25 3)] M')
    (x1 : qBlk L s a b = 1 → X "java/lang/IndexOutOfBoundsException" M) (x2 : qBlk L s a b = 2 → X "java/lang/IllegalArgumentException" M) (x3 : qBlk L s a b = 3 → X "java/lang/IllegalStateException" M) : Call G 9 2 zX11_block [rr G 0 0 0, iv s, iv a, iv b] M K X := by
  obtain ⟨ht, hm, hv, hbk⟩ := hw
  have hn := hbk.1
  unfold qBlk at k0 x1 x2 x3
  refine bX11_block (sp_requireIndex hs (i32 (by omega)) (fun z => kV_mk (sp_isFromTo ha (i32 (by omega)) (i32 (by omega)) (kI_mk ⟨b2i_i32 _, fun y => ?_, fun y => sp_isFromTo hb ha (i32 (by omega)) (kI_mk ⟨b2i_i32 _, fun w => ?_, fun w => ?_⟩)⟩))) (fun z => ?_))
  · rw [if_neg (fun u => u z), if_pos (b2i_0.mp y)] at x2
    exact x2 rfl
  · have y' := Classical.byContradiction fun u => y (b2i_0.mpr u)
    have w' := Classical.byContradiction fun u => w (b2i_0.mpr u)
    rw [if_neg (fun u => u z), if_neg (fun u => u y'), if_neg (fun u => u w')] at k0 x3
    rw [hL]
    refine ⟨i32 (by omega), fun u => sp_keep hH (by omega) (by omega) (by rw [hL]; exact hz) (fun M1 f1 kp1 => kV_mk ?_), fun u => ?_⟩
    · rw [if_neg (by omega)] at k0
      have e1 : M1 1 0 = L := (f1.2 0 (Or.inl (by omega)) (by omega)).trans hL
      rw [hL] at kp1
      refine sp_addBlock (i := 0) (by omega) (by omega) (by rw [e1]; exact hn.1) (by rw [e1]; exact u) (fun M2 f2 e2 => kI_mk ?_)
      rw [e1] at e2 ⊢
      exact k0 rfl M2 (fun r i r1 r2 => (f2.ne (Or.inl r1)).trans (f1.1 r i r1 r2)) (fun i hi i0 => (f2.ne (Or.inr i0)).trans (f1.2 i hi (by omega))) e2 (kp1.line hH.1.1 f2)
    · rw [if_pos (by omega)] at x3
      exact x3 rfl
  · have y' := Classical.byContradiction fun u => y (b2i_0.mpr u)
    rw [if_neg (fun u => u z), if_neg (fun u => u y'), if_pos (b2i_0.mp w)] at x2
    exact x2 rfl
  · rw [if_pos z] at x1
    exact x1 rfl
theorem q_block {n : Int} {H : Int → LFn} (hR : RG (M 8 0 1) L) (hw : WFn L) (hP : Pas M n H) (hwH : ∀ r, 0 ≤ r → r < n → WFn (H r)) {s a b : Int} (hs : I32 s) (ha : I32 a) (hb : I32 b) (k0 : qBlk L s a b = 0 → MutM M K n H L (addK L s a b) (L 25 3)) (k1 : qBlk L s a b ≠ 0 → AnsM M K (qBlk L s a b, 0)) : Call G 2 0 zX12_block [rr G 8 0 0, iv s, iv a, iv b] M K X := by
  have hw' := hw
  obtain ⟨ht, hm, hv, hbk⟩ := hw
  have hn := hbk.1
  unfold qBlk at k0 k1
  refine bX12_block (m_isSection hs (kI_mk ⟨b2i_i32 _, fun z => ?_, fun z => m_in ha (i32 (by omega)) (i32 (by omega)) (kI_mk ⟨b2i_i32 _, fun y => ?_, fun y => m_in hb ha (i32 (by omega)) (kI_mk ⟨b2i_i32 _, fun w => ?_, fun w => ?_⟩)⟩)⟩))
  · rw [if_pos (by have := b2i_0.mp z; omega)] at k1
    exact ansE (by decide) (k1 (by decide))
  · have z' := Classical.byContradiction fun u => z (b2i_0.mpr u)
    rw [if_neg (by omega), if_pos (b2i_0.mp y)] at k1
    exact ansE (by decide) (k1 (by decide))
  · have z' := Classical.byContradiction fun u => z (b2i_0.mpr u)
    have y' := Classical.byContradiction fun u => y (b2i_0.mpr u)
    rw [if_neg (by omega), if_neg (fun u => u y'), if_pos (b2i_0.mp w)] at k1
    exact ansE (by decide) (k1 (by decide))
  · have z' := Classical.byContradiction fun u => z (b2i_0.mpr u)
    have y' := Classical.byContradiction fun u => y (b2i_0.mpr u)
    have w' := Classical.byContradiction fun u => w (b2i_0.mpr u)
    rw [if_neg (by omega), if_neg (fun u => u y'), if_neg (fun u => u w')] at k0 k1
    rw [hR.2.2.2.2.2.2.2.1]
    refine ⟨i32 (by omega), fun u => ?_, fun u => ?_⟩
    · rw [if_neg u] at k0
      refine m_begins (by rw [thr_g]; exact hR) hw' (fun M1 f1 s1 => kV_mk ?_)
      have fr1 := fxG (fx7 M 0) f1 (Or.inr rfl)
      have g1 : M1 8 0 1 = M 8 0 1 := (f1 8 0 1 (by omega)).trans (thr_g M 0)
      have hR1 : RG (M1 8 0 1) L := by rw [g1]; exact hR
      rw [hR1.2.2.2.2.2.2.2.1]
      refine ⟨by omega, by omega, by omega, by omega, fun M46 e46 => ⟨by omega, by omega, fun M2 e52 => ?_⟩⟩
      have n481 : wr M46 8 0 1 (482 + 3 * L 25 3 + 2) b 8 0 1 481 = L 25 3 := by rw [e46, wr_nk (by omega), wr_nk (by omega), wr_nk (by omega)]; exact hR1.2.2.2.2.2.2.2.1
      rw [n481] at e52
      have f2 : FrX P1 M1 M2 := by rw [e52, e46]; exact fx1 (fx1 (fx1 (fx1 FrX.rf _ _) _ _) _ _) _ _
      have e2 : M2 8 0 1 = upI (upI (upI (upI (M1 8 0 1) (482 + 3 * L 25 3) s) (482 + 3 * L 25 3 + 1) a) (482 + 3 * L 25 3 + 2) b) 481 (L 25 3 + 1) := by rw [e52, wr_rv, wr_rv, e46, wr_rv, wr_rv]
      have r2 : RG (M2 8 0 1) (addK L s a b) := by rw [e2]; exact RG_addK hR1 hw' (by omega)
      have e3 : M2 8 0 3 = M1 8 0 3 := f2.row (fun k => by show ¬ (_ = _); omega)
      have z2 : M2 8 0 0 = M1 8 0 0 := f2.row (fun k => by show ¬ (_ = _); omega)
      have z1 : M1 8 0 0 = wr M 8 0 0 7 0 8 0 0 := f1 8 0 0 (by omega)
      have p4 : M2 8 0 4 = M 8 0 4 := (f2.row (fun k => by show ¬ (_ = _); omega)).trans ((f1 8 0 4 (by omega)).trans (wr_nc (by omega)))
      refine m_remembers (hP.keep (by rw [z2, z1, wr_nk (by omega)]) p4) (by rw [e3]; exact s1) hw' hwH (fun M3 f3 p3 => kV_mk ?_)
      have g3 : M3 8 0 1 = M2 8 0 1 := f3.g (by omega)
      have n3 : M3 8 0 1 481 = L 25 3 + 1 := by rw [g3, e2, upI_at]
      rw [n3, show L 25 3 + 1 - 1 = L 25 3 by omega]
      refine k0 rfl M3 (fxP (fx1M fr1 f2) f3) ?_ (by rw [g3]; exact r2) p3
      rw [f3 8 0 0 7 (by omega), z2, z1, wr_at]
    · rw [if_pos u] at k1
      exact ansE (by decide) (k1 (by decide))
end Pi
