/-! ===== publics that change: addTrip; undo, save, restore of the reference ===== -/
/-- what a change may write in region 8 -/
abbrev PM (c k : Int) : Prop := c = 1 ∨ c = 3 ∨ c = 4 ∨ (c = 0 ∧ (k = 5 ∨ k = 7))
def qAdd (L : LFn) (a b d : Int) : Int := if ¬ (0 ≤ a ∧ a ≤ 11) then 1 else if ¬ (0 ≤ b ∧ b ≤ 11) then 1 else if ¬ tripOK L a b d then 2 else if L 6 4 = 30 then 3 else 0
theorem fxG {M M1 M2 : Mem} {c : Int} (h : FrX PM M M1) (h2 : FrG c M1 M2) (hc : c = 1 ∨ c = 3) : FrX PM M M2 := fun a b c' k q => by
  rw [h2 a b c' (fun z => q ⟨z.1, z.2.1, by rcases hc with w | w; exact Or.inl (z.2.2.trans w); exact Or.inr (Or.inl (z.2.2.trans w))⟩)]
  exact h a b c' k q
theorem fx1M {M M1 M2 : Mem} (h : FrX PM M M1) (h2 : FrX P1 M1 M2) : FrX PM M M2 := h.tr (h2.mono (fun c k hp => Or.inl hp))
theorem fxP {M M1 M2 : Mem} (h : FrX PM M M1) (h2 : FrP M1 M2) : FrX PM M M2 := fun a b c k q => by
  rw [h2 a b c k (fun z => q ⟨z.1, z.2.1, by rcases z.2.2 with w | w; exact Or.inr (Or.inr (Or.inl w)); exact Or.inr (Or.inr (Or.inr ⟨w.1, Or.inl w.2⟩))⟩)]
  exact h a b c k q
theorem fx7 (M : Mem) (x : Int) : FrX PM M (wr M 8 0 0 7 x) := FrX.wr FrX.rf (show PM 0 7 from Or.inr (Or.inr (Or.inr ⟨rfl, Or.inr rfl⟩))) x
theorem Pas.keep {M M' : Mem} {n : Int} {H : Int → LFn} (h : Pas M n H) (e5 : M' 8 0 0 5 = M 8 0 0 5) (e4 : M' 8 0 4 = M 8 0 4) : Pas M' n H := ⟨e5.trans h.1, h.2.1, fun r r0 r1 => by rw [e4]; exact h.2.2 r r0 r1⟩
/-- the reference's answer to a change: a, the line now L' -/
def MutM (M : Mem) (K : List Value → Mem → Prop) (n : Int) (H : Int → LFn) (L L' : LFn) (a : Int) : Prop := ∀ M', FrX PM M M' → M' 8 0 0 7 = 0 → RG (M' 8 0 1) L' → Pas M' (pushN n) (pushH n H L) → K [iv a] M'
section Pd
variable {G : GT} {K : List Value → Mem → Prop} {X : String → Mem → Prop} {M : Mem} {L : LFn}
theorem m_tripStops (hR : RG (M 8 0 1) L) (ht : WFt L) (hm : WFm L) {a b d : Int} (ha : I32 a) (hb : I32 b) (hd : I32 d) (k : K [iv (qAdd L a b d)] M) : Call G 2 0 zX12_tripStops [rr G 8 0 0, iv a, iv b, iv d] M K X := by
  have hn := ht.1
  unfold qAdd at k
  refine bX12_tripStops (m_isStop ha (kI_mk ⟨b2i_i32 _, fun z => ?_, fun z => m_isStop hb (kI_mk ⟨b2i_i32 _, fun y => ⟨ha, hb, fun x => ?_, fun x => ?_⟩, fun y => ?_⟩)⟩))
  · rw [if_pos (b2i_0.mp z)] at k; exact k
  · have z' := Classical.byContradiction fun u => z (b2i_0.mpr u)
    have y' := Classical.byContradiction fun u => y (b2i_0.mpr u)
    rw [if_neg (fun u => u z'), if_neg (fun u => u y'), if_pos (fun u => u.1 x)] at k
    exact k
  · have z' := Classical.byContradiction fun u => z (b2i_0.mpr u)
    have y' := Classical.byContradiction fun u => y (b2i_0.mpr u)
    rw [if_neg (fun u => u z'), if_neg (fun u => u y')] at k
    have h1 := hm.2.1 a (by omega) (by omega)
    have h2 := hm.2.1 b (by omega) (by omega)
    rw [hR.2.1 a (by omega) (by omega), hR.2.1 b (by omega) (by omega)]
    refine ⟨by omega, by omega, i32 (by omega), fun u => ?_, fun u => ⟨by omega, by omega, i32 (by omega), fun r => ?_, fun r => m_in hd (i32 (by omega)) (i32 (by omega)) (kI_mk ⟨b2i_i32 _, fun q => ?_, fun q => ?_⟩)⟩⟩
    · rw [if_pos (fun w => w.2.1 u)] at k; exact k
    · rw [if_pos (fun w => w.2.2.1 r)] at k; exact k
    · have q' := Classical.byContradiction fun w => q (b2i_0.mpr w)
      rw [if_neg (fun w => w ⟨x, u, r, q'⟩)] at k
      rw [hR.2.2.2.1]
      refine ⟨i32 (by omega), fun w => ?_, fun w => ?_⟩
      · rw [if_neg w] at k; exact k
      · rw [if_pos w] at k; exact k
    · rw [if_pos (fun w => (b2i_0.mp q) w.2.2.2)] at k; exact k
  · have z' := Classical.byContradiction fun u => z (b2i_0.mpr u)
    rw [if_neg (fun u => u z'), if_pos (b2i_0.mp y)] at k
    exact k
theorem q_addTrip {n : Int} {H : Int → LFn} (hR : RG (M 8 0 1) L) (hw : WFn L) (hP : Pas M n H) (hwH : ∀ r, 0 ≤ r → r < n → WFn (H r)) {a b d : Int} (ha : I32 a) (hb : I32 b) (hd : I32 d) (k0 : qAdd L a b d = 0 → MutM M K n H L (addA L a b d) (L 6 4)) (k1 : qAdd L a b d ≠ 0 → AnsM M K (qAdd L a b d, 0)) : Call G 3 0 zX12_addTrip [rr G 8 0 0, iv a, iv b, iv d] M K X := by
  obtain ⟨ht, hm, hv, hbk⟩ := hw
  have hn := ht.1
  have q4 : 0 ≤ qAdd L a b d ∧ qAdd L a b d ≤ 3 := by
    unfold qAdd
    split
    · omega
    · split
      · omega
      · split
        · omega
        · split <;> omega
  refine bX12_addTrip (m_tripStops hR ht hm ha hb hd (kI_mk ⟨i32 (by omega), fun z => ?_, fun z => ?_⟩))
  · have e0 : qAdd L a b d = 0 := by omega
    have l30 : L 6 4 < 30 := by
      unfold qAdd at e0
      split at e0
      · omega
      · split at e0
        · omega
        · split at e0
          · omega
          · split at e0 <;> omega
    replace k0 := k0 e0
    rw [e0]
    refine m_begins (by rw [thr_g]; exact hR) ⟨ht, hm, hv, hbk⟩ (fun M1 f1 s1 => kV_mk ?_)
    have fr1 := fxG (fx7 M 0) f1 (Or.inr rfl)
    have g1 : M1 8 0 1 = M 8 0 1 := (f1 8 0 1 (by omega)).trans (thr_g M 0)
    refine m_tripComes (by rw [g1]; exact hR) hn.1 l30 hv hbk (fun M2 f2 r2 => kV_mk ?_)
    have e3 : M2 8 0 3 = M1 8 0 3 := f2.row (fun k => by show ¬ (_ = _); omega)
    have z2 : M2 8 0 0 = M1 8 0 0 := f2.row (fun k => by show ¬ (_ = _); omega)
    have z1 : M1 8 0 0 = wr M 8 0 0 7 0 8 0 0 := f1 8 0 0 (by omega)
    have p4 : M2 8 0 4 = M 8 0 4 := (f2.row (fun k => by show ¬ (_ = _); omega)).trans ((f1 8 0 4 (by omega)).trans (wr_nc (by omega)))
    refine m_remembers (hP.keep (by rw [z2, z1, wr_nk (by omega)]) p4) (by rw [e3]; exact s1) ⟨ht, hm, hv, hbk⟩ hwH (fun M3 f3 p3 => kV_mk ?_)
    have g3 : M3 8 0 1 = M2 8 0 1 := f3.g (by omega)
    have e37 : M3 8 0 1 37 = L 6 4 + 1 := by
      rw [g3, r2.2.2.2.1]
      unfold addA
      rw [up1_at]
    rw [e37, show L 6 4 + 1 - 1 = L 6 4 by omega]
    refine k0 M3 (fxP (fx1M fr1 f2) f3) ?_ (by rw [g3]; exact r2) p3
    rw [f3 8 0 0 7 (by omega), z2, z1, wr_at]
  · exact ansE (by omega) (k1 (by omega))
theorem p_addTrip (hL : M 1 0 = L) (hw : WFn L) (hz : BZ L) (hH : HI M) {a b d : Int} (ha : I32 a) (hb : I32 b) (hd : I32 d)
    (k0 : qAdd L a b d = 0 → ∀ M', (∀ r i, r ≠ 1 → r ≠ 2 → M' r i = M r i) → (∀ i, (i < 3 ∨ 10 < i) → i ≠ 0 → M' 1 i = M 1 i) → M' 1 0 = addA L a b d → Kept M M' L → K [iv (L 6 4)] M')
    (x1 : qAdd L a b d = 1 → X "java/lang/IndexOutOfBoundsException" M) (x2 : qAdd L a b d = 2 → X "java/lang/IllegalArgumentException" M) (x3 : qAdd L a b d = 3 → X "java/lang/IllegalStateException" M) : Call G 9 3 zX11_addTrip [rr G 0 0 0, iv a, iv b, iv d] M K X := by
  obtain ⟨ht, hm, hv, hbk⟩ := hw
  have hn := ht.1
  unfold qAdd at k0 x1 x2 x3
  refine bX11_addTrip (sp_requireIndex ha (i32 (by omega)) (fun z => kV_mk (sp_requireIndex hb (i32 (by omega)) (fun y => kV_mk ?_) (fun y => ?_))) (fun z => ?_))
  · rw [if_neg (by omega), if_neg (by omega)] at k0 x2 x3
    refine sp_isTripAllowed (by omega) (by omega) (by rw [hL]; exact hm) z.1 (by omega) y.1 (by omega) hd (kI_mk ?_)
    rw [hL]
    refine ⟨b2i_i32 _, fun w => ⟨i32 (by omega), fun u => ?_, fun u => ?_⟩, fun w => ?_⟩
    · have w' := Classical.byContradiction fun q => w (b2i_0.mpr q)
      rw [if_neg (fun q => q w'), if_neg (by omega)] at k0
      refine sp_keep hH (by omega) (by omega) (by rw [hL]; exact hz) (fun M1 f1 kp1 => kV_mk ?_)
      have e1 : M1 1 0 = L := (f1.2 0 (Or.inl (by omega)) (by omega)).trans hL
      rw [hL] at kp1
      have := @sp_addActive G (kI (fun x27 M25 => K [iv x27] M25)) noX M1 0 (by omega) (by omega) (by rw [e1]; exact hn.1) (by rw [e1]; exact u) a b d (fun M2 f2 e2 => kI_mk ?_)
      · exact this
      · rw [e1] at e2 ⊢
        refine k0 rfl M2 (fun r i r1 r2 => (f2.ne (Or.inl r1)).trans (f1.1 r i r1 r2)) (fun i hi i0 => (f2.ne (Or.inr i0)).trans (f1.2 i hi (by omega))) e2 ?_
        obtain ⟨q1, q2, q3, q4⟩ := kp1
        have r2 : M2 2 = M1 2 := funext fun b => f2.ne (Or.inl (by decide))
        have kk : ∀ r, 0 ≤ r → r < 8 → kp M2 r = kp M1 r := fun r r0 r1 => by
          unfold kp
          rw [r2]
          have := q1.2.1 r r0 r1
          exact f2.ne (Or.inr (by omega))
        refine ⟨⟨by rw [r2]; exact q1.1, by rw [r2]; exact q1.2.1, by rw [r2]; exact q1.2.2⟩, by rw [r2]; exact q2, ?_, ?_⟩
        · rcases q3 with ⟨c1, c2, c3⟩ | ⟨c1, c2, c3⟩
          · exact Or.inl ⟨c1, by rw [r2]; exact c2, fun r r0 r1 => (kk r r0 (by omega)).trans (c3 r r0 r1)⟩
          · exact Or.inr ⟨c1, by rw [r2]; exact c2, fun r r0 r1 => (kk r r0 (by omega)).trans (c3 r r0 r1)⟩
        · have hsz := hH.1
          rw [r2, kk _ (by rcases q3 with c | c <;> omega) (by rcases q3 with c | c <;> omega)]
          exact q4
    · have w' := Classical.byContradiction fun q => w (b2i_0.mpr q)
      rw [if_neg (fun q => q w'), if_pos (by omega)] at x3
      exact x3 rfl
    · rw [if_pos (b2i_0.mp w)] at x2
      exact x2 rfl
  · rw [if_neg (by omega), if_pos (by omega)] at x1
    exact x1 rfl
  · rw [if_pos (by omega)] at x1
    exact x1 rfl
end Pd
