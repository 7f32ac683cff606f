/-! ===== cancel (the class) ===== -/
theorem posOf_same {L N : LFn} {t v : Int} (h13 : L 13 = N 13) (h : L (15 + v) = N (15 + v)) : posOf L t v = posOf N t v := by
  unfold posOf
  rw [h13, h]
theorem vehOf_same {L N : LFn} {t : Int} (h11 : L 11 = N 11) (h13 : L 13 = N 13) (h : ∀ v, 0 ≤ v → L (15 + v) = N (15 + v)) : vehOf L t = vehOf N t := by
  unfold vehOf
  rw [h11]
  exact srch_congr (fun x x0 _ => by rw [posOf_same h13 (h x x0)])
theorem outF_10 {L : LFn} {t c : Int} : outF (up1 L 10 t c) t = up1 (outF L t) 10 t c := by
  have hv : vehOf (up1 L 10 t c) t = vehOf L t := vehOf_same (up1_nc (by omega)) (up1_nc (by omega)) (fun v v0 => up1_nc (by omega))
  unfold outF
  rw [hv]
  by_cases h : vehOf L t = -1
  · rw [if_pos h, if_pos h]
  · have hb := vehOf_at h
    rw [if_neg h, if_neg h, posOf_same (up1_nc (by omega)) (up1_nc (by omega))]
    funext x
    by_cases h1 : x = 13
    · subst h1
      rw [up1_nc (c := 10) (c' := 13) (by omega)]
      unfold up1
      rw [if_pos rfl, if_pos rfl, if_neg (by omega)]
    · rw [up1_nc h1]
      unfold up1
      by_cases h2 : x = 10
      · rw [if_pos h2, if_pos h2, if_neg (by omega)]
      · rw [if_neg h2, if_neg h2, if_neg h1]
def qCan (L : LFn) (t c : Int) : Int := if ¬ (0 ≤ t ∧ t < L 6 4) then 1 else if c = 0 ∧ trnE L t = 0 then 2 else 0
def canL (L : LFn) (t c : Int) : LFn := if c = 0 then up1 L 10 t c else up1 (outF L t) 10 t c
section Pj
variable {G : GT} {K : List Value → Mem → Prop} {X : String → Mem → Prop} {M : Mem} {L : LFn}
theorem p_cancel (hL : M 1 0 = L) (hw : WFn L) (hz : BZ L) (hH : HI M) {t c : Int} (hti : I32 t) (hc : c = 0 ∨ c = 1)
    (k0 : qCan L t c = 0 → ∀ M', (∀ r i, r ≠ 1 → r ≠ 2 → M' r i = M r i) → (∀ i, (i < 3 ∨ 10 < i) → i ≠ 0 → M' 1 i = M 1 i) → M' 1 0 = canL L t c → Kept M M' L → K [iv (L 10 t)] M')
    (x1 : qCan L t c = 1 → X "java/lang/IndexOutOfBoundsException" M) (x2 : qCan L t c = 2 → X "java/lang/IllegalStateException" M) : Call G 9 2 zX11_cancel [rr G 0 0 0, iv t, iv c] M K X := by
  obtain ⟨ht, hm, hv, hbk⟩ := hw
  have nt := ht.1
  have nv := hv.1
  unfold qCan at k0 x1 x2
  refine bX11_cancel ?_
  rw [hL]
  refine sp_requireIndex hti (i32 (by omega)) (fun z => kV_mk ?_) (fun z => ?_)
  · rw [if_neg (fun w => w z)] at k0 x2
    have h7 := ht.2 t z.1 z.2
    rw [hL]
    refine ⟨i32 (by omega), fun y => ⟨z.1, by omega, sp_keep hH (by omega) (by omega) (by rw [hL]; exact hz) (fun M1 f1 kp1 => kV_mk ⟨nar01 (by omega), ?_⟩)⟩, fun y => ?_⟩
    · rw [if_neg (fun w => y w.1)] at k0
      have e1 : M1 1 0 = L := (f1.2 0 (Or.inl (by omega)) (by omega)).trans hL
      rw [hL] at kp1
      have f2 : FrL 0 M1 (wr M1 1 0 10 t c) := FrL.rf.wr _ _ _
      have e2 : wr M1 1 0 10 t c 1 0 = up1 L 10 t c := by rw [wr_line, e1]
      have ht2 : WFt (up1 L 10 t c) := by
        refine ⟨by rw [up1_nc (by omega)]; exact nt, fun u u0 u1 => ?_⟩
        rw [up1_nc (c' := 6) (by omega)] at u1
        have := ht.2 u u0 u1
        rw [up1_nc (c' := 7) (by omega), up1_nc (c' := 8) (by omega), up1_nc (c' := 9) (by omega), up1_any]
        refine ⟨this.1, this.2.1, this.2.2.1, this.2.2.2.1, this.2.2.2.2.1, this.2.2.2.2.2.1, this.2.2.2.2.2.2.1, ?_⟩
        split <;> omega
      have hv2 : WFv (up1 L 10 t c) := by
        refine ⟨by rw [up1_nc (by omega)]; exact nv, fun u u0 u1 => ?_⟩
        rw [up1_nc (c' := 11) (by omega)] at u1
        rw [up1_nc (c' := 12) (by omega), up1_nc (c' := 13) (by omega), up1_nc (c' := 15 + u) (by omega), up1_nc (c' := 6) (by omega)]
        exact hv.2 u u0 u1
      refine sp_takeOutFrom (i := 0) (by omega) (by omega) (by rw [e2]; exact hv2) (by rw [e2]; exact ht2) hti (fun M2 f3 e3 => kV_mk ⟨by omega, ?_⟩)
      rw [e2, outF_10] at e3
      exact k0 rfl M2 (fun r i r1 r2 => (f3.ne (Or.inl r1)).trans ((f2.ne (Or.inl r1)).trans (f1.1 r i r1 r2))) (fun i hi i0 => (f3.ne (Or.inr i0)).trans ((f2.ne (Or.inr i0)).trans (f1.2 i hi (by omega)))) (by unfold canL; rw [if_neg y]; exact e3) (kp1.line hH.1.1 (f2.tr f3))
    · have h01 : trnE L t = 0 ∨ trnE L t = 1 := b2i_01 _
      refine sp_canTurnAtEnds (by omega) (by omega) (by rw [hL]; exact hm) (by rw [hL]; exact ht) z.1 (by rw [hL]; exact z.2) (kI_mk ?_)
      rw [hL]
      refine ⟨i32 (by omega), fun w => ⟨z.1, by omega, sp_keep hH (by omega) (by omega) (by rw [hL]; exact hz) (fun M1 f1 kp1 => kV_mk ⟨nar01 (by omega), by omega, ?_⟩)⟩, fun w => ?_⟩
      · rw [if_neg (fun u => w u.2)] at k0
        have e1 : M1 1 0 = L := (f1.2 0 (Or.inl (by omega)) (by omega)).trans hL
        rw [hL] at kp1
        have f2 : FrL 0 M1 (wr M1 1 0 10 t c) := FrL.rf.wr _ _ _
        exact k0 rfl _ (fun r i r1 r2 => (f2.ne (Or.inl r1)).trans (f1.1 r i r1 r2)) (fun i hi i0 => (f2.ne (Or.inr i0)).trans (f1.2 i hi (by omega))) (by rw [wr_line, e1]; unfold canL; rw [if_pos y]) (kp1.line hH.1.1 f2)
      · rw [if_pos ⟨y, w⟩] at x2
        exact x2 rfl
  · rw [if_pos z] at x1
    exact x1 rfl
end Pj
