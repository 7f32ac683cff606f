/-! ===== publics that change: take, turnShort, startLate, unblock ===== -/
/-- each trip stands in one duty only, once -/
def Uni (L : LFn) : Prop := ∀ v w p q, 0 ≤ v → v < L 11 3 → 0 ≤ w → w < L 11 3 → 0 ≤ p → p < L 13 v → 0 ≤ q → q < L 13 w → L (15 + v) p = L (15 + w) q → v = w ∧ p = q
/-- after a change of the class: the line L', kept is L -/
def ChP (M M' : Mem) (L L' : LFn) : Prop := (∀ r i, (r < 1 ∨ 6 < r) → M' r i = M r i) ∧ M' 1 2 = M 1 2 ∧ LEq (M' 1 0) L' ∧ Kept M M' L
/-- after a change refused by the class -/
def SD (M M' : Mem) : Prop := (∀ r i, (r < 1 ∨ r = 2 ∨ 6 < r) → M' r i = M r i) ∧ ∀ i, i ≠ 1 → i ≠ 11 → M' 1 i = M 1 i
theorem SD.rf {M : Mem} : SD M M := ⟨fun _ _ _ => rfl, fun _ _ _ => rfl⟩
def ChgP (M : Mem) (K : List Value → Mem → Prop) (X : String → Mem → Prop) (L : LFn) (c : Int) (L' : LFn) (a : Int) (e1 e2 e3 : String) : Prop :=
  (c = 0 → ∀ M', ChP M M' L L' → K [iv a] M') ∧ ∀ M', SD M M' → (c = 1 → X e1 M') ∧ (c = 2 → X e2 M') ∧ (c = 3 → X e3 M')
section Cg
variable {M : Mem} {K : List Value → Mem → Prop} {X : String → Mem → Prop} {L L' : LFn} {a : Int} {e1 e2 e3 : String}
theorem ChgP.k1 (h : ChgP M K X L 1 L' a e1 e2 e3) : X e1 M := (h.2 M SD.rf).1 rfl
theorem ChgP.k2 (h : ChgP M K X L 2 L' a e1 e2 e3) : X e2 M := (h.2 M SD.rf).2.1 rfl
theorem ChgP.k3 (h : ChgP M K X L 3 L' a e1 e2 e3) : X e3 M := (h.2 M SD.rf).2.2 rfl
/-- kept, then the line changed -/
theorem ChgP.k0 (h : ChgP M K X L 0 L' a e1 e2 e3) (hH : HI M) {M1 M2 : Mem} (f1 : FrH 3 M M1) (kp1 : Kept M M1 L) (f2 : FrL 0 M1 M2) (e : M2 1 0 = L') : K [iv a] M2 :=
  h.1 rfl M2 ⟨fun r i hr => (f2.ne (Or.inl (by omega))).trans (f1.1 r i (by omega) (by omega)), (f2.ne (Or.inr (by decide))).trans (f1.2 2 (Or.inl (by decide)) (by decide)), by rw [e]; exact LEq.refl _, kp1.line hH.1.1 f2⟩
end Cg
/-- what a change of the reference may write -/
abbrev PM2 (c k : Int) : Prop := PM c k ∨ PZ c k
abbrev PF2 (c k : Int) : Prop := c = 1 ∨ c = 3 ∨ PZ c k
def ChgM (M : Mem) (K : List Value → Mem → Prop) (n : Int) (H : Int → LFn) (L : LFn) (c : Int) (L' : LFn) (a : Int) : Prop :=
  ∀ M', M' 8 0 0 7 = c → (c = 0 → FrX PM2 M M' → RG (M' 8 0 1) L' → Pas M' (pushN n) (pushH n H L) → K [iv a] M') ∧ (c ≠ 0 → FrX PF2 M M' → RG (M' 8 0 1) L → K [iv 0] M')
section Cm
variable {M : Mem} {K : List Value → Mem → Prop} {L L' : LFn} {a n c : Int} {H : Int → LFn}
theorem ChgM.kE (h : ChgM M K n H L c L' a) (hc : c ≠ 0) (hR : RG (M 8 0 1) L) : K [iv 0] (wr M 8 0 0 7 c) :=
  (h _ (wr_at _ _ _ _ _ _)).2 hc (FrX.wr FrX.rf (show PF2 0 7 from Or.inr (Or.inr (Or.inr ⟨rfl, Or.inl rfl⟩))) c) (by rw [thr_g]; exact hR)
theorem ChgM.k0 (h : ChgM M K n H L 0 L' a) {M' : Mem} (z : M' 8 0 0 7 = 0) (f : FrX PM M M') (r : RG (M' 8 0 1) L') (p : Pas M' (pushN n) (pushH n H L)) : K [iv a] M' :=
  (h M' z).1 rfl (f.mono (fun c k q => Or.inl q)) r p
end Cm
section Dn
variable {G : GT} {M : Mem} {L L' : LFn} {n : Int} {H : Int → LFn}
/-- the change is done: it is remembered -/
theorem m_done (hP : Pas M n H) (hw : WFn L) (hwH : ∀ r, 0 ≤ r → r < n → WFn (H r)) {M1 M2 : Mem} (f1 : FrG 3 (wr M 8 0 0 7 0) M1) (s1 : RG (M1 8 0 3) L) (f2 : FrX P1 M1 M2) (r2 : RG (M2 8 0 1) L') {Q : Mem → Prop}
    (k : ∀ M3, FrX PM M M3 → M3 8 0 0 7 = 0 → M3 8 0 1 = M2 8 0 1 → Pas M3 (pushN n) (pushH n H L) → Q M3) : Call G 0 0 zX12_remembers [rr G 8 0 0] M2 (kV Q) noX := by
  have fr1 := fxG (fx7 M 0) f1 (Or.inr rfl)
  have e3 : M2 8 0 3 = M1 8 0 3 := f2.row (fun k => by show ¬ (_ = _); omega)
  have z2 : M2 8 0 0 = M1 8 0 0 := f2.row (fun k => by show ¬ (_ = _); omega)
  have z1 : M1 8 0 0 = wr M 8 0 0 7 0 8 0 0 := f1 8 0 0 (by omega)
  have p4 : M2 8 0 4 = M 8 0 4 := (f2.row (fun k => by show ¬ (_ = _); omega)).trans ((f1 8 0 4 (by omega)).trans (wr_nc (by omega)))
  refine m_remembers (hP.keep (by rw [z2, z1, wr_nk (by omega)]) p4) (by rw [e3]; exact s1) hw hwH (fun M3 f3 p3 => kV_mk ?_)
  refine k M3 (fxP (fx1M fr1 f2) f3) ?_ (f3.g (by omega)) p3
  rw [f3 8 0 0 7 (by omega), z2, z1, wr_at]
end Dn
/-! goodness kept -/
theorem WFn.cut {L : LFn} (hw : WFn L) {v n : Int} (n0 : 0 ≤ n) (n1 : n ≤ L 13 v) : WFn (up1 L 13 v n) := by
  obtain ⟨ht, hm, hv, hb⟩ := hw
  have l : ∀ c, c ≠ 13 → up1 L 13 v n c = L c := fun c hc => up1_nc hc
  refine ⟨?_, ?_, ⟨?_, fun w w0 w1 => ?_⟩, ?_⟩
  · unfold WFt
    rw [l 6 (by omega), l 7 (by omega), l 8 (by omega), l 9 (by omega), l 10 (by omega)]; exact ht
  · unfold WFm
    rw [l 2 (by omega), l 3 (by omega), l 4 (by omega), l 5 (by omega)]; exact hm
  · rw [l 11 (by omega)]; exact hv.1
  · rw [l 11 (by omega)] at w1
    obtain ⟨a1, a2, a3, a4, a5⟩ := hv.2 w w0 w1
    rw [l 12 (by omega), l (15 + w) (by omega), l 6 (by omega), up1_any]
    refine ⟨a1, a2, ?_, ?_, fun p p0 p1 => ?_⟩
    · split <;> omega
    · split
      · rename_i q; rw [q.2] at a4; omega
      · exact a4
    · refine a5 p p0 ?_
      split at p1
      · rename_i q; rw [q.2]; omega
      · exact p1
  · unfold WFb
    rw [l 25 (by omega), l 26 (by omega), l 27 (by omega), l 28 (by omega)]; exact hb
theorem Uni.cut {L : LFn} (hU : Uni L) {x n : Int} (n1 : n ≤ L 13 x) : Uni (up1 L 13 x n) := by
  intro v w p q v0 v1 w0 w1 p0 p1 q0 q1 e
  rw [up1_nc (c' := 11) (by omega)] at v1 w1
  rw [up1_nc (c' := 15 + v) (by omega), up1_nc (c' := 15 + w) (by omega)] at e
  rw [up1_any] at p1 q1
  refine hU v w p q v0 v1 w0 w1 p0 ?_ q0 ?_ e
  · split at p1
    · rename_i z; rw [z.2]; omega
    · exact p1
  · split at q1
    · rename_i z; rw [z.2]; omega
    · exact q1
theorem at_duty {L : LFn} (hU : Uni L) {v p : Int} (v0 : 0 ≤ v) (v1 : v < L 11 3) (p0 : 0 ≤ p) (p1 : p < L 13 v) : vehOf L (L (15 + v) p) = v ∧ posOf L (L (15 + v) p) v = p := by
  have hp : posOf L (L (15 + v) p) v = p := by
    have hne : posOf L (L (15 + v) p) v ≠ -1 := by
      intro h
      rcases srch_spec (p := fun q => decide (L (15 + v) q = L (15 + v) p)) (k := 0) (b := L 13 v) with ⟨-, h2⟩ | ⟨h1, -⟩
      · have := h2 p p0 p1
        simp at this
      · have h' : srch (fun q => decide (L (15 + v) q = L (15 + v) p)) 0 (L 13 v) = -1 := h
        omega
    obtain ⟨a1, a2, a3, -⟩ := posOf_at hne
    exact (hU v v _ _ v0 v1 v0 v1 a1 a2 p0 p1 a3).2
  refine ⟨?_, hp⟩
  have hne : vehOf L (L (15 + v) p) ≠ -1 := by
    intro h
    rcases srch_spec (p := fun w => decide (posOf L (L (15 + v) p) w ≠ -1)) (k := 0) (b := L 11 3) with ⟨-, h2⟩ | ⟨h1, -⟩
    · have h3 := h2 v v0 v1
      simp only [decide_eq_false_iff_not, Classical.not_not] at h3
      omega
    · have h' : srch (fun w => decide (posOf L (L (15 + v) p) w ≠ -1)) 0 (L 11 3) = -1 := h
      omega
  obtain ⟨a1, a2, a3⟩ := vehOf_at hne
  obtain ⟨b1, b2, b3, -⟩ := posOf_at a3
  exact (hU _ v _ _ a1 a2 v0 v1 b1 b2 p0 p1 b3).1
theorem outF_last {L : LFn} (hU : Uni L) {v : Int} (v0 : 0 ≤ v) (v1 : v < L 11 3) (h : 0 < L 13 v) : outF L (L (15 + v) (L 13 v - 1)) = up1 L 13 v (L 13 v - 1) := by
  obtain ⟨a, b⟩ := at_duty hU v0 v1 (p := L 13 v - 1) (by omega) (by omega)
  unfold outF
  rw [a, b, if_neg (by omega)]
theorem out_wfn {L : LFn} (hw : WFn L) (t : Int) : WFn (outF L t) ∧ WFn (outB L t) := by
  unfold outF outB
  by_cases h : vehOf L t = -1
  · rw [if_pos h, if_pos h]; exact ⟨hw, hw⟩
  · rw [if_neg h, if_neg h]
    have hb := vehOf_at h
    have hp := posOf_at hb.2.2
    exact ⟨hw.cut (by omega) (by omega), hw.cut (by omega) (by omega)⟩
theorem out_uni {L : LFn} (hU : Uni L) (t : Int) : Uni (outF L t) ∧ Uni (outB L t) := by
  unfold outF outB
  by_cases h : vehOf L t = -1
  · rw [if_pos h, if_pos h]; exact ⟨hU, hU⟩
  · rw [if_neg h, if_neg h]
    have hb := vehOf_at h
    have hp := posOf_at hb.2.2
    exact ⟨hU.cut (by omega), hU.cut (by omega)⟩
theorem out_nc (L : LFn) (t : Int) {c : Int} (hc : c ≠ 13) : outF L t c = L c ∧ outB L t c = L c := by
  unfold outF outB
  by_cases h : vehOf L t = -1
  · rw [if_pos h, if_pos h]; exact ⟨rfl, rfl⟩
  · rw [if_neg h, if_neg h]; exact ⟨up1_nc hc, up1_nc hc⟩
/-- the duties of a line whose trips change -/
theorem out_up {L : LFn} {t c k x : Int} (hc : c < 11) : outF (up1 L c k x) t = up1 (outF L t) c k x ∧ outB (up1 L c k x) t = up1 (outB L t) c k x := by
  have hv : vehOf (up1 L c k x) t = vehOf L t := vehOf_same (up1_nc (by omega)) (up1_nc (by omega)) (fun v v0 => up1_nc (by omega))
  have hs : ∀ y z : Int, up1 (up1 L c k x) 13 y z = up1 (up1 L 13 y z) c k x := fun y z => by
    funext c'
    by_cases h1 : c' = 13
    · subst h1
      rw [up1_nc (c := c) (c' := 13) (by omega)]
      unfold up1
      rw [if_pos rfl, if_pos rfl, if_neg (by omega)]
    · rw [up1_nc h1]
      unfold up1
      by_cases h2 : c' = c
      · rw [if_pos h2, if_pos h2, if_neg (by omega)]
      · rw [if_neg h2, if_neg h2, if_neg h1]
  unfold outF outB
  rw [hv]
  by_cases h : vehOf L t = -1
  · rw [if_pos h, if_pos h, if_pos h, if_pos h]; exact ⟨rfl, rfl⟩
  · have hb := vehOf_at h
    rw [if_neg h, if_neg h, if_neg h, if_neg h, posOf_same (L := up1 L c k x) (N := L) (up1_nc (by omega)) (up1_nc (by omega))]
    exact ⟨hs _ _, hs _ _⟩
theorem WFn.trip {L : LFn} (hw : WFn L) {c t x : Int} (hc : c = 7 ∨ c = 8 ∨ c = 9) (h : (c = 7 → 0 ≤ x ∧ x ≤ 11 ∧ x ≠ L 8 t) ∧ (c = 8 → 0 ≤ x ∧ x ≤ 11 ∧ L 7 t ≠ x) ∧ (c = 9 → 0 ≤ x ∧ x ≤ 1439)) : WFn (up1 L c t x) := by
  obtain ⟨ht, hm, hv, hb⟩ := hw
  have l : ∀ d, (d < 7 ∨ 9 < d) → up1 L c t x d = L d := fun d hd => up1_nc (by omega)
  refine ⟨⟨by rw [l 6 (by omega)]; exact ht.1, fun u u0 u1 => ?_⟩, ?_, ?_, ?_⟩
  · rw [l 6 (by omega)] at u1
    have h7 := ht.2 u u0 u1
    rw [up1_any, up1_any, up1_any, l 10 (by omega)]
    by_cases hu : u = t
    · subst hu
      rcases hc with rfl | rfl | rfl
      · rw [if_pos ⟨rfl, rfl⟩, if_neg (by omega), if_neg (by omega)]
        have := h.1 rfl
        exact ⟨this.1, this.2.1, h7.2.2.1, h7.2.2.2.1, this.2.2, h7.2.2.2.2.2⟩
      · rw [if_neg (by omega), if_pos ⟨rfl, rfl⟩, if_neg (by omega)]
        have := h.2.1 rfl
        exact ⟨h7.1, h7.2.1, this.1, this.2.1, this.2.2, h7.2.2.2.2.2⟩
      · rw [if_neg (by omega), if_neg (by omega), if_pos ⟨rfl, rfl⟩]
        have := h.2.2 rfl
        exact ⟨h7.1, h7.2.1, h7.2.2.1, h7.2.2.2.1, h7.2.2.2.2.1, this.1, this.2, h7.2.2.2.2.2.2.2⟩
    · rw [if_neg (fun q => hu q.2), if_neg (fun q => hu q.2), if_neg (fun q => hu q.2)]
      exact h7
  · unfold WFm
    rw [l 2 (by omega), l 3 (by omega), l 4 (by omega), l 5 (by omega)]; exact hm
  · refine ⟨by rw [l 11 (by omega)]; exact hv.1, fun w w0 w1 => ?_⟩
    rw [l 11 (by omega)] at w1
    rw [l 12 (by omega), l 13 (by omega), l (15 + w) (by omega), l 6 (by omega)]
    exact hv.2 w w0 w1
  · unfold WFb
    rw [l 25 (by omega), l 26 (by omega), l 27 (by omega), l 28 (by omega)]; exact hb
def qTake (L : LFn) (v : Int) : Int := if ¬ (0 ≤ v ∧ v < L 11 3) then 1 else if L 13 v = 0 then 2 else 0
abbrev insd (L : LFn) (t s : Int) : Prop := onW L t s ∧ s ≠ L 7 t ∧ s ≠ L 8 t ∧ L 4 s = 1
def qTS (L : LFn) (t s : Int) : Int := if ¬ (0 ≤ t ∧ t < L 6 4) then 1 else if ¬ insd L t s then 2 else 0
def qSL (L : LFn) (t s : Int) : Int := if ¬ (0 ≤ t ∧ t < L 6 4) then 1 else if ¬ insd L t s then 2 else if 1439 < tmA L t s then 2 else 0
def shortL (L : LFn) (t s : Int) : LFn := outB (up1 L 8 t s) t
def lateL (L : LFn) (t s : Int) : LFn := outF (up1 (up1 L 7 t s) 9 t (tmA L t s)) t
def qUnb (L : LFn) (b : Int) : Int := if ¬ (0 ≤ b ∧ b < L 25 3) then 1 else 0
section Pm1
variable {G : GT} {K : List Value → Mem → Prop} {X : String → Mem → Prop} {M : Mem} {L : LFn} {n : Int} {H : Int → LFn}
theorem p_take (hL : M 1 0 = L) (hw : WFn L) (hz : BZ L) (hH : HI M) (hU : Uni L) {v : Int} (hvi : I32 v) (k : ChgP M K X L (qTake L v) (up1 L 13 v (L 13 v - 1)) (L (15 + v) (L 13 v - 1)) eIX nsE eIS) : Call G 9 2 zX11_take [rr G 0 0 0, iv v] M K X := by
  obtain ⟨ht, hm, hv, hbk⟩ := hw
  have nv := hv.1
  unfold qTake at k
  refine bX11_take ?_
  rw [hL]
  refine sp_requireIndex hvi (i32 (by omega)) (fun z => kV_mk ?_) (fun z => ?_)
  · rw [if_neg (fun w => w z)] at k
    have hl := (hv.2 v z.1 z.2).2.2
    have nt := ht.1
    refine sp_lastTripOf (by omega) (by omega) (by rw [hL]; exact hv) z.1 (by rw [hL]; exact z.2) (kI_mk ?_)
    rw [hL]
    by_cases h : 0 < L 13 v
    · have hd := hl.2.2 (L 13 v - 1) (by omega) (by omega)
      rw [if_pos h]
      rw [if_neg (by omega)] at k
      refine ⟨i32 (by omega), fun _ => sp_keep hH (by omega) (by omega) (by rw [hL]; exact hz) (fun M1 f1 kp1 => kV_mk ?_), fun y => by omega⟩
      have e1 : M1 1 0 = L := (f1.2 0 (Or.inl (by omega)) (by omega)).trans hL
      rw [hL] at kp1
      refine sp_takeOutFrom (i := 0) (by omega) (by omega) (by rw [e1]; exact hv) (by rw [e1]; exact ht) (i32 (by omega)) (fun M2 f2 e2 => kV_mk ?_)
      rw [e1, outF_last hU z.1 z.2 h] at e2
      exact k.k0 hH f1 kp1 f2 e2
    · rw [if_neg h]
      rw [if_pos (by omega)] at k
      exact ⟨i32 (by omega), fun y => absurd rfl y, fun _ => k.k2⟩
  · rw [if_pos z] at k; exact k.k1
theorem q_take (hR : RG (M 8 0 1) L) (hw : WFn L) (hP : Pas M n H) (hwH : ∀ r, 0 ≤ r → r < n → WFn (H r)) {v : Int} (hvi : I32 v) (k : ChgM M K n H L (qTake L v) (up1 L 13 v (L 13 v - 1)) (L (15 + v) (L 13 v - 1))) : Call G 2 0 zX12_take [rr G 8 0 0, iv v] M K X := by
  have hw' := hw
  obtain ⟨ht, hm, hv, hbk⟩ := hw
  have nv := hv.1
  unfold qTake at k
  refine bX12_take (m_isVehicle hR hv hvi (kI_mk ⟨b2i_i32 _, fun z => ?_, fun z => ?_⟩))
  · rw [if_pos (b2i_0.mp z)] at k
    exact k.kE (by decide) hR
  · have z' := nb z
    rw [if_neg (fun w => w z')] at k
    have hl := (hv.2 v z'.1 z'.2).2.2
    have h7 := hR.2.2.2.2.2.2.1 v z'.1 z'.2
    rw [h7.2.1]
    refine ⟨by omega, by omega, i32 (by omega), fun y => ?_, fun y => ?_⟩
    · rw [if_neg y] at k
      refine m_begins (by rw [thr_g]; exact hR) hw' (fun M1 f1 s1 => kV_mk ?_)
      have g1 : M1 8 0 1 = M 8 0 1 := (f1 8 0 1 (by omega)).trans (thr_g M 0)
      rw [g1, h7.2.1]
      have r2 : RG (wr M1 8 0 1 (171 + v) (L 13 v - 1) 8 0 1) (up1 L 13 v (L 13 v - 1)) := by
        rw [wr_rv, g1]
        exact RG_cut hR hv ht hbk z'.1 z'.2 (by omega)
      refine m_done hP hw' hwH f1 s1 (fx1 FrX.rf _ _) r2 (fun M3 f3 e7 g3 p3 => ?_)
      have r3 : RG (M3 8 0 1) (up1 L 13 v (L 13 v - 1)) := by rw [g3]; exact r2
      have e71 : M3 8 0 1 (171 + v) = L 13 v - 1 := by rw [g3, wr_at]
      have e18 : M3 8 0 1 ((181 + 30 * v) + (L 13 v - 1)) = L (15 + v) (L 13 v - 1) := by
        rw [g3, wr_nk (by omega), g1]
        exact h7.2.2 _ (by omega) (by omega)
      rw [e71]
      refine bX12_dutyAt ⟨by omega, by omega, kI_mk ?_⟩
      rw [e18]
      exact k.k0 e7 f3 r3 p3
    · rw [if_pos y] at k
      exact k.kE (by decide) hR
theorem p_inside (hL : M 1 0 = L) (ht : WFt L) {t s : Int} (z0 : 0 ≤ t) (z1 : t < L 6 4) (hsi : I32 s) (k : K [iv (b2i (onW L t s ∧ s ≠ L 7 t ∧ s ≠ L 8 t))] M) : Call G 2 0 zX8_isBetweenEnds [rr G 1 0 6, iv t, iv s] M K X := by
  have nt := ht.1
  have h7 := ht.2 t z0 z1
  refine bX8_isBetweenEnds (by omega) (by omega) (sp_isOnWay (by omega) (by omega) (by rw [hL]; exact ht) z0 (by rw [hL]; exact z1) hsi (kI_mk ?_))
  rw [hL]
  refine ⟨b2i_i32 _, fun y => ?_, fun y => ⟨z0, by omega, hsi, i32 (by omega), fun w => ?_, fun w => ⟨i32 (by omega), fun u => ?_, fun u => ?_⟩⟩⟩
  · rw [b2i_f (fun q => (b2i_0.mp y) q.1)] at k; exact k
  · rw [b2i_f (fun q => q.2.1 w)] at k; exact k
  · rw [b2i_f (fun q => q.2.2 u)] at k; exact k
  · rw [b2i_t ⟨nb y, w, u⟩] at k; exact k
theorem p_turnShort (hL : M 1 0 = L) (hw : WFn L) (hz : BZ L) (hH : HI M) {t s : Int} (hti : I32 t) (hsi : I32 s) (k : ChgP M K X L (qTS L t s) (shortL L t s) (arr L t - tmA L t s) eIX eIA eIS) : Call G 9 2 zX11_turnShort [rr G 0 0 0, iv t, iv s] M K X := by
  have hw' := hw
  obtain ⟨ht, hm, hv, hbk⟩ := hw
  have nt := ht.1
  unfold qTS at k
  refine bX11_turnShort ?_
  rw [hL]
  refine sp_requireIndex hti (i32 (by omega)) (fun z => kV_mk ?_) (fun z => ?_)
  · rw [if_neg (fun w => w z)] at k
    have h7 := ht.2 t z.1 z.2
    refine p_inside hL ht z.1 z.2 hsi (kI_mk ?_)
    rw [hL]
    refine ⟨b2i_i32 _, fun y => ?_, fun y => ?_⟩
    · rw [if_pos (fun q => (b2i_0.mp y) ⟨q.1, q.2.1, q.2.2.1⟩)] at k
      exact k.k2
    · have y' := nb y
      have h4 := hm.2.1 s (by omega) (by omega)
      refine ⟨by omega, by omega, i32 (by omega), fun w => ?_, fun w => ?_⟩
      · rw [if_neg (fun q => q ⟨y'.1, y'.2.1, y'.2.2, by omega⟩)] at k
        have htL : WFt (M 1 0) := by rw [hL]; exact ht
        refine sp_arrivalOf (by omega) (by omega) htL z.1 (by rw [hL]; exact z.2) (kI_mk (sp_timeAt (by omega) (by omega) htL z.1 (by rw [hL]; exact z.2) (by omega) (by omega) (kI_mk ?_)))
        rw [hL]
        refine sp_keep hH (by omega) (by omega) (by rw [hL]; exact hz) (fun M1 f1 kp1 => kV_mk ⟨z.1, by omega, ?_⟩)
        have e1 : M1 1 0 = L := (f1.2 0 (Or.inl (by omega)) (by omega)).trans hL
        rw [hL] at kp1
        have f2 : FrL 0 M1 (wr M1 1 0 8 t s) := FrL.rf.wr _ _ _
        have e2 : wr M1 1 0 8 t s 1 0 = up1 L 8 t s := by rw [wr_line, e1]
        have hw2 : WFn (up1 L 8 t s) := hw'.trip (Or.inr (Or.inl rfl)) ⟨fun q => absurd q (by omega), fun _ => ⟨by omega, by omega, fun q => y'.2.1 q.symm⟩, fun q => absurd q (by omega)⟩
        refine sp_takeOutBehind (i := 0) (by omega) (by omega) (by rw [e2]; exact hw2.2.2.1) (by rw [e2]; exact hw2.1) hti (fun M2 f3 e3 => kV_mk ?_)
        rw [e2] at e3
        exact k.k0 hH f1 kp1 (f2.tr f3) e3
      · rw [if_pos (fun q => by omega)] at k
        exact k.k2
  · rw [if_pos z] at k; exact k.k1
theorem btw_nc {L N : LFn} (h : N 2 = L 2) (a b : Int) : btw N a b = btw L a b := by unfold btw; rw [h]
theorem q_turnShort (hR : RG (M 8 0 1) L) (hw : WFn L) (hP : Pas M n H) (hwH : ∀ r, 0 ≤ r → r < n → WFn (H r)) {t s : Int} (hti : I32 t) (hsi : I32 s) (k : ChgM M K n H L (qTS L t s) (shortL L t s) (arr L t - tmA L t s)) : Call G 3 0 zX12_turnShort [rr G 8 0 0, iv t, iv s] M K X := by
  have hw' := hw
  obtain ⟨ht, hm, hv, hbk⟩ := hw
  have nt := ht.1
  unfold qTS at k
  refine bX12_turnShort (m_isTrip hR ht hti (kI_mk ⟨b2i_i32 _, fun z => ?_, fun z => ?_⟩))
  · rw [if_pos (b2i_0.mp z)] at k
    exact k.kE (by decide) hR
  · have z' := nb z
    rw [if_neg (fun w => w z')] at k
    have h7 := ht.2 t z'.1 z'.2
    refine m_isInside hR ht hm z'.1 z'.2 hsi (kI_mk ⟨b2i_i32 _, fun y => ?_, fun y => ?_⟩)
    · rw [if_pos (b2i_0.mp y)] at k
      exact k.kE (by decide) hR
    · have y' := nb y
      rw [if_neg (fun w => w y')] at k
      refine m_begins (by rw [thr_g]; exact hR) hw' (fun M1 f1 s1 => kV_mk ?_)
      have g1 : M1 8 0 1 = M 8 0 1 := (f1 8 0 1 (by omega)).trans (thr_g M 0)
      have hR1 : RG (M1 8 0 1) L := by rw [g1]; exact hR
      refine m_arrives hR1 ht z'.1 z'.2 (kI_mk (m_leaves hR1 ht hv hbk hti (Or.inl rfl) (fun M2 f2 r2 => kV_mk ⟨by omega, by omega, ?_⟩)))
      rw [if_pos rfl] at r2
      have o6 := (out_nc L t (c := 6) (by decide)).2
      have r3 : RG (wr M2 8 0 1 (40 + 4 * t + 1) s 8 0 1) (shortL L t s) := by
        rw [wr_rv]
        have := RG_trip (v := s) (f := 1) r2 (out_wfn hw' t).2 z'.1 (by rw [o6]; exact z'.2) (by omega) (by omega)
        unfold shortL
        rw [(out_up (by omega)).2]
        exact this
      refine m_done hP hw' hwH f1 s1 (fx1 f2 _ _) r3 (fun M3 f3 e7 g3 p3 => ?_)
      have r4 : RG (M3 8 0 1) (shortL L t s) := by rw [g3]; exact r3
      have hw2 : WFn (up1 L 8 t s) := hw'.trip (Or.inr (Or.inl rfl)) ⟨fun q => absurd q (by omega), fun _ => ⟨by omega, by omega, fun q => y'.2.1 q.symm⟩, fun q => absurd q (by omega)⟩
      have hw3 : WFn (shortL L t s) := (out_wfn hw2 t).2
      have c : ∀ c, c ≠ 13 → shortL L t s c = up1 L 8 t s c := fun c hc => (out_nc _ t hc).2
      refine m_arrives r4 hw3.1 z'.1 (by rw [c 6 (by omega), up1_nc (by omega)]; exact z'.2) (kI_mk ?_)
      have ea : arr (shortL L t s) t = tmA L t s := by
        unfold arr tmA
        rw [btw_nc (N := shortL L t s) (L := L) (by rw [c 2 (by omega), up1_nc (by omega)]), c 9 (by omega), c 7 (by omega), c 8 (by omega), up1_nc (by omega), up1_nc (by omega), up1_at]
      rw [ea]
      exact k.k0 e7 f3 r4 p3
theorem p_startLate (hL : M 1 0 = L) (hw : WFn L) (hz : BZ L) (hH : HI M) {t s : Int} (hti : I32 t) (hsi : I32 s) (k : ChgP M K X L (qSL L t s) (lateL L t s) (tmA L t s - L 9 t) eIX eIA eIS) : Call G 9 2 zX11_startLate [rr G 0 0 0, iv t, iv s] M K X := by
  have hw' := hw
  obtain ⟨ht, hm, hv, hbk⟩ := hw
  have nt := ht.1
  unfold qSL at k
  refine bX11_startLate ?_
  rw [hL]
  refine sp_requireIndex hti (i32 (by omega)) (fun z => kV_mk ?_) (fun z => ?_)
  · rw [if_neg (fun w => w z)] at k
    have h7 := ht.2 t z.1 z.2
    refine p_inside hL ht z.1 z.2 hsi (kI_mk ?_)
    rw [hL]
    refine ⟨b2i_i32 _, fun y => ?_, fun y => ?_⟩
    · rw [if_pos (fun q => (b2i_0.mp y) ⟨q.1, q.2.1, q.2.2.1⟩)] at k
      exact k.k2
    · have y' := nb y
      have h4 := hm.2.1 s (by omega) (by omega)
      refine ⟨by omega, by omega, i32 (by omega), fun w => ?_, fun w => ?_⟩
      · rw [if_neg (fun q => q ⟨y'.1, y'.2.1, y'.2.2, by omega⟩)] at k
        have htL : WFt (M 1 0) := by rw [hL]; exact ht
        have hbd := tmA_bd hm ht z.1 z.2 (s := s) (by omega) (by omega)
        refine sp_timeAt (by omega) (by omega) htL z.1 (by rw [hL]; exact z.2) (by omega) (by omega) (kI_mk ?_)
        rw [hL]
        refine ⟨i32 (by omega), fun u => ⟨z.1, by omega, sp_keep hH (by omega) (by omega) (by rw [hL]; exact hz) (fun M1 f1 kp1 => kV_mk ?_)⟩, fun u => ?_⟩
        · rw [if_neg u] at k
          have e1 : M1 1 0 = L := (f1.2 0 (Or.inl (by omega)) (by omega)).trans hL
          rw [hL] at kp1
          have f2 : FrL 0 M1 (wr (wr M1 1 0 7 t s) 1 0 9 t (tmA L t s)) := (FrL.rf.wr _ _ _).wr _ _ _
          have e2 : wr (wr M1 1 0 7 t s) 1 0 9 t (tmA L t s) 1 0 = up1 (up1 L 7 t s) 9 t (tmA L t s) := by rw [wr_line, wr_line, e1]
          have hw2 : WFn (up1 L 7 t s) := hw'.trip (Or.inl rfl) ⟨fun _ => ⟨by omega, by omega, y'.2.2⟩, fun q => absurd q (by omega), fun q => absurd q (by omega)⟩
          have hw3 : WFn (up1 (up1 L 7 t s) 9 t (tmA L t s)) := hw2.trip (Or.inr (Or.inr rfl)) ⟨fun q => absurd q (by omega), fun q => absurd q (by omega), fun _ => by omega⟩
          refine sp_takeOutFrom (i := 0) (by omega) (by omega) (by rw [e2]; exact hw3.2.2.1) (by rw [e2]; exact hw3.1) hti (fun M2 f3 e3 => kV_mk ?_)
          rw [e2] at e3
          exact k.k0 hH f1 kp1 (f2.tr f3) e3
        · rw [if_pos u] at k; exact k.k2
      · rw [if_pos (fun q => by omega)] at k
        exact k.k2
  · rw [if_pos z] at k; exact k.k1
theorem q_startLate (hR : RG (M 8 0 1) L) (hw : WFn L) (hP : Pas M n H) (hwH : ∀ r, 0 ≤ r → r < n → WFn (H r)) {t s : Int} (hti : I32 t) (hsi : I32 s) (k : ChgM M K n H L (qSL L t s) (lateL L t s) (tmA L t s - L 9 t)) : Call G 3 0 zX12_startLate [rr G 8 0 0, iv t, iv s] M K X := by
  have hw' := hw
  obtain ⟨ht, hm, hv, hbk⟩ := hw
  have nt := ht.1
  unfold qSL at k
  refine bX12_startLate (m_isTrip hR ht hti (kI_mk ⟨b2i_i32 _, fun z => ?_, fun z => ?_⟩))
  · rw [if_pos (b2i_0.mp z)] at k
    exact k.kE (by decide) hR
  · have z' := nb z
    rw [if_neg (fun w => w z')] at k
    have h7 := ht.2 t z'.1 z'.2
    refine m_isInside hR ht hm z'.1 z'.2 hsi (kI_mk ⟨b2i_i32 _, fun y => ?_, fun y => ?_⟩)
    · rw [if_pos (b2i_0.mp y)] at k
      exact k.kE (by decide) hR
    · have y' := nb y
      rw [if_neg (fun w => w y')] at k
      have hbd := tmA_bd hm ht z'.1 z'.2 (s := s) (by omega) (by omega)
      refine m_plannedAt hR ht z'.1 z'.2 (by omega) (by omega) (kI_mk ⟨i32 (by omega), fun u => ?_, fun u => ?_⟩)
      · rw [if_pos u] at k
        exact k.kE (by decide) hR
      · rw [if_neg u] at k
        refine m_begins (by rw [thr_g]; exact hR) hw' (fun M1 f1 s1 => kV_mk ?_)
        have g1 : M1 8 0 1 = M 8 0 1 := (f1 8 0 1 (by omega)).trans (thr_g M 0)
        have hR1 : RG (M1 8 0 1) L := by rw [g1]; exact hR
        refine m_departs hR1 ht z'.1 z'.2 (kI_mk (m_plannedAt hR1 ht z'.1 z'.2 (by omega) (by omega) (kI_mk (m_leaves hR1 ht hv hbk hti (Or.inr rfl) (fun M2 f2 r2 => kV_mk ⟨by omega, by omega, by omega, by omega, fun M49 e49 => ?_⟩)))))
        rw [if_neg (show ¬ (1 : Int) = 0 by decide)] at r2
        have o6 := (out_nc L t (c := 6) (by decide)).1
        have o8 := (out_nc L t (c := 8) (by decide)).1
        have r3 : RG (wr (wr M2 8 0 1 (40 + 4 * t) s) 8 0 1 (40 + 4 * t + 2) (tmA L t s) 8 0 1) (lateL L t s) := by
          rw [wr_rv, wr_rv]
          have a1 := RG_trip (v := s) (f := 0) r2 (out_wfn hw' t).1 z'.1 (by rw [o6]; exact z'.2) (by omega) (by omega)
          have hwA : WFn (up1 (outF L t) 7 t s) := (out_wfn hw' t).1.trip (Or.inl rfl) ⟨fun _ => ⟨by omega, by omega, by rw [o8]; exact y'.2.2.1⟩, fun q => absurd q (by omega), fun q => absurd q (by omega)⟩
          have a2 := RG_trip (v := tmA L t s) (f := 2) a1 hwA z'.1 (by rw [up1_nc (by omega), o6]; exact z'.2) (by omega) (by omega)
          unfold lateL
          rw [(out_up (by omega)).1, (out_up (by omega)).1]
          rw [show 40 + 4 * t + 0 = 40 + 4 * t by omega] at a2
          exact a2
        rw [← e49] at r3
        have f3 : FrX P1 M1 M49 := by rw [e49]; exact fx1 (fx1 f2 _ _) _ _
        exact m_done hP hw' hwH f1 s1 f3 r3 (fun M3 f3 e7 g3 p3 => k.k0 e7 f3 (by rw [g3]; exact r3) p3)
theorem p_unblock (hL : M 1 0 = L) (hw : WFn L) (hz : BZ L) (hH : HI M) {b : Int} (hbi : I32 b) (k : ChgP M K X L (qUnb L b) (rmK L b) (L 25 3 - 1) eIX eIX eIX) : Call G 9 1 zX11_unblock [rr G 0 0 0, iv b] M K X := by
  obtain ⟨ht, hm, hv, hbk⟩ := hw
  have nb9 := hbk.1
  unfold qUnb at k
  refine bX11_unblock ?_
  rw [hL]
  refine sp_requireIndex hbi (i32 (by omega)) (fun z => kV_mk ?_) (fun z => ?_)
  · rw [if_neg (fun w => w z)] at k
    refine sp_keep hH (by omega) (by omega) (by rw [hL]; exact hz) (fun M1 f1 kp1 => kV_mk ?_)
    have e1 : M1 1 0 = L := (f1.2 0 (Or.inl (by omega)) (by omega)).trans hL
    rw [hL] at kp1
    refine sp_removeBlock (i := 0) (by omega) (by omega) z.1 (by rw [e1]; exact z.2) (by rw [e1]; omega) (fun M2 f2 e2 => kV_mk ?_)
    rw [e1] at e2
    have e3 : M2 1 0 25 3 = L 25 3 - 1 := by rw [e2]; unfold rmK; rw [up1_at]
    rw [e3]
    exact k.k0 hH f1 kp1 f2 e2
  · rw [if_pos z] at k; exact k.k1
theorem RG_rmK {g g' : Int → Int} {b : Int} (hR : RG g L) (hw : WFn L) (b0 : 0 ≤ b) (b1 : b < L 25 3) (e1 : g' 481 = L 25 3 - 1) (e2 : ∀ x, 482 + 3 * b ≤ x → x < 482 + 3 * (L 25 3 - 1) → g' x = g (x + 3)) (e3 : ∀ x, x ≠ 481 → (x < 482 + 3 * b) → g' x = g x) : RG g' (rmK L b) := by
  obtain ⟨ht, hm, hv, hbk⟩ := hw
  have nt := ht.1
  have nv := hv.1
  have nb9 := hbk.1
  obtain ⟨r1, r2, r3, r4, r5, r6, r7, r8, r9⟩ := hR
  have l : ∀ c, (c < 25 ∧ 0 ≤ c) → rmK L b c = L c := fun c hc => by unfold rmK; rw [up1_nc (by omega), upr_ne (by omega), upr_ne (by omega), upr_ne (by omega)]
  have l26 : rmK L b 26 = shf (L 26) b (L 25 3) := by unfold rmK; rw [up1_nc (by omega), upr_ne (by omega), upr_ne (by omega), upr_at]
  have l27 : rmK L b 27 = shf (L 27) b (L 25 3) := by unfold rmK; rw [up1_nc (by omega), upr_ne (by omega), upr_at]
  have l28 : rmK L b 28 = shf (L 28) b (L 25 3) := by unfold rmK; rw [up1_nc (by omega), upr_at]
  have l25 : rmK L b 25 3 = L 25 3 - 1 := by unfold rmK; rw [up1_at]
  refine ⟨fun k h0 h1 => ?_, fun s h0 h1 => ?_, ⟨?_, ?_, ?_⟩, ?_, fun u h0 h1 => ?_, ?_, fun w w0 w1 => ?_, ?_, fun x h0 h1 => ?_⟩
  · rw [e3 _ (by omega) (by omega), e3 _ (by omega) (by omega), l 2 (by omega), l 3 (by omega)]; exact r1 k h0 h1
  · rw [e3 _ (by omega) (by omega), l 4 (by omega)]; exact r2 s h0 h1
  · rw [e3 _ (by omega) (by omega), l 5 (by omega)]; exact r3.1
  · rw [e3 _ (by omega) (by omega), l 5 (by omega)]; exact r3.2.1
  · rw [e3 _ (by omega) (by omega), l 5 (by omega)]; exact r3.2.2
  · rw [e3 _ (by omega) (by omega), l 6 (by omega)]; exact r4
  · rw [l 6 (by omega)] at h1
    rw [e3 _ (by omega) (by omega), e3 _ (by omega) (by omega), e3 _ (by omega) (by omega), e3 _ (by omega) (by omega), l 7 (by omega), l 8 (by omega), l 9 (by omega), l 10 (by omega)]
    exact r5 u h0 h1
  · rw [e3 _ (by omega) (by omega), l 11 (by omega)]; exact r6
  · rw [l 11 (by omega)] at w1
    have h := r7 w w0 w1
    have hl := (hv.2 w w0 w1).2.2
    rw [e3 _ (by omega) (by omega), e3 _ (by omega) (by omega), l 12 (by omega), l 13 (by omega), l (15 + w) (by omega)]
    exact ⟨h.1, h.2.1, fun p p0 p1 => by rw [e3 _ (by omega) (by omega)]; exact h.2.2 p p0 p1⟩
  · rw [e1, l25]
  · rw [l25] at h1
    rw [l26, l27, l28]
    unfold shf
    by_cases hx : b ≤ x
    · rw [if_pos (by omega), if_pos (by omega), if_pos (by omega), e2 _ (by omega) (by omega), e2 _ (by omega) (by omega), e2 _ (by omega) (by omega)]
      have h := r9 (x + 1) (by omega) (by omega)
      rw [show 482 + 3 * x + 3 = 482 + 3 * (x + 1) by omega, show 482 + 3 * x + 1 + 3 = 482 + 3 * (x + 1) + 1 by omega, show 482 + 3 * x + 2 + 3 = 482 + 3 * (x + 1) + 2 by omega]
      exact h
    · rw [if_neg (by omega), if_neg (by omega), if_neg (by omega), e3 _ (by omega) (by omega), e3 _ (by omega) (by omega), e3 _ (by omega) (by omega)]
      exact r9 x h0 (by omega)
theorem q_unblock (hR : RG (M 8 0 1) L) (hw : WFn L) (hP : Pas M n H) (hwH : ∀ r, 0 ≤ r → r < n → WFn (H r)) {b : Int} (hbi : I32 b) (k : ChgM M K n H L (qUnb L b) (rmK L b) (L 25 3 - 1)) : Call G 2 0 zX12_unblock [rr G 8 0 0, iv b] M K X := by
  have hw' := hw
  obtain ⟨ht, hm, hv, hbk⟩ := hw
  have nb9 := hbk.1
  have e481 : M 8 0 1 481 = L 25 3 := hR.2.2.2.2.2.2.2.1
  unfold qUnb at k
  refine bX12_unblock ?_
  rw [e481]
  refine m_in hbi (i32 (by omega)) (i32 (by omega)) (kI_mk ⟨b2i_i32 _, fun z => ?_, fun z => ?_⟩)
  · rw [if_pos (fun q => (b2i_0.mp z) ⟨q.1, by omega⟩)] at k
    exact k.kE (by decide) hR
  · have z' := nb z
    rw [if_neg (fun q => q ⟨z'.1, by omega⟩)] at k
    refine m_begins (by rw [thr_g]; exact hR) hw' (fun M1 f1 s1 => kV_mk ?_)
    have g1 : M1 8 0 1 = M 8 0 1 := (f1 8 0 1 (by omega)).trans (thr_g M 0)
    rw [g1, e481]
    have gen := loop_up (E := fun x => 482 + 3 * b ≤ x → ∀ N : Mem, FrX P1 M1 N → N 8 0 1 481 = L 25 3 - 1 → (∀ y, 482 + 3 * b ≤ y → y < x → N 8 0 1 y = M 8 0 1 (y + 3)) → (∀ y, y ≠ 481 → (y < 482 + 3 * b ∨ x ≤ y) → N 8 0 1 y = M 8 0 1 y) → eX12_unblock G K X 60 [(0, rr G 8 0 0), (2, iv x)] [] N) (a := 482 + 3 * b) (b := 482 + 3 * (L 25 3 - 1)) (by omega) (fun _ N fN eN lo hi => by
      have r9 : RG (N 8 0 1) (rmK L b) := RG_rmK hR hw' z'.1 (by omega) eN lo (fun y y1 y2 => hi y y1 (Or.inl y2))
      refine bX12_unblock_60 ?_
      rw [eN]
      refine ⟨i32 (by omega), i32 (by omega), fun _ => m_done hP hw' hwH f1 s1 fN r9 (fun M3 f3 e7 g3 p3 => ?_), fun q => absurd q (by omega)⟩
      rw [g3, eN]
      exact k.k0 e7 f3 (by rw [g3]; exact r9) p3) (fun x q1 q2 hn9 _ N fN eN lo hi => by
      refine bX12_unblock_60 ?_
      rw [eN]
      refine ⟨i32 (by omega), i32 (by omega), fun q => absurd q2 q, fun _ => ⟨by omega, by omega, by omega, by omega, hn9 (by omega) _ (fx1 fN _ _) (by rw [wr_nk (by omega)]; exact eN) (fun y y0 y1 => ?_) (fun y y0 y1 => ?_)⟩⟩
      · by_cases e : y = x
        · rw [e, wr_at]
          exact hi (x + 3) (by omega) (Or.inr (by omega))
        · rw [wr_nk e]
          exact lo y y0 (by omega)
      · rw [wr_nk (by omega)]
        exact hi y y0 (by omega))
    refine gen (Int.le_refl _) _ (fx1 FrX.rf _ _) (wr_at _ _ _ _ _ _) (fun y y0 y1 => by omega) (fun y y0 y1 => ?_)
    rw [wr_nk (by omega), g1]
end Pm1
