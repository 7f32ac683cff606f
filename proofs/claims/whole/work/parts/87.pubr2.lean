/-! ===== publics that only read: the run, the least vehicles, the least cost ===== -/
theorem LEq.wfn {L N : LFn} (h : LEq N L) (hw : WFn L) : WFn N := by
  obtain ⟨e1, e2, e3, e4, e5, e6, e7, e8, e9⟩ := h
  obtain ⟨⟨nt, ht⟩, ⟨m1, m2, m3, m4, m5⟩, ⟨nv, hv⟩, nb9, hb⟩ := hw
  refine ⟨⟨by rw [e4]; exact nt, fun t t0 t1 => ?_⟩, ⟨fun k k0 k1 => ?_, fun s s0 s1 => ?_, ?_, ?_, ?_⟩, ⟨by rw [e6]; exact nv, fun v v0 v1 => ?_⟩, by rw [e8]; exact nb9, fun b b0 b1 => ?_⟩
  · rw [e4] at t1
    obtain ⟨a1, a2, a3, a4⟩ := e5 t t0 (by omega)
    rw [a1, a2, a3, a4]
    exact ht t t0 t1
  · obtain ⟨a1, a2⟩ := e1 k k0 k1
    rw [a1, a2]; exact m1 k k0 k1
  · rw [e2 s s0 s1]; exact m2 s s0 s1
  · rw [e2 0 (by omega) (by omega)]; exact m3
  · rw [e2 11 (by omega) (by omega)]; exact m4
  · rw [e3 0 (by omega) (by omega), e3 1 (by omega) (by omega), e3 2 (by omega) (by omega)]; exact m5
  · rw [e6] at v1
    obtain ⟨a1, a2, a3⟩ := e7 v v0 (by omega)
    obtain ⟨b1, b2, b3, b4, b5⟩ := hv v v0 v1
    rw [a1, a2]
    refine ⟨b1, b2, b3, b4, fun p p0 p1 => ?_⟩
    rw [a3 p p0 (by omega), e4]
    exact b5 p p0 p1
  · rw [e8] at b1
    obtain ⟨a1, a2, a3⟩ := e9 b b0 (by omega)
    rw [a1, a2, a3]
    exact hb b b0 b1
theorem RG.leq {g : Int → Int} {L N : LFn} (hR : RG g L) (hw : WFn L) (h : LEq N L) : RG g N := by
  obtain ⟨e1, e2, e3, e4, e5, e6, e7, e8, e9⟩ := h
  obtain ⟨⟨nt, ht⟩, hm, ⟨nv, hv⟩, nb9, hb⟩ := hw
  obtain ⟨r1, r2, r3, r4, r5, r6, r7, r8, r9⟩ := hR
  refine ⟨fun k k0 k1 => ?_, fun s s0 s1 => ?_, ⟨?_, ?_, ?_⟩, ?_, fun t t0 t1 => ?_, ?_, fun v v0 v1 => ?_, ?_, fun b b0 b1 => ?_⟩
  · obtain ⟨a1, a2⟩ := e1 k k0 k1
    rw [a1, a2]; exact r1 k k0 k1
  · rw [e2 s s0 s1]; exact r2 s s0 s1
  · rw [e3 0 (by omega) (by omega)]; exact r3.1
  · rw [e3 1 (by omega) (by omega)]; exact r3.2.1
  · rw [e3 2 (by omega) (by omega)]; exact r3.2.2
  · rw [e4]; exact r4
  · rw [e4] at t1
    obtain ⟨a1, a2, a3, a4⟩ := e5 t t0 (by omega)
    rw [a1, a2, a3, a4]
    exact r5 t t0 t1
  · rw [e6]; exact r6
  · rw [e6] at v1
    obtain ⟨a1, a2, a3⟩ := e7 v v0 (by omega)
    obtain ⟨b1, b2, b3, b4, b5⟩ := hv v v0 v1
    obtain ⟨c1, c2, c3⟩ := r7 v v0 v1
    rw [a1, a2]
    refine ⟨c1, c2, fun p p0 p1 => ?_⟩
    rw [a3 p p0 (by omega)]
    exact c3 p p0 p1
  · rw [e8]; exact r8
  · rw [e8] at b1
    obtain ⟨a1, a2, a3⟩ := e9 b b0 (by omega)
    rw [a1, a2, a3]
    exact r9 b b0 b1
theorem beg_ex (L : LFn) : ∃ D0, Beg L D0 := by
  refine ⟨fun c k => if c = 0 then 0 else if c < 64 then -1 else if c < 66 then -1000 else if c = 66 then (if 0 < L 13 k then L (15 + k) 0 else -1) else if c = 67 then 0 else if c = 68 then L 7 (L (15 + k) 0) else L 9 (L (15 + k) 0), fun t s t0 t1 s0 s1 => ⟨?_, ?_⟩, fun d s d0 d1 s0 s1 => ?_, rfl, rfl, rfl, fun v v0 v1 => ?_⟩
  · show (if _ then _ else _) = _
    rw [if_neg (by omega), if_pos (by omega)]
  · show (if _ then _ else _) = _
    rw [if_neg (by omega), if_pos (by omega)]
  · show (if _ then _ else _) = _
    rw [if_neg (by omega), if_neg (by omega), if_pos (by omega)]
  · by_cases h : 0 < L 13 v
    · exact Or.inl ⟨h, rfl, if_pos h, rfl, rfl⟩
    · exact Or.inr ⟨h, if_neg h⟩
/-- no arrival at the first stop, no departure from the last -/
def FLi (L D : LFn) : Prop := ∀ t, 0 ≤ t → t < L 6 4 → D (2 + t) (L 7 t) = -1 ∧ D (33 + t) (L 8 t) = -1
section Fl
variable {L D : LFn}
theorem FLi.dep (hv : WFv L) (ht : WFt L) (hF : FLi L D) {v n : Int} (h0 : 0 ≤ v) (h1 : v < L 11 3) (ho : onTr L D v) : FLi L (depT L D v (dirn L (D 66 v)) n) := by
  have hn := ht.1
  obtain ⟨o1, o2, o3, o4, o5, o6, o7, o8, o9, o10, o11⟩ := trip_ok hv ht h0 h1 ho
  obtain ⟨a1, a2, a3, a4, a5, a6, a7⟩ := ho
  have hq := ht.2 _ o1 o2
  have hnx : nxS D v (dirn L (D 66 v)) ≠ L 7 (D 66 v) := by
    unfold nxS
    have hdn : (L 7 (D 66 v) < L 8 (D 66 v) ∧ dirn L (D 66 v) = 0) ∨ (¬ L 7 (D 66 v) < L 8 (D 66 v) ∧ dirn L (D 66 v) = 1) := by
      unfold dirn
      by_cases q : L 7 (D 66 v) < L 8 (D 66 v)
      · exact Or.inl ⟨q, if_pos q⟩
      · exact Or.inr ⟨q, if_neg q⟩
    obtain ⟨b1, b2⟩ := a4
    rcases hdn with ⟨q, e⟩ | ⟨q, e⟩
    · rw [e, if_pos rfl]; omega
    · rw [e, if_neg (by omega)]; omega
  have mv : FLi L (movT D v (dirn L (D 66 v)) n) := fun t t0 t1 => by
    have hF := hF t t0 t1
    unfold movT
    constructor
    · by_cases e : t = D 66 v
      · rw [← e]
        rw [← e] at hnx o8
        rw [up1_nk (fun z => hnx z.symm), up1_nc (c' := 2 + t) (by omega), up1_nc (c' := 2 + t) (by omega), up1_nc (c' := 2 + t) (by omega), up1_nc (c' := 2 + t) (by omega)]
        exact hF.1
      · rw [up1_nc (c' := 2 + t) (by omega), up1_nc (c' := 2 + t) (by omega), up1_nc (c' := 2 + t) (by omega), up1_nc (c' := 2 + t) (by omega), up1_nc (c' := 2 + t) (by omega)]
        exact hF.1
    · rw [up1_nc (c' := 33 + t) (by omega), up1_nc (c' := 33 + t) (by omega), up1_nc (c' := 33 + t) (by omega), up1_nc (c' := 33 + t) (by omega)]
      by_cases e : t = D 66 v
      · rw [← e]
        rw [← e] at a5 o8
        rw [up1_nk (fun z => a5 z.symm)]
        exact hF.2
      · rw [up1_nc (c' := 33 + t) (by omega)]
        exact hF.2
  unfold depT
  split
  · intro t t0 t1
    rw [begT_other (Or.inr (by omega)), begT_other (Or.inr (by omega))]
    exact mv t t0 t1
  · exact mv
theorem FLi.look (hv : WFv L) (ht : WFt L) (hm : WFm L) (hb : WFb L) (hI : DI L D) (hF : FLi L D) {v : Int} (h0 : 0 ≤ v) (h1 : v < L 11 3) (ho : onTr L D v) : FLi L (lookD L D v) := by
  have hn := ht.1
  obtain ⟨o1, o2, o3, o4, o5, o6, o7, o8, o9, o10, o11⟩ := trip_ok hv ht h0 h1 ho
  have hl := hI.2.1 (dirn L (D 66 v)) (D 68 v) (by omega) (by omega) o4 o5
  refine look_cases (fun Z => FLi L Z) hm hb o6 o7 hl.2 ?_ ?_ ?_
  · intro t t0 t1
    rw [up1_nc (by omega), up1_nc (by omega)]
    exact hF t t0 t1
  · intro c x w hc _ _ t t0 t1
    rw [up1_nc (by omega), up1_nc (by omega), up1_nc (by omega), up1_nc (by omega)]
    exact hF t t0 t1
  · intro D' n hD _ _ _
    rcases hD with rfl | ⟨x, rfl⟩
    · exact hF.dep hv ht h0 h1 ho
    · have ho' := onTr_0 (c := 2) (x := x) ho
      have hF' : FLi L (up1 D 0 2 x) := fun t t0 t1 => by
        rw [up1_nc (by omega), up1_nc (by omega)]
        exact hF t t0 t1
      have := FLi.dep (n := n) hv ht hF' h0 h1 ho'
      rw [up1_nc (show (66 : Int) ≠ 0 by decide)] at this
      exact this
theorem FLi.end9 (hv : WFv L) (ht : WFt L) (hm : WFm L) (hb : WFb L) (hI : DI L D) (hF : FLi L D) : FLi L (endD L D) := by
  have key : ∀ n : Nat, ∀ D, DI L D → FLi L D → FLi L (iterD L n D) := by
    intro n
    induction n with
    | zero => intro D _ h; exact h
    | succ n ih =>
      intro D h hf
      simp only [iterD]
      by_cases hz : nextD L D = -1
      · rw [if_pos hz]; exact hf
      · rw [if_neg hz]
        have hx := next_ok h hv.1 hz
        exact ih _ (look_ok hv ht hm hb h hx.1 hx.2.1 hx.2.2).1 (hf.look hv ht hm hb h hx.1 hx.2.1 hx.2.2)
  exact key _ D hI hF
theorem Beg.fl (h : Beg L D) (ht : WFt L) : FLi L D := fun t t0 t1 => by
  have hn := ht.1
  have hq := ht.2 t t0 t1
  exact ⟨(h.1 t _ t0 (by omega) (by omega) (by omega)).1, (h.1 t _ t0 (by omega) (by omega) (by omega)).2⟩
end Fl
theorem fzR {M M' : Mem} (h : FrX PR M M') : FrX PZ M M' := h.mono (fun c k q => by rcases q with w | w; exact Or.inl (by omega); exact Or.inr ⟨w.1, Or.inr (Or.inr (by omega))⟩)
theorem fzS {M M' : Mem} (h : FrX PS M M') : FrX PZ M M' := h.mono (fun c k q => by rcases q with (w | w) | w; exact Or.inl (by omega); exact Or.inr ⟨w.1, Or.inr (Or.inr (by omega))⟩; exact Or.inr ⟨w.1, Or.inr (Or.inr (by omega))⟩)
def qAct (L D : LFn) (t s w : Int) : Int × Int := if ¬ (0 ≤ t ∧ t < L 6 4) then (1, 0) else if ¬ onW L t s then (2, 0) else if (if w = 0 then D (2 + t) s else D (33 + t) s) = -1 then (2, 0) else (0, if w = 0 then D (2 + t) s else D (33 + t) s)
def qDelay (L D : LFn) (t : Int) : Int × Int := if ¬ (0 ≤ t ∧ t < L 6 4) then (1, 0) else if arrD L D t = -1 then (2, 0) else (0, dlyD L D t)
def qRun (L D : LFn) (v : Int) : Int × Int := if ¬ (0 ≤ v ∧ v ≤ 6) then (1, 0) else (0, if v = 0 then cntD L D (L 6 4) else if v = 1 then inDut L - cntD L D (L 6 4) else if v = 2 then sumD L D (L 6 4) else if v = 3 then grtD L D (L 6 4) else if v = 4 then D 0 2 else if v = 5 then D 0 3 else D 0 4)
def qABun (L D : LFn) (d s : Int) : Int × Int := if ¬ ((0 ≤ d ∧ d < 2) ∧ 0 ≤ s ∧ s < 12) then (1, 0) else (0, if (depS L D d s).1 = 0 then 0 else below (depS L D d s) (L 5 1))
def qMeanD (L D : LFn) : Int × UInt64 := if cntD L D (L 6 4) = 0 then (1, FP.dconst0) else (0, FP.ddiv (FP.i2d (J (sumD L D (L 6 4)))) (FP.i2d (J (cntD L D (L 6 4)))))
theorem depS_sm {L D : LFn} (hI : DI L D) (ht : WFt L) {d s : Int} (s0 : 0 ≤ s) (s1 : s ≤ 11) : SmS (depS L D d s) := by
  intro k h0 h1
  obtain ⟨x, x1, -, -, x4⟩ := foldS_mem _ k h0 h1
  have hn := ht.1
  have e : (depS L D d s).2.1 k = D (33 + (x : Int)) s := x4
  have := (hI.2.2 (x : Int) s (by omega) (by omega) s0 (by omega)).2
  rw [e]
  omega
section Pr2
variable {G : GT} {K : List Value → Mem → Prop} {X : String → Mem → Prop} {M : Mem} {L : LFn}
/-- the day is run -/
theorem sp_run (hL : M 1 0 = L) (hw : WFn L) (hz : BZ L) (k : ∀ M' L' D0, SC M M' → LEq L' L → Beg L' D0 → M' 1 11 = L' → M' 3 0 = endD L' D0 → WFn L' → DI L' (endD L' D0) → K [] M') : Call G 4 0 zX1_pass [rr G 3 0 0, rr G 1 0 0] M K X := by
  refine sp_pass (by omega) (by omega) (by rw [hL]; exact hz) (fun N hN => ?_) (fun M' D0 f l b e => ?_)
  · rw [hL] at hN
    have := hN.wfn hw
    exact ⟨this.2.2.1, this.1, this.2.1, this.2.2.2⟩
  · rw [hL] at l
    have hw' := l.wfn hw
    exact k M' _ D0 (fun a b p q => f a b p (fun z => by omega)) l b rfl e hw' (end_DI hw'.2.2.1 hw'.1 hw'.2.1 hw'.2.2.2 (b.di hw'.2.2.1 hw'.1))
theorem p_actual (hL : M 1 0 = L) (hw : WFn L) (hz : BZ L) {t s w : Int} (hti : I32 t) (hsi : I32 s) (hwi : I32 w) (k : ∀ L' D0, LEq L' L → Beg L' D0 → RdP M K X (qAct L' (endD L' D0) t s w).1 [iv (qAct L' (endD L' D0) t s w).2] eIX nsE) : Call G 9 2 zX11_actual [rr G 0 0 0, iv t, iv s, iv w] M K X := by
  have hw' := hw
  obtain ⟨ht, hm, hv, hb⟩ := hw
  have nt := ht.1
  obtain ⟨D1, b1⟩ := beg_ex L
  have k1 := k L D1 (LEq.refl L) b1
  refine bX11_actual ?_
  rw [hL]
  unfold qAct at k k1
  refine sp_requireIndex hti (i32 (by omega)) (fun z => kV_mk ?_) (fun z => ?_)
  · rw [if_neg (fun u => u z)] at k1
    refine sp_isOnWay (by omega) (by omega) (by rw [hL]; exact ht) z.1 (by rw [hL]; exact z.2) hsi (kI_mk ?_)
    rw [hL]
    refine ⟨b2i_i32 _, fun y => ?_, fun y => ?_⟩
    · have y' := nb y
      have h7 := ht.2 t z.1 z.2
      refine sp_run hL hw' hz (fun M' L' D0 f l b e1 e3 w9 hI => kV_mk ?_)
      have k2 := (k L' D0 l b).at f
      have a := l.2.2.2.2.1 t z.1 (by omega)
      have y9 : onW L' t s := by show min (L' 7 t) (L' 8 t) ≤ s ∧ s ≤ max (L' 7 t) (L' 8 t); rw [a.1, a.2.1]; exact y'
      rw [l.2.2.2.1, if_neg (fun u => u z), if_neg (fun u => u y9)] at k2
      have hb9 := hI.2.2 t s z.1 (by omega) (by omega) (by omega)
      rw [e3]
      refine ⟨hwi, fun q => ⟨z.1, by omega, by omega, by omega, i32 (by omega), fun r => ?_, fun r => ?_⟩, fun q => ⟨z.1, by omega, by omega, by omega, i32 (by omega), fun r => ?_, fun r => ?_⟩⟩
      · rw [if_pos q, if_neg r] at k2; exact k2.k0
      · rw [if_pos q, if_pos r] at k2; exact k2.k2
      · rw [if_neg q, if_neg r] at k2; exact k2.k0
      · rw [if_neg q, if_pos r] at k2; exact k2.k2
    · rw [if_pos (b2i_0.mp y)] at k1; exact k1.k2
  · rw [if_pos z] at k1; exact k1.k1
theorem q_actual (hR : RG (M 8 0 1) L) (hw : WFn L) {D0 : LFn} (hB : Beg L D0) {t s w : Int} (hti : I32 t) (hsi : I32 s) (hwi : I32 w) (k : RdM M K (qAct L (endD L D0) t s w).1 (iv (qAct L (endD L D0) t s w).2) (iv 0)) : Call G 5 0 zX12_actual [rr G 8 0 0, iv t, iv s, iv w] M K X := by
  obtain ⟨ht, hm, hv, hb⟩ := hw
  have nt := ht.1
  have hR' : RG (wr M 8 0 0 7 0 8 0 1) L := by rw [thr_g]; exact hR
  have hI := end_DI hv ht hm hb (hB.di hv ht)
  have hF := (hB.fl ht).end9 hv ht hm hb (hB.di hv ht)
  unfold qAct at k
  refine bX12_actual (m_isTrip hR ht hti (kI_mk ⟨b2i_i32 _, fun z => ?_, fun z => ?_⟩))
  · rw [if_pos (b2i_0.mp z)] at k
    exact k.kE (by decide)
  · have z' := nb z
    have h7 := ht.2 t z'.1 z'.2
    have hF := hF t z'.1 z'.2
    rw [if_neg (fun u => u z')] at k
    refine m_isOnWay hR ht z'.1 z'.2 hsi (kI_mk ⟨b2i_i32 _, fun y => ?_, fun y => ?_⟩)
    · rw [if_pos (b2i_0.mp y)] at k
      exact k.kE (by decide)
    · have y' := nb y
      rw [if_neg (fun u => u y')] at k
      have hb9 := hI.2.2 t s z'.1 (by omega) (by omega) (by omega)
      refine ⟨hwi, fun q => m_first hR ht z'.1 z'.2 (kI_mk ⟨hsi, i32 (by omega), fun r => ?_, fun r => ?_⟩), fun q => m_last hR ht z'.1 z'.2 (kI_mk ⟨hsi, i32 (by omega), fun r => ?_, fun r => ?_⟩)⟩
      · rw [if_pos q, if_pos (by rw [r]; exact hF.1)] at k
        exact k.kE (by decide)
      · rw [if_pos q] at k
        refine m_runs hR' ht hv hm hb hB (fun M' f rd => kV_mk ?_)
        have e7 : M' 8 0 0 7 = 0 := (f 8 0 0 7 (by omega)).trans (wr_at _ _ _ _ _ _)
        have e12 := (rd.2.2.1 t s z'.1 (by omega) (by omega) (by omega)).1
        replace k := k.at ((fz7 M 0).tr (fzR f))
        rw [e12]
        refine ⟨by omega, by omega, i32 (by omega), fun u => ?_, fun u => ?_⟩
        · rw [if_neg (by omega)] at k; exact k.k0 e7
        · rw [if_pos (by omega)] at k; exact rdm_fails (by decide) k
      · rw [if_neg q, if_pos (by rw [r]; exact hF.2)] at k
        exact k.kE (by decide)
      · rw [if_neg q] at k
        refine m_runs hR' ht hv hm hb hB (fun M' f rd => kV_mk ?_)
        have e7 : M' 8 0 0 7 = 0 := (f 8 0 0 7 (by omega)).trans (wr_at _ _ _ _ _ _)
        have e12 := (rd.2.2.1 t s z'.1 (by omega) (by omega) (by omega)).2
        replace k := k.at ((fz7 M 0).tr (fzR f))
        rw [e12]
        refine ⟨by omega, by omega, i32 (by omega), fun u => ?_, fun u => ?_⟩
        · rw [if_neg (by omega)] at k; exact k.k0 e7
        · rw [if_pos (by omega)] at k; exact rdm_fails (by decide) k
theorem p_delay (hL : M 1 0 = L) (hw : WFn L) (hz : BZ L) {t : Int} (hti : I32 t) (k : ∀ L' D0, LEq L' L → Beg L' D0 → RdP M K X (qDelay L' (endD L' D0) t).1 [iv (qDelay L' (endD L' D0) t).2] eIX nsE) : Call G 9 2 zX11_delay [rr G 0 0 0, iv t] M K X := by
  have hw' := hw
  obtain ⟨ht, hm, hv, hb⟩ := hw
  have nt := ht.1
  obtain ⟨D1, b1⟩ := beg_ex L
  have k1 := k L D1 (LEq.refl L) b1
  refine bX11_delay ?_
  rw [hL]
  unfold qDelay at k k1
  refine sp_requireIndex hti (i32 (by omega)) (fun z => kV_mk ?_) (fun z => ?_)
  · refine sp_run hL hw' hz (fun M' L' D0 f l b e1 e3 w9 hI => kV_mk ?_)
    have k2 := (k L' D0 l b).at f
    have z9 : t < L' 6 4 := by rw [l.2.2.2.1]; exact z.2
    rw [l.2.2.2.1, if_neg (fun u => u z)] at k2
    refine sp_hasArrived e1 e3 w9.1 hI z.1 z9 (kI_mk ⟨b2i_i32 _, fun y => ?_, fun y => ?_⟩)
    · have y' := nb y
      rw [if_neg y'] at k2
      exact sp_delayOf e1 e3 w9.1 z.1 z9 (kI_mk k2.k0)
    · rw [if_pos (Classical.byContradiction fun u => (b2i_0.mp y) u)] at k2
      exact k2.k2
  · rw [if_pos z] at k1; exact k1.k1
theorem q_delay (hR : RG (M 8 0 1) L) (hw : WFn L) {D0 : LFn} (hB : Beg L D0) {t : Int} (hti : I32 t) (k : RdM M K (qDelay L (endD L D0) t).1 (iv (qDelay L (endD L D0) t).2) (iv 0)) : Call G 5 0 zX12_delay [rr G 8 0 0, iv t] M K X := by
  obtain ⟨ht, hm, hv, hb⟩ := hw
  have hI := end_DI hv ht hm hb (hB.di hv ht)
  unfold qDelay at k
  refine bX12_delay (m_isTrip hR ht hti (kI_mk ⟨b2i_i32 _, fun z => ?_, fun z => ?_⟩))
  · rw [if_pos (b2i_0.mp z)] at k
    exact k.kE (by decide)
  · have z' := nb z
    rw [if_neg (fun u => u z')] at k
    refine m_runs (by rw [thr_g]; exact hR) ht hv hm hb hB (fun M' f rd => kV_mk ?_)
    have e7 : M' 8 0 0 7 = 0 := (f 8 0 0 7 (by omega)).trans (wr_at _ _ _ _ _ _)
    have hR9 : RG (M' 8 0 1) L := by rw [f.g, thr_g]; exact hR
    replace k := k.at ((fz7 M 0).tr (fzR f))
    refine m_hasArrived hR9 ht hI rd z'.1 z'.2 (kI_mk ⟨b2i_i32 _, fun y => ?_, fun y => ?_⟩)
    · rw [if_pos (Classical.byContradiction fun u => (b2i_0.mp y) u)] at k
      exact rdm_fails (by decide) k
    · rw [if_neg (nb y)] at k
      exact m_delayOf hR9 ht rd z'.1 z'.2 (kI_mk (k.k0 e7))
theorem p_run (hL : M 1 0 = L) (hw : WFn L) (hz : BZ L) {v : Int} (hvi : I32 v) (k : ∀ L' D0, LEq L' L → Beg L' D0 → RdP M K X (qRun L' (endD L' D0) v).1 [iv (qRun L' (endD L' D0) v).2] eIA eIA) : Call G 8 1 zX11_run [rr G 0 0 0, iv v] M K X := by
  obtain ⟨D1, b1⟩ := beg_ex L
  have k1 := k L D1 (LEq.refl L) b1
  unfold qRun at k k1
  refine bX11_run (sp_isFromTo hvi (i32 (by omega)) (i32 (by omega)) (kI_mk ⟨b2i_i32 _, fun z => ?_, fun z => ?_⟩))
  · have z' := nb z
    refine sp_run hL hw hz (fun M' L' D0 f l b e1 e3 w9 hI => kV_mk ?_)
    have k2 := (k L' D0 l b).at f
    rw [if_neg (fun u => u z')] at k2
    have e0 : M' 1 0 = L := (f 1 0 (by omega) (by omega)).trans hL
    have ei : inDut L = inDut L' := by
      unfold inDut
      rw [l.2.2.2.2.2.1]
      have nv := hw.2.2.1.1
      exact (sumT_congr (fun x x0 x1 => (l.2.2.2.2.2.2.1 x x0 (by omega)).2.1)).symm
    refine ⟨hvi, fun u => ?_, fun u => ?_, fun u => ?_, fun u => ?_, fun u => ?_, fun u => ?_, fun u => ?_⟩
    · rw [if_pos u] at k2
      exact sp_arrivedCount e1 e3 w9.1 hI (kI_mk k2.k0)
    · rw [if_neg (by omega), if_pos u] at k2
      refine sp_tripsInDuties (by omega) (by omega) (by rw [e0]; exact hw.2.2.1) (kI_mk (sp_arrivedCount e1 e3 w9.1 hI (kI_mk ?_)))
      rw [e0, ei]
      exact k2.k0
    · rw [if_neg (by omega), if_neg (by omega), if_pos u] at k2
      exact sp_delaySum e1 e3 w9.1 hI (kI_mk k2.k0)
    · rw [if_neg (by omega), if_neg (by omega), if_neg (by omega), if_pos u] at k2
      exact sp_greatestDelay e1 e3 w9.1 w9.2.1 hI (kI_mk k2.k0)
    · rw [if_neg (by omega), if_neg (by omega), if_neg (by omega), if_neg (by omega), if_pos u] at k2
      rw [e3]; exact k2.k0
    · rw [if_neg (by omega), if_neg (by omega), if_neg (by omega), if_neg (by omega), if_neg (by omega), if_pos u] at k2
      rw [e3]; exact k2.k0
    · rw [if_neg (by omega), if_neg (by omega), if_neg (by omega), if_neg (by omega), if_neg (by omega), if_neg (by omega)] at k2
      rw [e3]; exact k2.k0
  · rw [if_pos (b2i_0.mp z)] at k1; exact k1.k1
theorem q_run (hR : RG (M 8 0 1) L) (hw : WFn L) {D0 : LFn} (hB : Beg L D0) {v : Int} (hvi : I32 v) (k : RdM M K (qRun L (endD L D0) v).1 (iv (qRun L (endD L D0) v).2) (iv 0)) : Call G 6 0 zX12_run [rr G 8 0 0, iv v] M K X := by
  obtain ⟨ht, hm, hv, hb⟩ := hw
  unfold qRun at k
  refine bX12_run (m_sums (by rw [thr_g]; exact hR) ht hv hm hb hB (fun M' f rd c1 c2 c3 => kV_mk ?_))
  have e7 : M' 8 0 0 7 = 0 := (f 8 0 0 7 (by omega)).trans (wr_at _ _ _ _ _ _)
  have hR9 : RG (M' 8 0 1) L := by rw [f.row (fun k => by show ¬ ((_ ∨ _) ∨ _); omega), thr_g]; exact hR
  replace k := k.at ((fz7 M 0).tr (fzS f))
  obtain ⟨-, -, -, d1, d2, d3⟩ := rd
  refine ⟨hvi, fun u => ?_, fun u => ?_, fun u => ?_, fun u => ?_, fun u => ?_, fun u => ?_, fun u => ?_, fun u => ?_⟩
  · rw [if_neg (by omega), if_pos u] at k
    rw [c1]; exact k.k0 e7
  · rw [if_neg (by omega), if_neg (by omega), if_pos u] at k
    refine m_inDuties hR9 hv (kI_mk ?_)
    rw [c1]; exact k.k0 e7
  · rw [if_neg (by omega), if_neg (by omega), if_neg (by omega), if_pos u] at k
    rw [c2]; exact k.k0 e7
  · rw [if_neg (by omega), if_neg (by omega), if_neg (by omega), if_neg (by omega), if_pos u] at k
    rw [c3]; exact k.k0 e7
  · rw [if_neg (by omega), if_neg (by omega), if_neg (by omega), if_neg (by omega), if_neg (by omega), if_pos u] at k
    rw [d1]; exact k.k0 e7
  · rw [if_neg (by omega), if_neg (by omega), if_neg (by omega), if_neg (by omega), if_neg (by omega), if_neg (by omega), if_pos u] at k
    rw [d2]; exact k.k0 e7
  · rw [if_neg (by omega), if_neg (by omega), if_neg (by omega), if_neg (by omega), if_neg (by omega), if_neg (by omega), if_neg (by omega)] at k
    rw [d3]; exact k.k0 e7
  · rw [if_pos (by omega)] at k
    exact rdm_fails (by decide) k
theorem p_meanDelay (hL : M 1 0 = L) (hw : WFn L) (hz : BZ L) (k : ∀ L' D0, LEq L' L → Beg L' D0 → RdP M K X (qMeanD L' (endD L' D0)).1 [.double (qMeanD L' (endD L' D0)).2] eAR eAR) : Call G 8 1 zX11_meanDelay [rr G 0 0 0] M K X := by
  unfold qMeanD at k
  refine bX11_meanDelay (sp_run hL hw hz (fun M' L' D0 f l b e1 e3 w9 hI => kV_mk (sp_arrivedCount e1 e3 w9.1 hI (kI_mk ?_))))
  have k2 := (k L' D0 l b).at f
  have nt := w9.1.1
  have hc : 0 ≤ cntD L' (endD L' D0) (L' 6 4) ∧ cntD L' (endD L' D0) (L' 6 4) ≤ L' 6 4 - 0 := cntT_bd _ nt.1
  refine ⟨i32 (by omega), fun z => ?_, fun z => ?_⟩
  · rw [if_neg z] at k2
    exact sp_delaySum e1 e3 w9.1 hI (kI_mk ⟨n64 z (i32 (by omega)), k2.k0⟩)
  · rw [if_pos z] at k2; exact k2.k1
theorem q_meanDelay (hR : RG (M 8 0 1) L) (hw : WFn L) {D0 : LFn} (hB : Beg L D0) (k : RdM M K (qMeanD L (endD L D0)).1 (.double (qMeanD L (endD L D0)).2) (.double FP.dconst0)) : Call G 6 0 zX12_meanDelay [rr G 8 0 0] M K X := by
  obtain ⟨ht, hm, hv, hb⟩ := hw
  have nt := ht.1
  unfold qMeanD at k
  refine bX12_meanDelay (m_sums hR ht hv hm hb hB (fun M' f rd c1 c2 c3 => kV_mk ?_))
  replace k := k.at (fzS f)
  have hc : 0 ≤ cntD L (endD L D0) (L 6 4) ∧ cntD L (endD L D0) (L 6 4) ≤ L 6 4 - 0 := cntT_bd _ nt.1
  rw [c1, c2]
  refine ⟨i32 (by omega), fun z => ⟨n64 z (i32 (by omega)), ?_⟩, fun z => ?_⟩
  · rw [if_neg z] at k; exact k.k0w
  · rw [if_pos z] at k; exact k.kE (by decide)
theorem p_actualBunches (hL : M 1 0 = L) (hw : WFn L) (hz : BZ L) {d s : Int} (hd : I32 d) (hs : I32 s) (k : ∀ L' D0, LEq L' L → Beg L' D0 → RdP M K X (qABun L' (endD L' D0) d s).1 [iv (qABun L' (endD L' D0) d s).2] eIX eIX) : Call G 9 2 zX11_actualBunches [rr G 0 0 0, iv d, iv s] M K X := by
  obtain ⟨D1, b1⟩ := beg_ex L
  have k1 := k L D1 (LEq.refl L) b1
  unfold qABun at k k1
  refine bX11_actualBunches (sp_requireIndex hd (i32 (by omega)) (fun z => kV_mk (sp_requireIndex hs (i32 (by omega)) (fun y => kV_mk ?_) (fun y => ?_))) (fun z => ?_))
  · refine sp_run hL hw hz (fun M' L' D0 f l b e1 e3 w9 hI => kV_mk ?_)
    have k2 := (k L' D0 l b).at f
    rw [if_neg (fun u => u ⟨z, y⟩)] at k2
    refine sp_listDepartures e1 e3 w9.1 hI (by omega) (by omega) hd y.1 (by omega) (fun M2 f2 s2 => kV_mk ?_)
    have e0 : M2 1 0 = L := (f2.ne (Or.inl (by decide))).trans ((f 1 0 (by omega) (by omega)).trans hL)
    have h5 := hw.2.1.2.2.2.2
    rw [e0]
    refine sp_headwaysBelow (by omega) (by omega) s2 (depS_sm hI w9.1 y.1 (by omega)) (i32 (by omega)) (kI_mk ?_)
    rw [← l.2.2.1 1 (by omega) (by omega)]
    exact (k2.at (SC.q f2)).k0
  · rw [if_pos (fun u => y u.2)] at k1; exact k1.k1
  · rw [if_pos (fun u => z u.1)] at k1; exact k1.k1
theorem q_actualBunches (hR : RG (M 8 0 1) L) (hw : WFn L) {D0 : LFn} (hB : Beg L D0) {d s : Int} (hd : I32 d) (hs : I32 s) (k : RdM M K (qABun L (endD L D0) d s).1 (iv (qABun L (endD L D0) d s).2) (iv 0)) : Call G 5 0 zX12_actualBunches [rr G 8 0 0, iv d, iv s] M K X := by
  obtain ⟨ht, hm, hv, hb⟩ := hw
  have nt := ht.1
  have hI := end_DI hv ht hm hb (hB.di hv ht)
  unfold qABun at k
  refine bX12_actualBunches (m_in hd (i32 (by omega)) (i32 (by omega)) (kI_mk ⟨b2i_i32 _, fun z => ?_, fun z => m_isStop hs (kI_mk ⟨b2i_i32 _, fun y => ?_, fun y => ?_⟩)⟩))
  · rw [if_pos (fun u => (b2i_0.mp z) ⟨by omega, by omega⟩)] at k
    exact k.kE (by decide)
  · rw [if_pos (fun u => (b2i_0.mp y) ⟨by omega, by omega⟩)] at k
    exact k.kE (by decide)
  · have z' := nb z
    have y' := nb y
    rw [if_neg (fun u => u ⟨by omega, by omega⟩)] at k
    refine m_runs (by rw [thr_g]; exact hR) ht hv hm hb hB (fun M1 f1 rd => kV_mk ?_)
    generalize hDe : endD L D0 = D at *
    have e7 : M1 8 0 0 7 = 0 := (f1 8 0 0 7 (by omega)).trans (wr_at _ _ _ _ _ _)
    have hR1 : RG (M1 8 0 1) L := by rw [f1.g, thr_g]; exact hR
    replace k := k.at ((fz7 M 0).tr (fzR f1))
    obtain ⟨c1, c2⟩ := m_clear M1
    have gen := loop_up (E := fun t => 0 ≤ t → ∀ N : Mem, FrC M1 N → SeqM N (foldL (fun t => decide (dirn L t = d ∧ D (33 + t) s ≠ -1)) (fun t => D (33 + t) s) (fun t => t) t.toNat) → eX12_actualBunches G K X 45 [(0, rr G 8 0 0), (1, iv d), (2, iv s), (3, iv t)] [] N) nt.1 (fun h0 N hN hs9 => by
      refine bX12_actualBunches_45 ?_
      rw [(RG_C hN hR1).2.2.2.1]
      refine ⟨i32 (by omega), i32 (by omega), fun _ => ?_, fun z => absurd z (by omega)⟩
      rw [foldL_S] at hs9
      exact m_close hs9 (depS_sm hI ht y'.1 y'.2) (RG_C hN hR1) hm (kI_mk ((k.at hN.z).k0 ((hN 8 0 0 7 (by omega)).trans e7)))) (fun t q1 q2 hn9 h0 N hN hs9 => by
      have hRN := RG_C hN hR1
      have hbd := (hI.2.2 t s q1 (by omega) y'.1 (by omega)).2
      have e13 : N 8 0 13 (12 * t + s) = D (33 + t) s := (hN 8 0 13 _ (by omega)).trans (rd.2.2.1 t s q1 (by omega) y'.1 (by omega)).2
      have hsz := foldL_size (fun t => decide (dirn L t = d ∧ D (33 + t) s ≠ -1)) (fun t => D (33 + t) s) (fun t => t) t.toNat
      have hdd : dirn L t = 0 ∨ dirn L t = 1 := by unfold dirn; split <;> simp
      have skp : ¬ (dirn L t = d ∧ D (33 + t) s ≠ -1) → eX12_actualBunches G K X 45 [(0, rr G 8 0 0), (1, iv d), (2, iv s), (3, iv (t + 1))] [] N := fun z => hn9 (by omega) N hN (by rw [foldL_step q1, if_neg (by simpa only [decide_eq_true_eq] using z)]; exact hs9)
      refine bX12_actualBunches_45 ?_
      rw [hRN.2.2.2.1]
      refine ⟨i32 (by omega), i32 (by omega), fun z => absurd q2 z, fun _ => m_direction hRN ht q1 q2 (kI_mk ?_)⟩
      rw [e13]
      refine ⟨i32 (by omega), hd, fun z => skp (fun w => z w.1), fun z => ⟨by omega, by omega, i32 (by omega), fun y => skp (fun w => w.2 (by omega)), fun y => ?_⟩⟩
      refine m_comes hs9 (by omega) (fun x x0 x1 => ?_) (i32 (by omega)) (i32 (by omega)) (fun M2 f2 s2 => kV_mk (hn9 (by omega) M2 (hN.tr f2) ?_))
      · obtain ⟨u, u1, -, u3, u4⟩ := foldL_mem _ x x0 x1
        rw [u3, u4]
        have := (hI.2.2 (u : Int) s (by omega) (by omega) y'.1 (by omega)).2
        exact ⟨i32 (by omega), i32 (by omega)⟩
      · rw [foldL_step q1, if_pos (by simp only [decide_eq_true_eq]; exact ⟨z, by omega⟩)]
        exact s2)
    exact gen (Int.le_refl _) _ c1 c2
theorem p_leastVehicles (hL : M 1 0 = L) (hw : WFn L) {v : Int} (hvi : I32 v) (k : ∀ r, (v = 0 → ∃ x, LV (fun r c => - wMP L (r - 1) (c - 1)) (L 6 4) x ∧ r = actv L + x) → (v ≠ 0 → r = byW L) → RdP M K X 0 [iv r] eIA eIA) : Call G 5 0 zX11_leastVehicles [rr G 0 0 0, iv v] M K X := by
  obtain ⟨ht, hm, hv, hb⟩ := hw
  refine bX11_leastVehicles ⟨hvi, fun z => ?_, fun z => ?_⟩
  · refine sp_activeCount (by omega) (by omega) (by rw [hL]; exact ht) (kI_mk (sp_mostPairs (by omega) (by omega) hL ht hm (fun M' x f l => kI_mk ?_)))
    rw [hL, show actv L - -x = actv L + x by omega]
    have f' : SC M M' := fun a b p q => funext fun c => f a b c (fun z => by omega)
    exact ((k (actv L + x) (fun _ => ⟨x, l, rfl⟩) (fun y => absurd z y)).at f').k0
  · refine sp_vehiclesByWaiting (by omega) (by omega) hL ht hm (fun M' f => kI_mk ?_)
    have f' : SC M M' := fun a b p q => f a b (fun z => by omega) (fun z => by omega)
    exact ((k (byW L) (fun y => absurd y z) (fun _ => rfl)).at f').k0
theorem q_leastVehicles (hR : RG (M 8 0 1) L) (hw : WFn L) {v : Int} (hvi : I32 v) (k : ∀ r, (v = 0 → ∃ W, OPT (wMP L) (L 6 4) W ∧ r = actv L - W) → (v ≠ 0 → r = byW L) → RdM M K 0 (iv r) (iv 0)) : Call G 42 0 zX12_leastVehicles [rr G 8 0 0, iv v] M K X := by
  obtain ⟨ht, hm, hv, hb⟩ := hw
  have hR' : RG (wr M 8 0 0 7 0 8 0 1) L := by rw [thr_g]; exact hR
  refine bX12_leastVehicles ⟨hvi, fun z => ?_, fun z => ?_⟩
  · refine m_byMatching hR' ht hm (fun M' W f o => kI_mk ?_)
    have e7 : M' 8 0 0 7 = 0 := (f 8 0 0 7 (by omega)).trans (wr_at _ _ _ _ _ _)
    exact ((k _ (fun _ => ⟨W, o, rfl⟩) (fun y => absurd z y)).at ((fz7 M 0).tr (f.mono (fun c k q => Or.inl (by omega))))).k0 e7
  · refine m_byWaiting hR' ht hm (fun M1 M' f1 f2 => kI_mk ?_)
    have e7 : M' 8 0 0 7 = 0 := (f2 8 0 0 7 (by omega)).trans ((f1 8 0 0 7 (by omega)).trans (wr_at _ _ _ _ _ _))
    exact ((k _ (fun y => absurd y z) (fun _ => rfl)).at (((fz7 M 0).tr f1.z).tr (f2.mono (fun c k q => Or.inl (by omega))))).k0 e7
theorem p_leastCost (hL : M 1 0 = L) (hw : WFn L) {v : Int} (hvi : I32 v) (k : ∀ c r, (¬ (0 ≤ v ∧ v ≤ 1000) → c = 1) → (0 ≤ v ∧ v ≤ 1000 → c = 0 ∧ ∃ x, LV (fun r c => - wLC L v (r - 1) (c - 1)) (L 6 4) x ∧ r = v * actv L + x) → RdP M K X c [iv r] eIA eIA) : Call G 8 1 zX11_leastCost [rr G 0 0 0, iv v] M K X := by
  obtain ⟨ht, hm, hv, hb⟩ := hw
  refine bX11_leastCost (sp_isFromTo hvi (i32 (by omega)) (i32 (by omega)) (kI_mk ⟨b2i_i32 _, fun z => ?_, fun z => ?_⟩))
  · have z' := nb z
    refine sp_leastCostAt (by omega) (by omega) hL ht hm z'.1 z'.2 (fun M' x f l => kI_mk ?_)
    have f' : SC M M' := fun a b p q => funext fun c => f a b c (fun z => by omega)
    exact ((k 0 (v * actv L + x) (fun u => absurd z' u) (fun _ => ⟨rfl, x, l, rfl⟩)).at f').k0
  · exact (k 1 0 (fun _ => rfl) (fun u => absurd u (b2i_0.mp z))).k1
theorem q_leastCost (hR : RG (M 8 0 1) L) (hw : WFn L) {v : Int} (hvi : I32 v) (k : ∀ c r, (¬ (0 ≤ v ∧ v ≤ 1000) → c = 1) → (0 ≤ v ∧ v ≤ 1000 → c = 0 ∧ ∃ W, OPT (wLC L v) (L 6 4) W ∧ r = v * actv L - W) → RdM M K c (iv r) (iv 0)) : Call G 5 0 zX12_leastCost [rr G 8 0 0, iv v] M K X := by
  obtain ⟨ht, hm, hv, hb⟩ := hw
  by_cases z : 0 ≤ v ∧ v ≤ 1000
  · refine m_leastCost hR ht hm hvi (fun u => absurd z u) (fun _ M' W f o => ?_)
    have e7 : M' 8 0 0 7 = 0 := (f 8 0 0 7 (by omega)).trans (wr_at _ _ _ _ _ _)
    exact ((k 0 _ (fun u => absurd z u) (fun _ => ⟨rfl, W, o, rfl⟩)).at ((fz7 M 0).tr (f.mono (fun c k q => Or.inl (by omega))))).k0 e7
  · refine m_leastCost hR ht hm hvi (fun _ => ?_) (fun u => absurd u z)
    exact (k 1 0 (fun _ => rfl) (fun u => absurd u z)).kE (by decide)
end Pr2
