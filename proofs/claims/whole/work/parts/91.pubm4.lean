/-! ===== exchange ===== -/
theorem joinL_nc {L N : LFn} {v st w fr c : Int} (h1 : c ≠ 13) (h2 : c ≠ 15 + v) : joinL L N v st w fr c = L c := by
  unfold joinL
  rw [up1_nc h1, upr_ne h2]
theorem joinL_13 {L N : LFn} {v st w fr x : Int} (v0 : 0 ≤ v) : joinL L N v st w fr 13 x = if x = v then st + (N 13 w - fr) else L 13 x := by
  unfold joinL
  by_cases h : x = v
  · rw [if_pos h, h, up1_at]
  · rw [if_neg h, up1_nk h, upr_ne (by omega)]
theorem joinL_row {L N : LFn} {v st w fr x : Int} (v0 : 0 ≤ v) (x0 : 0 ≤ x) : joinL L N v st w fr (15 + x) = if x = v then tkF (L (15 + v)) (N (15 + w)) st fr (N 13 w - fr) else L (15 + x) := by
  unfold joinL
  rw [up1_nc (by omega)]
  by_cases h : x = v
  · rw [if_pos h, h, upr_at]
  · rw [if_neg h, upr_ne (by omega)]
theorem LEq.join {L N Q : LFn} (h : LEq N L) {v st w fr : Int} (v0 : 0 ≤ v) : LEq (joinL N Q v st w fr) (joinL L Q v st w fr) := by
  obtain ⟨a1, a2, a3, a4, a5, a6, a7, a8, a9⟩ := h
  have l : ∀ c, c < 13 ∨ 24 < c → v < 10 → joinL N Q v st w fr c = N c ∧ joinL L Q v st w fr c = L c := fun c hc hv => ⟨joinL_nc (by omega) (by omega), joinL_nc (by omega) (by omega)⟩
  have l' : ∀ c, c < 13 → joinL N Q v st w fr c = N c ∧ joinL L Q v st w fr c = L c := fun c hc => ⟨joinL_nc (by omega) (by omega), joinL_nc (by omega) (by omega)⟩
  have lb : ∀ c, 24 < c → c < 29 → c ≠ 15 + v → joinL N Q v st w fr c = N c ∧ joinL L Q v st w fr c = L c := fun c _ _ hc => ⟨joinL_nc (by omega) hc, joinL_nc (by omega) hc⟩
  have tk : ∀ k, N (15 + v) k = L (15 + v) k → tkF (N (15 + v)) (Q (15 + w)) st fr (Q 13 w - fr) k = tkF (L (15 + v)) (Q (15 + w)) st fr (Q 13 w - fr) k := fun k hk => by
    unfold tkF
    rw [hk]
  have row : ∀ c, 24 < c → c < 29 → ∀ k, N c k = L c k → joinL N Q v st w fr c k = joinL L Q v st w fr c k := fun c c0 c1 k hk => by
    by_cases hc : c = 15 + v
    · subst hc
      rw [joinL_row v0 v0, joinL_row v0 v0, if_pos rfl, if_pos rfl]
      exact tk k hk
    · rw [(lb c c0 c1 hc).1, (lb c c0 c1 hc).2]; exact hk
  refine ⟨?_, ?_, ?_, ?_, ?_, ?_, fun x x0 x1 => ?_, ?_, fun b b0 b1 => ?_⟩
  · rw [(l' 2 (by omega)).1, (l' 2 (by omega)).2, (l' 3 (by omega)).1, (l' 3 (by omega)).2]; exact a1
  · rw [(l' 4 (by omega)).1, (l' 4 (by omega)).2]; exact a2
  · rw [(l' 5 (by omega)).1, (l' 5 (by omega)).2]; exact a3
  · rw [(l' 6 (by omega)).1, (l' 6 (by omega)).2]; exact a4
  · rw [(l' 7 (by omega)).1, (l' 7 (by omega)).2, (l' 8 (by omega)).1, (l' 8 (by omega)).2, (l' 9 (by omega)).1, (l' 9 (by omega)).2, (l' 10 (by omega)).1, (l' 10 (by omega)).2]; exact a5
  · rw [(l' 11 (by omega)).1, (l' 11 (by omega)).2]; exact a6
  · obtain ⟨b1, b2, b3⟩ := a7 x x0 x1
    rw [(l' 12 (by omega)).1, (l' 12 (by omega)).2, joinL_13 v0, joinL_13 v0, b2]
    refine ⟨b1, rfl, fun p p0 p1 => ?_⟩
    rw [joinL_row v0 x0, joinL_row v0 x0]
    by_cases h : x = v
    · subst h
      rw [if_pos rfl, if_pos rfl]
      exact tk p (b3 p p0 p1)
    · rw [if_neg h, if_neg h]; exact b3 p p0 p1
  · exact row 25 (by omega) (by omega) 3 a8
  · obtain ⟨c1, c2, c3⟩ := a9 b b0 b1
    exact ⟨row 26 (by omega) (by omega) b c1, row 27 (by omega) (by omega) b c2, row 28 (by omega) (by omega) b c3⟩
theorem WFn.join {L N : LFn} (hw : WFn L) (hN : WFn N) (e6 : N 6 4 = L 6 4) (e11 : N 11 3 = L 11 3) {v st w fr : Int} (v0 : 0 ≤ v) (v1 : v < L 11 3) (w0 : 0 ≤ w) (w1 : w < L 11 3) (s0 : 0 ≤ st) (s1 : st ≤ L 13 v) (f0 : 0 ≤ fr) (f1 : fr ≤ N 13 w) (hl : st + (N 13 w - fr) ≤ 30) : WFn (joinL L N v st w fr) := by
  obtain ⟨ht, hm, hv, hb⟩ := hw
  have nv := hv.1
  have l : ∀ c, c < 13 ∨ 24 < c → joinL L N v st w fr c = L c := fun c hc => joinL_nc (by omega) (by omega)
  refine ⟨?_, ?_, ⟨by rw [l 11 (by omega)]; exact nv, fun x x0 x1 => ?_⟩, ?_⟩
  · unfold WFt
    rw [l 6 (by omega), l 7 (by omega), l 8 (by omega), l 9 (by omega), l 10 (by omega)]; exact ht
  · unfold WFm
    rw [l 2 (by omega), l 3 (by omega), l 4 (by omega), l 5 (by omega)]; exact hm
  · rw [l 11 (by omega)] at x1
    obtain ⟨b1, b2, b3, b4, b5⟩ := hv.2 x x0 x1
    rw [l 12 (by omega), l 6 (by omega), joinL_13 v0, joinL_row v0 x0]
    by_cases h : x = v
    · subst h
      rw [if_pos rfl, if_pos rfl]
      refine ⟨b1, b2, by omega, hl, fun p p0 p1 => ?_⟩
      unfold tkF
      split
      · have := (hN.2.2.1.2 w w0 (by omega)).2.2.2.2 (fr + (p - st)) (by omega) (by omega)
        rw [e6] at this
        exact this
      · exact b5 p p0 (by omega)
    · rw [if_neg h, if_neg h]
      exact ⟨b1, b2, b3, b4, b5⟩
  · unfold WFb
    rw [l 25 (by omega), l 26 (by omega), l 27 (by omega), l 28 (by omega)]; exact hb
def exL1 (L : LFn) (v w m : Int) : LFn := joinL L L v (tbf L m v) w (tbf L m w)
def excL (L : LFn) (v w m : Int) : LFn := joinL (exL1 L v w m) L w (tbf L m w) v (tbf L m v)
def qExc (L : LFn) (v w m : Int) : Int := if ¬ (0 ≤ v ∧ v < L 11 3) then 1 else if ¬ (0 ≤ w ∧ w < L 11 3) then 1 else if v = w then 2 else if sndA (excL L v w m) = 0 then 3 else 0
theorem exc_wfn {L : LFn} (hw : WFn L) (hU : Uni L) {v w m : Int} (v0 : 0 ≤ v) (v1 : v < L 11 3) (w0 : 0 ≤ w) (w1 : w < L 11 3) (hne : v ≠ w) : WFn (exL1 L v w m) ∧ WFn (excL L v w m) := by
  have hr := roomC hU hw v0 v1 w0 w1 hne
  have nt := hw.1.1
  have bv := tbf_bd (L := L) (m := m) (v := v) (hw.2.2.1.2 v v0 v1).2.2.1
  have bw := tbf_bd (L := L) (m := m) (v := w) (hw.2.2.1.2 w w0 w1).2.2.1
  have nv := hw.2.2.1.1
  have h1 : WFn (exL1 L v w m) := hw.join hw rfl rfl v0 v1 w0 w1 bv.1 bv.2 bw.1 bw.2 (by omega)
  have l : ∀ c, c < 13 → exL1 L v w m c = L c := fun c hc => joinL_nc (by omega) (by omega)
  refine ⟨h1, h1.join hw (by rw [l 6 (by omega)]) (by rw [l 11 (by omega)]) w0 (by rw [l 11 (by omega)]; exact w1) v0 (by rw [l 11 (by omega)]; exact v1) bw.1 ?_ bv.1 bv.2 (by omega)⟩
  unfold exL1
  rw [joinL_13 v0, if_neg (fun z => hne z.symm)]
  exact bw.2
section Pm4
variable {G : GT} {K : List Value → Mem → Prop} {X : String → Mem → Prop} {M : Mem} {L : LFn} {n : Int} {H : Int → LFn}
theorem p_exchange (hL : M 1 0 = L) (hw : WFn L) (hz : BZ L) (hH : HI M) (hU : Uni L) {v w m : Int} (hvi : I32 v) (hwi : I32 w) (hmi : I32 m) (k : ChgP M K X L (qExc L v w m) (excL L v w m) (((L 13 v - tbf L m v) + L 13 w) - tbf L m w) eIX eIA eIS) : Call G 9 3 zX11_exchange [rr G 0 0 0, iv v, iv w, iv m] M K X := by
  have hw' := hw
  obtain ⟨ht, hm, hv, hbk⟩ := hw
  have nv := hv.1
  have nt := ht.1
  unfold qExc at k
  refine bX11_exchange ?_
  rw [hL]
  refine sp_requireIndex hvi (i32 (by omega)) (fun z => kV_mk ?_) (fun z => ?_)
  · rw [if_neg (fun q => q z)] at k
    rw [hL]
    refine sp_requireIndex hwi (i32 (by omega)) (fun y => kV_mk ?_) (fun y => ?_)
    · rw [if_neg (fun q => q y)] at k
      refine ⟨hvi, hwi, fun x => ?_, fun x => ?_⟩
      · rw [if_neg x] at k
        have hr := roomC hU hw' z.1 z.2 y.1 y.2 x
        have bv := tbf_bd (L := L) (m := m) (v := v) (hv.2 v z.1 z.2).2.2.1
        have bw := tbf_bd (L := L) (m := m) (v := w) (hv.2 w y.1 y.2).2.2.1
        have hvL : WFv (M 1 0) := by rw [hL]; exact hv
        have htL : WFt (M 1 0) := by rw [hL]; exact ht
        refine sp_tripsBefore (by omega) (by omega) hvL htL hmi z.1 (by rw [hL]; exact z.2) (kI_mk (sp_tripsBefore (by omega) (by omega) hvL htL hmi y.1 (by rw [hL]; exact y.2) (kI_mk ?_)))
        rw [hL]
        refine sp_lineCopy (by omega) (by omega) (by omega) (by omega) (by omega) (by rw [hL]; exact hz.1) (by rw [hL]; exact hz.2) (fun M1 f1 l1 => kV_mk ?_)
        rw [hL] at l1
        have f1' : FrL 1 M M1 := f1
        have e10 : M1 1 0 = L := (f1'.ne (Or.inr (by decide))).trans hL
        refine sp_join (i := 1) (j := 0) (by omega) (by omega) (by omega) (by omega) (by omega) z.1 (by omega) y.1 (by omega) bw.1 (by rw [e10]; exact bw.2) (by rw [e10]; omega) bv.1 (by rw [e10]; omega) (fun M2 f2 e2 => kV_mk ?_)
        rw [e10] at e2
        have e20 : M2 1 0 = L := (f2.ne (Or.inr (by decide))).trans e10
        refine sp_join (i := 1) (j := 0) (by omega) (by omega) (by omega) (by omega) (by omega) y.1 (by omega) z.1 (by omega) bv.1 (by rw [e20]; exact bv.2) (by rw [e20]; omega) bw.1 (by rw [e20]; omega) (fun M3 f3 e3 => kV_mk ?_)
        rw [e20, e2] at e3
        have f9 : FrL 1 M M3 := (f1'.tr f2).tr f3
        have e30 : M3 1 0 = L := (f9.ne (Or.inr (by decide))).trans hL
        have l3 : LEq (M3 1 1) (excL L v w m) := by
          rw [e3]
          exact (l1.join z.1).join y.1
        obtain ⟨hwa, hwb⟩ := exc_wfn (m := m) hw' hU z.1 z.2 y.1 y.2 x
        have hw3 := l3.wfn hwb
        refine sp_areDutiesSound (by omega) (by omega) hw3.2.2.1 hw3.1 hw3.2.1 (kI_mk ?_)
        rw [sndA_leq l3 hwb, e30]
        have h01 : sndA (excL L v w m) = 0 ∨ sndA (excL L v w m) = 1 := allT_01 _ _ _
        refine ⟨i32 (by omega), fun u => ⟨z.1, by omega, y.1, by omega, sp_adopt hL hz hH f9 l3 (hz.of ?_ ?_) (fun M' c => kV_mk ?_)⟩, fun u => ?_⟩
        · unfold excL exL1
          rw [joinL_nc (by omega) (by omega), joinL_nc (by omega) (by omega)]
        · unfold excL exL1
          rw [joinL_nc (by omega) (by omega), joinL_nc (by omega) (by omega)]
        · rw [if_neg u] at k; exact k.1 rfl M' c
        · rw [if_pos u] at k; exact (k.2 _ (SD.of f9)).2.2 rfl
      · rw [if_pos x] at k; exact k.k2
    · rw [if_pos y] at k; exact k.k1
  · rw [if_pos z] at k; exact k.k1
theorem q_exchange (hR : RG (M 8 0 1) L) (hw : WFn L) (hP : Pas M n H) (hwH : ∀ r, 0 ≤ r → r < n → WFn (H r)) (hU : Uni L) {v w m : Int} (hvi : I32 v) (hwi : I32 w) (hmi : I32 m) (k : ChgM M K n H L (qExc L v w m) (excL L v w m) (((L 13 v - tbf L m v) + L 13 w) - tbf L m w)) : Call G 5 0 zX12_exchange [rr G 8 0 0, iv v, iv w, iv m] M K X := by
  have hw' := hw
  obtain ⟨ht, hm, hv, hbk⟩ := hw
  have nv := hv.1
  have nt := ht.1
  unfold qExc at k
  refine bX12_exchange (m_isVehicle hR hv hvi (kI_mk ⟨b2i_i32 _, fun z => ?_, fun z => m_isVehicle hR hv hwi (kI_mk ⟨b2i_i32 _, fun y => ?_, fun y => ⟨hvi, hwi, fun x => ?_, fun x => ?_⟩⟩)⟩))
  · rw [if_pos (b2i_0.mp z)] at k; exact k.kE (by decide) hR
  · rw [if_neg (fun q => q (nb z)), if_pos (b2i_0.mp y)] at k; exact k.kE (by decide) hR
  · have z' := nb z
    have y' := nb y
    rw [if_neg (fun q => q z'), if_neg (fun q => q y'), if_neg x] at k
    have hr := roomC hU hw' z'.1 z'.2 y'.1 y'.2 x
    obtain ⟨c1, c2, c3, c4, c5⟩ := hv.2 v z'.1 z'.2
    obtain ⟨d1, d2, d3, d4, d5⟩ := hv.2 w y'.1 y'.2
    have bv := tbf_bd (L := L) (m := m) (v := v) c3
    have bw := tbf_bd (L := L) (m := m) (v := w) d3
    have sv := skip_sp (p := fun p => decide (L 9 (L (15 + v) p) < m)) c3
    have sw := skip_sp (p := fun p => decide (L 9 (L (15 + w) p) < m)) d3
    obtain ⟨hwa, hwb⟩ := exc_wfn (m := m) hw' hU z'.1 z'.2 y'.1 y'.2 x
    have sv' : (∀ x, 0 ≤ x → x < tbf L m v → L 9 (L (15 + v) x) < m) ∧ (tbf L m v < L 13 v → ¬ L 9 (L (15 + v) (tbf L m v)) < m) := ⟨fun x x0 x1 => of_decide_eq_true (sv.1 x x0 x1), fun q => of_decide_eq_false (sv.2 q)⟩
    have sw' : (∀ x, 0 ≤ x → x < tbf L m w → L 9 (L (15 + w) x) < m) ∧ (tbf L m w < L 13 w → ¬ L 9 (L (15 + w) (tbf L m w)) < m) := ⟨fun x x0 x1 => of_decide_eq_true (sw.1 x x0 x1), fun q => of_decide_eq_false (sw.2 q)⟩
    clear sv sw
    refine m_begins (by rw [thr_g]; exact hR) hw' (fun M1 f1 s1 => kV_mk ?_)
    have g1 : M1 8 0 1 = M 8 0 1 := (f1 8 0 1 (by omega)).trans (thr_g M 0)
    have hR1 : RG (M1 8 0 1) L := by rw [g1]; exact hR
    have h7v := hR1.2.2.2.2.2.2.1 v z'.1 z'.2
    have h7w := hR1.2.2.2.2.2.2.1 w y'.1 y'.2
    -- what the two lines are
    have exd : excL L v w m = joinL (joinL L L v (tbf L m v) w (tbf L m w)) L w (tbf L m w) v (tbf L m v) := rfl
    have e1d : exL1 L v w m = joinL L L v (tbf L m v) w (tbf L m w) := rfl
    rw [e1d] at hwa
    rw [exd] at hwb k
    generalize tbf L m v = p1 at *
    generalize tbf L m w = p2 at *
    generalize hl1 : L 13 v = n1 at *
    generalize hl2 : L 13 w = n2 at *
    -- the end: the rows stand
    have fin : ∀ N : Mem, FrX (fun c k => P1 c k ∨ c = 7) M1 N →
        (∀ y, 0 ≤ y → y < n2 - p2 → N 8 0 1 (181 + 30 * v + p1 + y) = L (15 + w) (p2 + y)) → (∀ y, 0 ≤ y → y < n1 - p1 → N 8 0 1 (181 + 30 * w + p2 + y) = L (15 + v) (p1 + y)) →
        (∀ y, ¬ (181 + 30 * v + p1 ≤ y ∧ y < 181 + 30 * v + p1 + (n2 - p2)) → ¬ (181 + 30 * w + p2 ≤ y ∧ y < 181 + 30 * w + p2 + (n1 - p1)) → N 8 0 1 y = M1 8 0 1 y) →
        eX12_exchange G K X 236 [(0, rr G 8 0 0), (1, iv v), (2, iv w), (4, iv p1), (5, iv p2), (6, iv (n1 - p1)), (7, iv (n2 - p2)), (8, iv (n1 - p1))] [] N := by
      intro N fN rv rw9 ro
      refine bX12_exchange_236 ⟨i32 (by omega), i32 (by omega), fun _ => ⟨by omega, by omega, by omega, by omega, fun M14 e14 => ?_⟩, fun q => absurd q (by omega)⟩
      have g14 : ∀ y, M14 8 0 1 y = if y = 171 + w then p2 + (n1 - p1) else if y = 171 + v then p1 + (n2 - p2) else N 8 0 1 y := fun y => by
        rw [e14]
        by_cases h1 : y = 171 + w
        · rw [if_pos h1, h1, wr_at]
        · rw [if_neg h1, wr_nk h1]
          by_cases h2 : y = 171 + v
          · rw [if_pos h2, h2, wr_at]
          · rw [if_neg h2, wr_nk h2]
      have r1 : RG (fun y => if y = 171 + v ∨ (181 + 30 * v ≤ y ∧ y < 181 + 30 * v + 30) then M14 8 0 1 y else M1 8 0 1 y) (joinL L L v p1 w p2) := by
        refine RG_duty hR1 hv ht hbk z'.1 z'.2 (fun y hy => if_neg (by omega)) (fun c q1 q2 => joinL_nc q1 q2) (fun u hu => by rw [joinL_13 z'.1, if_neg hu]) ?_ (fun p p0 q1 => ?_)
        · show (if _ then _ else _) = _
          rw [if_pos (Or.inl rfl), g14, if_neg (by omega), if_pos rfl, joinL_13 z'.1, if_pos rfl, hl2]
        · rw [joinL_13 z'.1, if_pos rfl, hl2] at q1
          show (if _ then _ else _) = _
          rw [if_pos (Or.inr (by omega)), g14, if_neg (by omega), if_neg (by omega), joinL_row z'.1 z'.1, if_pos rfl, hl2]
          unfold tkF
          by_cases hp : p1 ≤ p ∧ p < p1 + (n2 - p2)
          · rw [if_pos hp]
            have := rv (p - p1) (by omega) (by omega)
            rw [show 181 + 30 * v + p1 + (p - p1) = 181 + 30 * v + p by omega] at this
            exact this
          · rw [if_neg hp, ro _ (by omega) (by omega)]
            exact h7v.2.2 p p0 (by omega)
      have r2 : RG (M14 8 0 1) (joinL (joinL L L v p1 w p2) L w p2 v p1) := by
        have l : ∀ c, c < 13 → joinL L L v p1 w p2 c = L c := fun c hc => joinL_nc (by omega) (by omega)
        refine RG_duty r1 hwa.2.2.1 hwa.1 hwa.2.2.2 y'.1 (by rw [l 11 (by omega)]; exact y'.2) (fun y hy => ?_) (fun c q1 q2 => joinL_nc q1 q2) (fun u hu => by rw [joinL_13 y'.1, if_neg hu]) ?_ (fun p p0 q1 => ?_)
        · show _ = (if _ then _ else _)
          by_cases hq : y = 171 + v ∨ (181 + 30 * v ≤ y ∧ y < 181 + 30 * v + 30)
          · rw [if_pos hq]
          · rw [if_neg hq, g14, if_neg (by omega), if_neg (by omega)]
            exact ro y (by omega) (by omega)
        · rw [g14, if_pos rfl, joinL_13 y'.1, if_pos rfl, hl1]
        · rw [joinL_13 y'.1, if_pos rfl, hl1] at q1
          rw [g14, if_neg (by omega), if_neg (by omega), joinL_row y'.1 y'.1, if_pos rfl, hl1]
          unfold tkF
          by_cases hp : p2 ≤ p ∧ p < p2 + (n1 - p1)
          · rw [if_pos hp]
            have := rw9 (p - p2) (by omega) (by omega)
            rw [show 181 + 30 * w + p2 + (p - p2) = 181 + 30 * w + p by omega] at this
            exact this
          · rw [if_neg hp, ro _ (by omega) (by omega), joinL_row z'.1 y'.1, if_neg (fun q => x q.symm)]
            exact h7w.2.2 p p0 (by omega)
      have f14 : FrX (fun c k => P1 c k ∨ c = 7) M1 M14 := by
        rw [e14]
        exact FrX.wr (FrX.wr fN (Or.inl rfl) _) (Or.inl rfl) _
      refine m_tryStands hP hw' hwH f1 s1 f14 r2 hwb (fun u M' f e r p => kI_mk ⟨i32 (by omega), fun q => absurd q (by decide), fun _ => ?_⟩) (fun u M' f e r => kI_mk ⟨i32 (by omega), fun _ => bX12_fails (kI_mk ?_), fun q => absurd rfl q⟩)
      · rw [if_neg u] at k
        rw [show n1 - p1 + (n2 - p2) = n1 - p1 + n2 - p2 by omega]
        exact (k M' e).1 rfl f r p
      · rw [if_pos u] at k
        exact (k _ (wr_at _ _ _ _ _ _)).2 (by decide) (FrX.wr f (show PF2 0 7 from Or.inr (Or.inr (Or.inr ⟨rfl, Or.inl rfl⟩))) 3) (by rw [thr_g]; exact r)
    -- v's tail kept aside
    have stage1 : eX12_exchange G K X 158 [(0, rr G 8 0 0), (1, iv v), (2, iv w), (4, iv p1), (5, iv p2), (6, iv (n1 - p1)), (7, iv (n2 - p2)), (8, iv 0)] [] M1 := by
      refine loop_up (E := fun x => 0 ≤ x → ∀ N : Mem, FrX (fun c k => P1 c k ∨ c = 7) M1 N → N 8 0 1 = M1 8 0 1 → (∀ y, 0 ≤ y → y < x → N 8 0 7 y = L (15 + v) (p1 + y)) → eX12_exchange G K X 158 [(0, rr G 8 0 0), (1, iv v), (2, iv w), (4, iv p1), (5, iv p2), (6, iv (n1 - p1)), (7, iv (n2 - p2)), (8, iv x)] [] N) (a := 0) (b := n1 - p1) (by omega) (fun _ N fN gN hN => ?_) (fun x9 q1 q2 hn9 _ N fN gN hN => ?_) (Int.le_refl _) M1 FrX.rf rfl (fun y y0 y1 => by omega)
      · refine bX12_exchange_158 ⟨i32 (by omega), i32 (by omega), fun _ => ?_, fun q => absurd q (by omega)⟩
        -- w's tail behind v's head
        refine loop_up (E := fun x => 0 ≤ x → ∀ N : Mem, FrX (fun c k => P1 c k ∨ c = 7) M1 N → (∀ y, 0 ≤ y → y < n1 - p1 → N 8 0 7 y = L (15 + v) (p1 + y)) → (∀ y, 0 ≤ y → y < x → N 8 0 1 (181 + 30 * v + p1 + y) = L (15 + w) (p2 + y)) → (∀ y, ¬ (181 + 30 * v + p1 ≤ y ∧ y < 181 + 30 * v + p1 + x) → N 8 0 1 y = M1 8 0 1 y) → eX12_exchange G K X 191 [(0, rr G 8 0 0), (1, iv v), (2, iv w), (4, iv p1), (5, iv p2), (6, iv (n1 - p1)), (7, iv (n2 - p2)), (8, iv x)] [] N) (a := 0) (b := n2 - p2) (by omega) (fun _ N fN hN rN oN => ?_) (fun x9 q1 q2 hn9 _ N fN hN rN oN => ?_) (Int.le_refl _) N fN hN (fun y y0 y1 => by omega) (fun y _ => by rw [gN])
        · refine bX12_exchange_191 ⟨i32 (by omega), i32 (by omega), fun _ => ?_, fun q => absurd q (by omega)⟩
          -- v's tail behind w's head
          refine loop_up (E := fun x => 0 ≤ x → ∀ N : Mem, FrX (fun c k => P1 c k ∨ c = 7) M1 N → (∀ y, 0 ≤ y → y < n1 - p1 → N 8 0 7 y = L (15 + v) (p1 + y)) → (∀ y, 0 ≤ y → y < n2 - p2 → N 8 0 1 (181 + 30 * v + p1 + y) = L (15 + w) (p2 + y)) → (∀ y, 0 ≤ y → y < x → N 8 0 1 (181 + 30 * w + p2 + y) = L (15 + v) (p1 + y)) → (∀ y, ¬ (181 + 30 * v + p1 ≤ y ∧ y < 181 + 30 * v + p1 + (n2 - p2)) → ¬ (181 + 30 * w + p2 ≤ y ∧ y < 181 + 30 * w + p2 + x) → N 8 0 1 y = M1 8 0 1 y) → eX12_exchange G K X 236 [(0, rr G 8 0 0), (1, iv v), (2, iv w), (4, iv p1), (5, iv p2), (6, iv (n1 - p1)), (7, iv (n2 - p2)), (8, iv x)] [] N) (a := 0) (b := n1 - p1) (by omega) (fun _ N fN _ rN r2N oN => fin N fN rN r2N oN) (fun x9 q1 q2 hn9 _ N fN hN rN r2N oN => ?_) (Int.le_refl _) N fN hN rN (fun y y0 y1 => by omega) (fun y h1 _ => oN y h1)
          refine bX12_exchange_236 ⟨i32 (by omega), i32 (by omega), fun q => absurd q2 q, fun _ => ⟨by omega, by omega, by omega, by omega, ?_⟩⟩
          rw [hN x9 q1 q2]
          refine hn9 (by omega) _ (FrX.wr fN (Or.inl rfl) _) (fun y y0 y1 => by rw [wr_nc (by omega)]; exact hN y y0 y1) (fun y y0 y1 => by rw [wr_nk (by omega)]; exact rN y y0 y1) (fun y y0 y1 => ?_) (fun y h1 h2 => by rw [wr_nk (by omega)]; exact oN y h1 (by omega))
          by_cases e : y = x9
          · rw [e, wr_at]
          · rw [wr_nk (by omega)]; exact r2N y y0 (by omega)
        · have hd := h7w.2.2 (p2 + x9) (by omega) (by omega)
          refine bX12_exchange_191 ⟨i32 (by omega), i32 (by omega), fun q => absurd q2 q, fun _ => bX12_dutyAt ⟨by omega, by omega, kI_mk ⟨by omega, by omega, ?_⟩⟩⟩
          rw [oN _ (by omega), hd]
          refine hn9 (by omega) _ (FrX.wr fN (Or.inl rfl) _) (fun y y0 y1 => by rw [wr_nc (by omega)]; exact hN y y0 y1) (fun y y0 y1 => ?_) (fun y h1 => by rw [wr_nk (by omega)]; exact oN y (by omega))
          by_cases e : y = x9
          · rw [e, wr_at]
          · rw [wr_nk (by omega)]; exact rN y y0 (by omega)
      · have hd := h7v.2.2 (p1 + x9) (by omega) (by omega)
        refine bX12_exchange_158 ⟨i32 (by omega), i32 (by omega), fun q => absurd q2 q, fun _ => bX12_dutyAt ⟨by omega, by omega, kI_mk ⟨by omega, by omega, ?_⟩⟩⟩
        rw [gN, hd]
        refine hn9 (by omega) _ (FrX.wr fN (Or.inr rfl) _) (by rw [wr_nc (by omega)]; exact gN) (fun y y0 y1 => ?_)
        by_cases e : y = x9
        · rw [e, wr_at]
        · rw [wr_nk e]; exact hN y y0 (by omega)
    -- the places
    refine loop_up (E := fun x => 0 ≤ x → eX12_exchange G K X 50 [(0, rr G 8 0 0), (1, iv v), (2, iv w), (3, iv m), (4, iv x)] [] M1) (a := 0) (b := p1) bv.1 (fun _ => ?_) (fun x9 q1 q2 hn9 _ => ?_) (Int.le_refl _)
    · have go : eX12_exchange G K X 89 [(0, rr G 8 0 0), (1, iv v), (2, iv w), (3, iv m), (4, iv p1), (5, iv 0)] [] M1 := by
        refine loop_up (E := fun x => 0 ≤ x → eX12_exchange G K X 89 [(0, rr G 8 0 0), (1, iv v), (2, iv w), (3, iv m), (4, iv p1), (5, iv x)] [] M1) (a := 0) (b := p2) bw.1 (fun _ => ?_) (fun x9 q1 q2 hn9 _ => ?_) (Int.le_refl _)
        · refine bX12_exchange_89 ?_
          rw [h7w.2.1, h7v.2.1]
          refine ⟨by omega, by omega, i32 (by omega), i32 (by omega), fun _ => ⟨by omega, by omega, stage1⟩, fun q => ?_⟩
          have hd := d5 p2 bw.1 q
          have h9 := ht.2 _ hd.1 hd.2
          refine m_dutyAt hR1 hv y'.1 y'.2 bw.1 (by omega) (kI_mk (m_departs hR1 ht hd.1 hd.2 (kI_mk ⟨i32 (by omega), hmi, fun _ => ⟨by omega, by omega, ?_⟩, fun u => absurd u (sw'.2 q)⟩)))
          rw [h7v.2.1, h7w.2.1]
          exact stage1
        · have hd := d5 x9 q1 (by omega)
          have h9 := ht.2 _ hd.1 hd.2
          refine bX12_exchange_89 ?_
          rw [h7w.2.1]
          exact ⟨by omega, by omega, i32 (by omega), i32 (by omega), fun q => absurd (show x9 < n2 by omega) q, fun _ => m_dutyAt hR1 hv y'.1 y'.2 q1 (by omega) (kI_mk (m_departs hR1 ht hd.1 hd.2 (kI_mk ⟨i32 (by omega), hmi, fun u => absurd (sw'.1 x9 q1 q2) u, fun _ => hn9 (by omega)⟩)))⟩
      refine bX12_exchange_50 ?_
      rw [h7v.2.1]
      refine ⟨by omega, by omega, i32 (by omega), i32 (by omega), fun _ => go, fun q => ?_⟩
      have hd := c5 p1 bv.1 q
      have h9 := ht.2 _ hd.1 hd.2
      exact m_dutyAt hR1 hv z'.1 z'.2 bv.1 (by omega) (kI_mk (m_departs hR1 ht hd.1 hd.2 (kI_mk ⟨i32 (by omega), hmi, fun _ => go, fun u => absurd u (sv'.2 q)⟩)))
    · have hd := c5 x9 q1 (by omega)
      have h9 := ht.2 _ hd.1 hd.2
      refine bX12_exchange_50 ?_
      rw [h7v.2.1]
      exact ⟨by omega, by omega, i32 (by omega), i32 (by omega), fun q => absurd (show x9 < n1 by omega) q, fun _ => m_dutyAt hR1 hv z'.1 z'.2 q1 (by omega) (kI_mk (m_departs hR1 ht hd.1 hd.2 (kI_mk ⟨i32 (by omega), hmi, fun u => absurd (sv'.1 x9 q1 q2) u, fun _ => hn9 (by omega)⟩)))⟩
  · rw [if_neg (fun q => q (nb z)), if_neg (fun q => q (nb y)), if_pos x] at k; exact k.kE (by decide) hR
end Pm4
