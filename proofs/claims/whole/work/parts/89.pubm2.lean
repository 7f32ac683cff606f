/-! ===== publics that change by the draft: setSection, set ===== -/
theorem LEq.tr {A B C : LFn} (h : LEq A B) (h2 : LEq B C) : LEq A C := by
  obtain ⟨a1, a2, a3, a4, a5, a6, a7, a8, a9⟩ := h
  obtain ⟨b1, b2, b3, b4, b5, b6, b7, b8, b9⟩ := h2
  refine ⟨fun k k0 k1 => ?_, fun k k0 k1 => (a2 k k0 k1).trans (b2 k k0 k1), fun k k0 k1 => (a3 k k0 k1).trans (b3 k k0 k1), a4.trans b4, fun t t0 t1 => ?_, a6.trans b6, fun v v0 v1 => ?_, a8.trans b8, fun b b0 b1' => ?_⟩
  · have x := a1 k k0 k1
    have y := b1 k k0 k1
    exact ⟨x.1.trans y.1, x.2.trans y.2⟩
  · have x := a5 t t0 t1
    have y := b5 t t0 t1
    exact ⟨x.1.trans y.1, x.2.1.trans y.2.1, x.2.2.1.trans y.2.2.1, x.2.2.2.trans y.2.2.2⟩
  · have x := a7 v v0 v1
    have y := b7 v v0 v1
    exact ⟨x.1.trans y.1, x.2.1.trans y.2.1, fun p p0 p1 => (x.2.2 p p0 p1).trans (y.2.2 p p0 p1)⟩
  · have x := a9 b b0 b1'
    have y := b9 b b0 b1'
    exact ⟨x.1.trans y.1, x.2.1.trans y.2.1, x.2.2.trans y.2.2⟩
theorem allT_congr {p q : Int → Bool} {k b : Int} (h : ∀ x, k ≤ x → x < b → p x = q x) : allT p k b = allT q k b := by
  unfold allT
  rw [srch_congr (q := fun x => !q x) (fun x x0 x1 => by rw [h x x0 x1])]
theorem btw_leq {L N : LFn} (h : LEq N L) {a b : Int} (a0 : 0 ≤ a) (a1 : a ≤ 11) (b0 : 0 ≤ b) (b1 : b ≤ 11) : btw N a b = btw L a b :=
  sumT_congr (fun x x0 x1 => (h.1 x (by omega) (by omega)).1)
theorem arr_leq {L N : LFn} (h : LEq N L) (hw : WFn L) {t : Int} (t0 : 0 ≤ t) (t1 : t < L 6 4) : arr N t = arr L t := by
  have nt := hw.1.1
  have h7 := hw.1.2 t t0 t1
  obtain ⟨e1, e2, e3, -⟩ := h.2.2.2.2.1 t t0 (by omega)
  unfold arr
  rw [e1, e2, e3, btw_leq h (by omega) (by omega) (by omega) (by omega)]
theorem sndD_leq {L N : LFn} (h : LEq N L) (hw : WFn L) {v : Int} (v0 : 0 ≤ v) (v1 : v < L 11 3) : sndD N v = sndD L v := by
  have nt := hw.1.1
  have nv := hw.2.2.1.1
  obtain ⟨b1, b2, b3, b4, b5⟩ := hw.2.2.1.2 v v0 v1
  obtain ⟨e1, e2, e3⟩ := h.2.2.2.2.2.2.1 v v0 (by omega)
  have tr : ∀ t, 0 ≤ t → t < L 6 4 → N 7 t = L 7 t ∧ N 8 t = L 8 t ∧ N 9 t = L 9 t := fun t t0 t1 => by
    obtain ⟨q1, q2, q3, -⟩ := h.2.2.2.2.1 t t0 (by omega)
    exact ⟨q1, q2, q3⟩
  have hh : hst N v = hst L v := by
    show (if N 12 v = 0 then 0 else 11) = (if L 12 v = 0 then 0 else 11)
    rw [e1]
  unfold sndD
  rw [e2, hh]
  have hall : allT (fun p => decide (fol N (N (15 + v) p) (N (15 + v) (p - 1)))) 1 (L 13 v) = allT (fun p => decide (fol L (L (15 + v) p) (L (15 + v) (p - 1)))) 1 (L 13 v) := by
    refine allT_congr (fun p p0 p1 => ?_)
    rw [e3 p (by omega) (by omega), e3 (p - 1) (by omega) (by omega)]
    have d1 := b5 p (by omega) p1
    have d2 := b5 (p - 1) (by omega) (by omega)
    have t1 := tr _ d1.1 d1.2
    have t2 := tr _ d2.1 d2.2
    have e5 := h.2.2.1 0 (by omega) (by omega)
    show decide (N 7 _ = N 8 _ ∧ arr N _ + N 5 0 ≤ N 9 _) = decide (L 7 _ = L 8 _ ∧ arr L _ + L 5 0 ≤ L 9 _)
    rw [t1.1, t2.2.1, t1.2.2, e5, arr_leq h hw d2.1 d2.2]
  rw [hall]
  by_cases hl : 0 < L 13 v
  · have d0 := b5 0 (by omega) hl
    rw [e3 0 (by omega) (by omega), (tr _ d0.1 d0.2).1]
  · rw [if_neg (fun q => hl q.1), if_neg (fun q => hl q.1)]
theorem sndA_leq {L N : LFn} (h : LEq N L) (hw : WFn L) : sndA N = sndA L := by
  unfold sndA
  rw [h.2.2.2.2.2.1]
  exact allT_congr (fun v v0 v1 => by rw [sndD_leq h hw v0 v1])
theorem Kept.pre {M M2 M4 : Mem} {L : LFn} (h : Kept M2 M4 L) (e2 : M2 2 = M 2) (e1 : ∀ b, b ≠ 1 → M2 1 b = M 1 b) (hH : HI M) : Kept M M4 L := by
  obtain ⟨q1, q2, q3, q4⟩ := h
  have kk : ∀ r, 0 ≤ r → r < 8 → kp M2 r = kp M r := fun r r0 r1 => by
    unfold kp
    rw [e2]
    have := hH.2.1 r r0 r1
    exact e1 _ (by omega)
  refine ⟨q1, by rw [q2, e2], ?_, q4⟩
  rw [e2] at q3
  have hs := hH.1
  rcases q3 with ⟨c1, c2, c3⟩ | ⟨c1, c2, c3⟩
  · exact Or.inl ⟨c1, c2, fun r r0 r1 => (c3 r r0 r1).trans (kk r r0 (by omega))⟩
  · exact Or.inr ⟨c1, c2, fun r r0 r1 => (c3 r r0 r1).trans (kk (r + 1) (by omega) (by omega))⟩
section Ad
variable {G : GT} {K : List Value → Mem → Prop} {X : String → Mem → Prop} {M M2 : Mem} {L L' : LFn} {n : Int} {H : Int → LFn}
/-- the draft becomes the line -/
theorem sp_adopt (hL : M 1 0 = L) (hz : BZ L) (hH : HI M) (f : FrL 1 M M2) (l : LEq (M2 1 1) L') (hz' : BZ L') (k : ∀ M', ChP M M' L L' → K [] M') : Call G 4 0 zX11_adoptDraft [rr G 0 0 0] M2 K X := by
  have e2 : M2 2 = M 2 := funext fun b => f.ne (Or.inl (by decide))
  have e1 : ∀ b, b ≠ 1 → M2 1 b = M 1 b := fun b hb => f.ne (Or.inr hb)
  have e10 : M2 1 0 = L := (e1 0 (by decide)).trans hL
  have hH2 : HI M2 := by unfold HI; rw [e2]; exact hH
  refine bX11_adoptDraft (sp_keep hH2 (by omega) (by omega) (by rw [e10]; exact hz) (fun M3 f3 kp3 => kV_mk ?_))
  rw [e10] at kp3
  have e31 : M3 1 1 = M2 1 1 := f3.2 1 (Or.inl (by omega)) (by omega)
  have hz3 : BZ (M3 1 1) := by rw [e31]; exact l.bz hz'
  refine sp_lineCopy (by omega) (by omega) (by omega) (by omega) (by omega) hz3.1 hz3.2 (fun M4 f4 l4 => kV_mk (k M4 ?_))
  have f4' : FrL 0 M3 M4 := f4
  rw [e31] at l4
  refine ⟨fun r i hr => (f4'.ne (Or.inl (by omega))).trans ((f3.1 r i (by omega) (by omega)).trans (f.ne (Or.inl (by omega)))), ?_, l4.tr l, ?_⟩
  · exact (f4'.ne (Or.inr (by decide))).trans ((f3.2 2 (Or.inl (by decide)) (by decide)).trans (e1 2 (by decide)))
  · exact (kp3.line (by rw [e2]; exact hH.1.1) f4').pre e2 e1 hH
theorem SD.of {M M2 : Mem} (f : FrL 1 M M2) : SD M M2 := ⟨fun r i hr => f.ne (Or.inl (by omega)), fun i h1 _ => f.ne (Or.inr h1)⟩
/-- the draft is looked at, and adopted where it is sound -/
theorem sp_tryDraft (hL : M 1 0 = L) (hz : BZ L) (hH : HI M) (f : FrL 1 M M2) (l : LEq (M2 1 1) L') (hw' : WFn L') (hz' : BZ L') {a : Int} {e : String} (k1 : sndA L' ≠ 0 → ∀ M', ChP M M' L L' → K [iv a] M') (k0 : sndA L' = 0 → X e M2) :
    Call G 4 0 zX4_areDutiesSound [rr G 1 1 0] M2 (kI (fun x M29 => I32 x ∧ ((¬ x = 0 → Call G 4 0 zX11_adoptDraft [rr G 0 0 0] M29 (kV (fun M38 => K [iv a] M38)) noX) ∧ (x = 0 → X e M29)))) noX := by
  have hw2 := l.wfn hw'
  refine sp_areDutiesSound (by omega) (by omega) hw2.2.2.1 hw2.1 hw2.2.1 (kI_mk ?_)
  rw [sndA_leq l hw']
  have h01 : sndA L' = 0 ∨ sndA L' = 1 := allT_01 _ _ _
  exact ⟨i32 (by omega), fun y => sp_adopt hL hz hH f l hz' (fun M' c => kV_mk (k1 y M' c)), fun y => k0 y⟩
/-- the reference's way to the same -/
theorem m_tryStands (hP : Pas M n H) (hw : WFn L) (hwH : ∀ r, 0 ≤ r → r < n → WFn (H r)) {M1 : Mem} (f1 : FrG 3 (wr M 8 0 0 7 0) M1) (s1 : RG (M1 8 0 3) L) (f2 : FrX (fun c k => P1 c k ∨ c = 7) M1 M2) (r2 : RG (M2 8 0 1) L') (hw' : WFn L')
    (k1 : sndA L' ≠ 0 → ∀ M', FrX PM2 M M' → M' 8 0 0 7 = 0 → RG (M' 8 0 1) L' → Pas M' (pushN n) (pushH n H L) → K [iv 1] M') (k0 : sndA L' = 0 → ∀ M', FrX PF2 M M' → M' 8 0 0 7 = 0 → RG (M' 8 0 1) L → K [iv 0] M') : Call G 4 0 zX12_stands [rr G 8 0 0] M2 K X := by
  have fr1 := fxG (fx7 M 0) f1 (Or.inr rfl)
  have hno : ∀ c, c ≠ 1 → c ≠ 7 → ∀ k, ¬ ((fun c k => P1 c k ∨ c = 7) c k) := fun c h1 h7 k => by
    show ¬ (c = 1 ∨ c = 7)
    omega
  have e3 : M2 8 0 3 = M1 8 0 3 := f2.row (hno 3 (by decide) (by decide))
  have z2 : M2 8 0 0 = M1 8 0 0 := f2.row (hno 0 (by decide) (by decide))
  have z1 : M1 8 0 0 = wr M 8 0 0 7 0 8 0 0 := f1 8 0 0 (by omega)
  have e7 : M2 8 0 0 7 = 0 := by rw [z2, z1, wr_at]
  have p4 : M2 8 0 4 = M 8 0 4 := (f2.row (hno 4 (by decide) (by decide))).trans ((f1 8 0 4 (by omega)).trans (wr_nc (by omega)))
  have fr2 : FrX PM2 M M2 := (fr1.mono (fun c k q => Or.inl q)).tr (f2.mono (fun c k q => by rcases q with w | w; exact Or.inl (Or.inl w); exact Or.inr (Or.inl (by omega))))
  have fr3 : FrX PF2 M M2 := fun a b c k q => by
    rw [f2 a b c k (fun z => q ⟨z.1, z.2.1, by rcases z.2.2 with w | w; exact Or.inl w; exact Or.inr (Or.inr (Or.inl (by omega)))⟩)]
    by_cases h3 : a = 8 ∧ b = 0 ∧ c = 3
    · exact absurd ⟨h3.1, h3.2.1, Or.inr (Or.inl h3.2.2)⟩ q
    · rw [f1 a b c h3]
      exact fz7 M 0 a b c k (fun z => q ⟨z.1, z.2.1, Or.inr (Or.inr z.2.2)⟩)
  have h01 : sndA L' = 0 ∨ sndA L' = 1 := allT_01 _ _ _
  refine m_stands r2 hw'.1 hw'.2.1 hw'.2.2.1 (hP.keep (by rw [z2, z1, wr_nk (by omega)]) p4) (by rw [e3]; exact s1) hw hwH (fun y M3 f3 p3 => ?_) (fun y M3 f3 r3 => ?_)
  · have g3 : M3 8 0 1 = M2 8 0 1 := f3.g (by omega)
    refine k1 (by omega) M3 ?_ ((f3 8 0 0 7 (by omega)).trans e7) (by rw [g3]; exact r2) p3
    intro a b c k q
    rw [f3 a b c k (fun z => q ⟨z.1, z.2.1, Or.inl (by rcases z.2.2 with w | w; exact Or.inr (Or.inr (Or.inl w)); exact Or.inr (Or.inr (Or.inr ⟨w.1, Or.inl w.2⟩)))⟩)]
    exact fr2 a b c k q
  · refine k0 y M3 ?_ ((congrFun (f3 8 0 0 (by omega)) 7).trans e7) r3
    intro a b c k q
    rw [f3 a b c (fun z => q ⟨z.1, z.2.1, Or.inl z.2.2⟩)]
    exact fr3 a b c k q
end Ad
def sectL (L : LFn) (k a b : Int) : LFn := up1 (up1 L 2 k a) 3 k b
def qSS (L : LFn) (k a b : Int) : Int := if ¬ (0 ≤ k ∧ k ≤ 10) then 1 else if ¬ (1 ≤ a ∧ a ≤ 9) then 2 else if ¬ (0 ≤ b ∧ b ≤ 30) then 2 else if sndA (sectL L k a b) = 0 then 3 else 0
def loS (k : Int) : Int := if k = 1 then 1 else 0
def hiS (k : Int) : Int := if k = 0 then 20 else if k = 1 then 30 else 10
def qSet (L : LFn) (k v : Int) : Int := if ¬ (0 ≤ k ∧ k ≤ 2) then 1 else if ¬ (loS k ≤ v ∧ v ≤ hiS k) then 2 else if sndA (up1 L 5 k v) = 0 then 3 else 0
theorem WFn.track {L L' : LFn} (hw : WFn L) (l : ∀ c, 6 ≤ c → L' c = L c) (hm : WFm L') : WFn L' := by
  obtain ⟨ht, -, hv, hb⟩ := hw
  refine ⟨?_, hm, ⟨by rw [l 11 (by omega)]; exact hv.1, fun w w0 w1 => ?_⟩, ?_⟩
  · unfold WFt
    rw [l 6 (by omega), l 7 (by omega), l 8 (by omega), l 9 (by omega), l 10 (by omega)]; exact ht
  · rw [l 11 (by omega)] at w1
    rw [l 12 (by omega), l 13 (by omega), l (15 + w) (by omega), l 6 (by omega)]
    exact hv.2 w w0 w1
  · unfold WFb
    rw [l 25 (by omega), l 26 (by omega), l 27 (by omega), l 28 (by omega)]; exact hb
theorem sectL_wfn {L : LFn} (hw : WFn L) {k a b : Int} (ha : 1 ≤ a ∧ a ≤ 9) (hb : 0 ≤ b ∧ b ≤ 30) : WFn (sectL L k a b) := by
  refine hw.track (fun c hc => by unfold sectL; rw [up1_nc (by omega), up1_nc (by omega)]) ?_
  obtain ⟨m1, m2, m3, m4, m5⟩ := hw.2.1
  unfold sectL
  refine ⟨fun j j0 j1 => ?_, ?_, ?_, ?_, ?_⟩
  · have := m1 j j0 j1
    rw [up1_nc (c := 3) (c' := 2) (by omega), up1_any, up1_any, up1_nc (c := 2) (c' := 3) (by omega)]
    by_cases h : j = k
    · rw [if_pos ⟨rfl, h⟩, if_pos ⟨rfl, h⟩]; omega
    · rw [if_neg (fun q => h q.2), if_neg (fun q => h q.2)]; exact this
  · rw [up1_nc (by omega), up1_nc (by omega)]; exact m2
  · rw [up1_nc (by omega), up1_nc (by omega)]; exact m3
  · rw [up1_nc (by omega), up1_nc (by omega)]; exact m4
  · rw [up1_nc (by omega), up1_nc (by omega)]; exact m5
theorem setL_wfn {L : LFn} (hw : WFn L) {k v : Int} (k0 : 0 ≤ k) (k1 : k ≤ 2) (h : loS k ≤ v ∧ v ≤ hiS k) : WFn (up1 L 5 k v) := by
  refine hw.track (fun c hc => up1_nc (by omega)) ?_
  obtain ⟨m1, m2, m3, m4, m5⟩ := hw.2.1
  unfold WFm
  rw [up1_nc (c' := 2) (by omega), up1_nc (c' := 3) (by omega), up1_nc (c' := 4) (by omega), up1_any, up1_any, up1_any]
  refine ⟨m1, m2, m3, m4, ?_⟩
  unfold loS hiS at h
  rcases (show k = 0 ∨ k = 1 ∨ k = 2 by omega) with rfl | rfl | rfl
  · rw [if_pos ⟨rfl, rfl⟩, if_neg (by omega), if_neg (by omega)]
    rw [if_neg (by omega), if_pos rfl] at h
    omega
  · rw [if_neg (by omega), if_pos ⟨rfl, rfl⟩, if_neg (by omega)]
    rw [if_pos rfl, if_neg (by omega), if_pos rfl] at h
    omega
  · rw [if_neg (by omega), if_neg (by omega), if_pos ⟨rfl, rfl⟩]
    rw [if_neg (by omega), if_neg (by omega), if_neg (by omega)] at h
    omega
theorem BZ.of {L L' : LFn} (hz : BZ L) (h4 : L' 4 = L 4) (h10 : L' 10 = L 10) : BZ L' := by
  refine ⟨?_, ?_⟩
  · rw [h4]; exact hz.1
  · unfold WFz; rw [h10]; exact hz.2
/-- a part of the line is changed alike in two that are alike -/
theorem LEq.up5 {N L : LFn} (h : LEq N L) (k v : Int) : LEq (up1 N 5 k v) (up1 L 5 k v) := by
  obtain ⟨a1, a2, a3, a4, a5, a6, a7, a8, a9⟩ := h
  have l : ∀ c, c ≠ 5 → up1 N 5 k v c = N c ∧ up1 L 5 k v c = L c := fun c hc => ⟨up1_nc hc, up1_nc hc⟩
  refine ⟨?_, ?_, fun j j0 j1 => ?_, ?_, ?_, ?_, fun w w0 w1 => ?_, ?_, ?_⟩
  · rw [(l 2 (by omega)).1, (l 2 (by omega)).2, (l 3 (by omega)).1, (l 3 (by omega)).2]; exact a1
  · rw [(l 4 (by omega)).1, (l 4 (by omega)).2]; exact a2
  · rw [up1_any, up1_any, a3 j j0 j1]
  · rw [(l 6 (by omega)).1, (l 6 (by omega)).2]; exact a4
  · rw [(l 7 (by omega)).1, (l 7 (by omega)).2, (l 8 (by omega)).1, (l 8 (by omega)).2, (l 9 (by omega)).1, (l 9 (by omega)).2, (l 10 (by omega)).1, (l 10 (by omega)).2]; exact a5
  · rw [(l 11 (by omega)).1, (l 11 (by omega)).2]; exact a6
  · rw [(l 12 (by omega)).1, (l 12 (by omega)).2, (l 13 (by omega)).1, (l 13 (by omega)).2, (l (15 + w) (by omega)).1, (l (15 + w) (by omega)).2]; exact a7 w w0 w1
  · rw [(l 25 (by omega)).1, (l 25 (by omega)).2]; exact a8
  · rw [(l 26 (by omega)).1, (l 26 (by omega)).2, (l 27 (by omega)).1, (l 27 (by omega)).2, (l 28 (by omega)).1, (l 28 (by omega)).2]; exact a9
theorem LEq.sect {N L : LFn} (h : LEq N L) (k a b : Int) : LEq (sectL N k a b) (sectL L k a b) := by
  obtain ⟨a1, a2, a3, a4, a5, a6, a7, a8, a9⟩ := h
  have l : ∀ c, c ≠ 2 → c ≠ 3 → sectL N k a b c = N c ∧ sectL L k a b c = L c := fun c h2 h3 => by
    unfold sectL
    exact ⟨by rw [up1_nc h3, up1_nc h2], by rw [up1_nc h3, up1_nc h2]⟩
  refine ⟨fun j j0 j1 => ?_, ?_, ?_, ?_, ?_, ?_, fun w w0 w1 => ?_, ?_, ?_⟩
  · have := a1 j j0 j1
    unfold sectL
    constructor <;> simp only [up1_any, this.1, this.2]
  · rw [(l 4 (by omega) (by omega)).1, (l 4 (by omega) (by omega)).2]; exact a2
  · rw [(l 5 (by omega) (by omega)).1, (l 5 (by omega) (by omega)).2]; exact a3
  · rw [(l 6 (by omega) (by omega)).1, (l 6 (by omega) (by omega)).2]; exact a4
  · rw [(l 7 (by omega) (by omega)).1, (l 7 (by omega) (by omega)).2, (l 8 (by omega) (by omega)).1, (l 8 (by omega) (by omega)).2, (l 9 (by omega) (by omega)).1, (l 9 (by omega) (by omega)).2, (l 10 (by omega) (by omega)).1, (l 10 (by omega) (by omega)).2]; exact a5
  · rw [(l 11 (by omega) (by omega)).1, (l 11 (by omega) (by omega)).2]; exact a6
  · rw [(l 12 (by omega) (by omega)).1, (l 12 (by omega) (by omega)).2, (l 13 (by omega) (by omega)).1, (l 13 (by omega) (by omega)).2, (l (15 + w) (by omega) (by omega)).1, (l (15 + w) (by omega) (by omega)).2]; exact a7 w w0 w1
  · rw [(l 25 (by omega) (by omega)).1, (l 25 (by omega) (by omega)).2]; exact a8
  · rw [(l 26 (by omega) (by omega)).1, (l 26 (by omega) (by omega)).2, (l 27 (by omega) (by omega)).1, (l 27 (by omega) (by omega)).2, (l 28 (by omega) (by omega)).1, (l 28 (by omega) (by omega)).2]; exact a9
section Pm2
variable {G : GT} {K : List Value → Mem → Prop} {X : String → Mem → Prop} {M : Mem} {L : LFn} {n : Int} {H : Int → LFn}
theorem p_setSection (hL : M 1 0 = L) (hw : WFn L) (hz : BZ L) (hH : HI M) {s a b : Int} (hsi : I32 s) (hai : I32 a) (hbi : I32 b) (k : ChgP M K X L (qSS L s a b) (sectL L s a b) (10 * L 2 s + L 3 s) eIX eIA eIS) : Call G 9 2 zX11_setSection [rr G 0 0 0, iv s, iv a, iv b] M K X := by
  unfold qSS at k
  refine bX11_setSection (sp_requireIndex hsi (i32 (by omega)) (fun z => kV_mk (sp_isFromTo hai (i32 (by omega)) (i32 (by omega)) (kI_mk ⟨b2i_i32 _, fun y => ?_, fun y => sp_isFromTo hbi (i32 (by omega)) (i32 (by omega)) (kI_mk ⟨b2i_i32 _, fun w => ⟨z.1, z.2, ?_⟩, fun w => ?_⟩)⟩))) (fun z => ?_))
  · rw [if_neg (fun q => q ⟨z.1, by omega⟩), if_pos (b2i_0.mp y)] at k; exact k.k2
  · have y' := nb y
    have w' := nb w
    rw [if_neg (fun q => q ⟨z.1, by omega⟩), if_neg (fun q => q y'), if_neg (fun q => q w')] at k
    refine sp_lineCopy (by omega) (by omega) (by omega) (by omega) (by omega) (by rw [hL]; exact hz.1) (by rw [hL]; exact hz.2) (fun M1 f1 l1 => kV_mk ?_)
    rw [hL] at l1
    have f2 : FrL 1 M (wr (wr M1 1 1 2 s a) 1 1 3 s b) := (FrL.wr (FrL.wr f1 _ _ _) _ _ _)
    have l2 : LEq (wr (wr M1 1 1 2 s a) 1 1 3 s b 1 1) (sectL L s a b) := by
      rw [wr_line, wr_line]
      exact l1.sect s a b
    rw [hL]
    refine sp_tryDraft hL hz hH f2 l2 (sectL_wfn hw y' w') (hz.of (by unfold sectL; rw [up1_nc (by omega), up1_nc (by omega)]) (by unfold sectL; rw [up1_nc (by omega), up1_nc (by omega)])) (fun u M' c => ?_) (fun u => ?_)
    · rw [if_neg u] at k; exact k.1 rfl M' c
    · rw [if_pos u] at k; exact (k.2 _ (SD.of f2)).2.2 rfl
  · rw [if_neg (fun q => q ⟨z.1, by omega⟩), if_neg (fun q => q (nb y)), if_pos (b2i_0.mp w)] at k; exact k.k2
  · rw [if_pos (fun q => z ⟨q.1, by omega⟩)] at k; exact k.k1
theorem q_setSection (hR : RG (M 8 0 1) L) (hw : WFn L) (hP : Pas M n H) (hwH : ∀ r, 0 ≤ r → r < n → WFn (H r)) {s a b : Int} (hsi : I32 s) (hai : I32 a) (hbi : I32 b) (k : ChgM M K n H L (qSS L s a b) (sectL L s a b) (10 * L 2 s + L 3 s)) : Call G 5 0 zX12_setSection [rr G 8 0 0, iv s, iv a, iv b] M K X := by
  unfold qSS at k
  refine bX12_setSection (m_isSection hsi (kI_mk ⟨b2i_i32 _, fun z => ?_, fun z => m_in hai (i32 (by omega)) (i32 (by omega)) (kI_mk ⟨b2i_i32 _, fun y => ?_, fun y => m_in hbi (i32 (by omega)) (i32 (by omega)) (kI_mk ⟨b2i_i32 _, fun w => ?_, fun w => ?_⟩)⟩)⟩))
  · rw [if_pos (b2i_0.mp z)] at k; exact k.kE (by decide) hR
  · rw [if_neg (fun q => q (nb z)), if_pos (b2i_0.mp y)] at k; exact k.kE (by decide) hR
  · rw [if_neg (fun q => q (nb z)), if_neg (fun q => q (nb y)), if_pos (b2i_0.mp w)] at k; exact k.kE (by decide) hR
  · have z' := nb z
    have y' := nb y
    have w' := nb w
    rw [if_neg (fun q => q z'), if_neg (fun q => q y'), if_neg (fun q => q w')] at k
    have h1 := hR.1 s z'.1 (by omega)
    refine m_begins (by rw [thr_g]; exact hR) hw (fun M1 f1 s1 => kV_mk ⟨z'.1, by omega, by omega, by omega, ?_⟩)
    have g1 : M1 8 0 1 = M 8 0 1 := (f1 8 0 1 (by omega)).trans (thr_g M 0)
    rw [g1, h1.1, h1.2]
    have f2 : FrX (fun c k => P1 c k ∨ c = 7) M1 (wr (wr M1 8 0 1 s a) 8 0 1 (11 + s) b) := (fx1 (fx1 FrX.rf _ _) _ _).mono (fun c k q => Or.inl q)
    have r2 : RG (wr (wr M1 8 0 1 s a) 8 0 1 (11 + s) b 8 0 1) (sectL L s a b) := by
      rw [wr_rv, wr_rv, g1]
      exact RG_sect hR hw z'.1 (by omega)
    refine m_tryStands hP hw hwH f1 s1 f2 r2 (sectL_wfn hw y' w') (fun u M' f e r p => kI_mk ⟨i32 (by omega), fun q => absurd q (by decide), fun _ => ?_⟩) (fun u M' f e r => kI_mk ⟨i32 (by omega), fun _ => bX12_fails (kI_mk ?_), fun q => absurd rfl q⟩)
    · rw [if_neg u] at k
      exact (k M' e).1 rfl f r p
    · rw [if_pos u] at k
      exact (k _ (wr_at _ _ _ _ _ _)).2 (by decide) (FrX.wr f (show PF2 0 7 from Or.inr (Or.inr (Or.inr ⟨rfl, Or.inl rfl⟩))) 3) (by rw [thr_g]; exact r)
theorem lo_tab {k : Int} (k0 : 0 ≤ k) (k1 : k ≤ 2) : ([0, 1, 0] : List Int).getD k.toNat 0 = loS k ∧ ([20, 30, 10] : List Int).getD k.toNat 0 = hiS k := by
  rcases (show k = 0 ∨ k = 1 ∨ k = 2 by omega) with rfl | rfl | rfl <;> decide
theorem lohi (k : Int) : I32 (loS k) ∧ I32 (hiS k) := by
  unfold loS hiS
  refine ⟨i32 ?_, i32 ?_⟩ <;> (repeat' split) <;> omega
theorem p_set (hL : M 1 0 = L) (hw : WFn L) (hz : BZ L) (hH : HI M) {s v : Int} (hsi : I32 s) (hvi : I32 v) (k : ChgP M K X L (qSet L s v) (up1 L 5 s v) (L 5 s) eIX eIA eIS) : Call G 9 2 zX11_set [rr G 0 0 0, iv s, iv v] M K X := by
  unfold qSet at k
  refine bX11_set (sp_requireIndex hsi (i32 (by omega)) (fun z => kV_mk ⟨z.1, z.2, ?_⟩) (fun z => ?_))
  · rw [(lo_tab z.1 (by omega)).1, (lo_tab z.1 (by omega)).2]
    have lh := lohi s
    refine sp_isFromTo hvi lh.1 lh.2 (kI_mk ⟨b2i_i32 _, fun y => ?_, fun y => ?_⟩)
    · have y' := nb y
      rw [if_neg (fun q => q ⟨z.1, by omega⟩), if_neg (fun q => q y')] at k
      refine sp_lineCopy (by omega) (by omega) (by omega) (by omega) (by omega) (by rw [hL]; exact hz.1) (by rw [hL]; exact hz.2) (fun M1 f1 l1 => kV_mk ?_)
      rw [hL] at l1
      have f2 : FrL 1 M (wr M1 1 1 5 s v) := (FrL.wr f1 _ _ _)
      have l2 : LEq (wr M1 1 1 5 s v 1 1) (up1 L 5 s v) := by
        rw [wr_line]
        exact l1.up5 s v
      rw [hL]
      refine sp_tryDraft hL hz hH f2 l2 (setL_wfn hw z.1 (by omega) y') (hz.of (up1_nc (by omega)) (up1_nc (by omega))) (fun u M' c => ?_) (fun u => ?_)
      · rw [if_neg u] at k; exact k.1 rfl M' c
      · rw [if_pos u] at k; exact (k.2 _ (SD.of f2)).2.2 rfl
    · rw [if_neg (fun q => q ⟨z.1, by omega⟩), if_pos (b2i_0.mp y)] at k; exact k.k2
  · rw [if_pos (fun q => z ⟨q.1, by omega⟩)] at k; exact k.k1
theorem q_set (hR : RG (M 8 0 1) L) (hw : WFn L) (hP : Pas M n H) (hwH : ∀ r, 0 ≤ r → r < n → WFn (H r)) {s v : Int} (hsi : I32 s) (hvi : I32 v) (k : ChgM M K n H L (qSet L s v) (up1 L 5 s v) (L 5 s)) : Call G 5 0 zX12_set [rr G 8 0 0, iv s, iv v] M K X := by
  have go : ∀ p : Prop, ∀ _ : Decidable p, (0 ≤ s ∧ s ≤ 2 → (p ↔ loS s ≤ v ∧ v ≤ hiS s)) → Call G 0 0 zX12_in [iv s, iv 0, iv 2] M (kI (fun x16 M14 => I32 x16 ∧ ((x16 = 0 → K [iv 0] (wr M14 8 0 0 7 1)) ∧ (¬ x16 = 0 → I32 (b2i p) ∧ ((b2i p = 0 → K [iv 0] (wr M14 8 0 0 7 2)) ∧ (¬ b2i p = 0 → Call G 1 0 zX12_begins [rr G 8 0 0] (wr M14 8 0 0 7 0) (kV (fun M31 => 0 ≤ 34 + s ∧ 34 + s < 500 ∧ Call G 4 0 zX12_stands [rr G 8 0 0] (wr M31 8 0 1 (34 + s) v) (kI (fun x39 M37 => I32 x39 ∧ ((x39 = 0 → Call G 0 0 zX12_fails [rr G 8 0 0, iv 3] M37 (kI (fun x48 M46 => K [iv x48] M46)) noX) ∧ (¬ x39 = 0 → K [iv (M31 8 0 1 (34 + s))] M37)))) noX)) noX)))))) noX := by
    intro p dp hp
    unfold qSet at k
    refine m_in hsi (i32 (by omega)) (i32 (by omega)) (kI_mk ⟨b2i_i32 _, fun z => ?_, fun z => ⟨b2i_i32 _, fun y => ?_, fun y => ?_⟩⟩)
    · rw [if_pos (b2i_0.mp z)] at k; exact k.kE (by decide) hR
    · have z' := nb z
      rw [if_neg (fun q => q z'), if_pos (fun q => (b2i_0.mp y) ((hp z').mpr q))] at k
      exact k.kE (by decide) hR
    · have z' := nb z
      have y' := (hp z').mp (nb y)
      rw [if_neg (fun q => q z'), if_neg (fun q => q y')] at k
      have h1 : M 8 0 1 (34 + s) = L 5 s := by
        rcases (show s = 0 ∨ s = 1 ∨ s = 2 by omega) with rfl | rfl | rfl
        · exact hR.2.2.1.1
        · exact hR.2.2.1.2.1
        · exact hR.2.2.1.2.2
      refine m_begins (by rw [thr_g]; exact hR) hw (fun M1 f1 s1 => kV_mk ⟨by omega, by omega, ?_⟩)
      have g1 : M1 8 0 1 = M 8 0 1 := (f1 8 0 1 (by omega)).trans (thr_g M 0)
      rw [g1, h1]
      have f2 : FrX (fun c k => P1 c k ∨ c = 7) M1 (wr M1 8 0 1 (34 + s) v) := (fx1 FrX.rf _ _).mono (fun c k q => Or.inl q)
      have r2 : RG (wr M1 8 0 1 (34 + s) v 8 0 1) (up1 L 5 s v) := by
        rw [wr_rv, g1]
        exact RG_set hR hw z'.1 (by omega)
      refine m_tryStands hP hw hwH f1 s1 f2 r2 (setL_wfn hw z'.1 z'.2 y') (fun u M' f e r p => kI_mk ⟨i32 (by omega), fun q => absurd q (by decide), fun _ => ?_⟩) (fun u M' f e r => kI_mk ⟨i32 (by omega), fun _ => bX12_fails (kI_mk ?_), fun q => absurd rfl q⟩)
      · rw [if_neg u] at k
        exact (k M' e).1 rfl f r p
      · rw [if_pos u] at k
        exact (k _ (wr_at _ _ _ _ _ _)).2 (by decide) (FrX.wr f (show PF2 0 7 from Or.inr (Or.inr (Or.inr ⟨rfl, Or.inl rfl⟩))) 3) (by rw [thr_g]; exact r)
  refine bX12_set ⟨hsi, fun z => ⟨fun y => m_in hvi (i32 (by omega)) (i32 (by omega)) (kI_mk (go _ _ (fun q => ?_))), fun y => m_in hvi (i32 (by omega)) (i32 (by omega)) (kI_mk (go _ _ (fun q => ?_)))⟩, fun z => m_in hvi (i32 (by omega)) (i32 (by omega)) (kI_mk (go _ _ (fun q => ?_)))⟩
  · unfold loS hiS; rw [if_neg y, if_neg z, if_neg y]
  · unfold loS hiS; rw [if_pos y, if_neg z, if_pos y]
  · unfold loS hiS; rw [if_neg (by omega), if_pos z]
end Pm2
