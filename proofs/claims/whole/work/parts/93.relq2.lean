/-! ===== relink (the reference): all trips anew ===== -/
theorem SmT.w {L N : LFn} (h : SmT L N) (hw : WFn N) (hv : WFv L) : WFn L := by
  refine ⟨h.t hw.1, h.m hw.2.1, hv, ?_⟩
  have hb := hw.2.2.2
  unfold WFb
  rw [h 25 (by omega), h 26 (by omega), h 27 (by omega), h 28 (by omega)]
  exact hb
theorem emL_13 (L : LFn) {v : Int} (v0 : 0 ≤ v) (v1 : v < 10) : emL L 13 v = 0 := by
  unfold emL
  rw [upr_at]
  exact if_pos ⟨v0, v1⟩
theorem no_veh {L : LFn} {t : Int} (h : ∀ v p, 0 ≤ v → v < L 11 3 → 0 ≤ p → p < L 13 v → L (15 + v) p ≠ t) : vehOf L t = -1 := by
  refine Classical.byContradiction fun q => ?_
  obtain ⟨a1, a2, a3⟩ := vehOf_at q
  obtain ⟨b1, b2, b3, -⟩ := posOf_at a3
  exact h _ _ a1 a2 b1 b2 b3
/-- the line while it is linked -/
theorem lnk_inv {L : LFn} (hw : WFn L) (f : Int → Int) (N : Nat) (hN : (N : Int) ≤ 30) (hf : ∀ x : Nat, x < N → 0 ≤ f x ∧ f x < L 6 4) (hi : ∀ x y : Nat, x < N → y < N → f x = f y → x = y) (n : Nat) (hn : n ≤ N) :
    SmT (lnkN L f n).1 L ∧ WFn (lnkN L f n).1 ∧ Uni (lnkN L f n).1 ∧ (∀ v, 0 ≤ v → v < L 11 3 → (lnkN L f n).1 13 v ≤ n) ∧ ∀ v p, 0 ≤ v → v < L 11 3 → 0 ≤ p → p < (lnkN L f n).1 13 v → ∃ y : Nat, y < n ∧ (lnkN L f n).1 (15 + v) p = f y := by
  have nv := hw.2.2.1.1
  induction n with
  | zero =>
    have s := emL_sm L
    have e0 : ∀ v, 0 ≤ v → v < L 11 3 → emL L 13 v = 0 := fun v v0 v1 => emL_13 L v0 (by omega)
    refine ⟨s, s.w hw (emL_v hw.2.2.1), fun v w p q v0 v1 w0 w1 p0 p1 q0 q1 _ => ?_, fun v v0 v1 => ?_, fun v p v0 v1 p0 p1 => ?_⟩
    · have v1' : v < L 11 3 := by
        have v9 : v < emL L 11 3 := v1
        rw [s 11 (by omega)] at v9
        exact v9
      have p1' : p < emL L 13 v := p1
      rw [e0 v v0 v1'] at p1'
      omega
    · show emL L 13 v ≤ _
      rw [e0 v v0 v1]
      exact Int.le_refl _
    · have p1' : p < emL L 13 v := p1
      rw [e0 v v0 v1] at p1'
      omega
  | succ n ih =>
    obtain ⟨i1, i2, i3, i4, i5⟩ := ih (by omega)
    have hfn := hf n (by omega)
    simp only [lnkN]
    by_cases hz : vF (lnkN L f n).1 (f n) = -1
    · rw [if_pos hz]
      refine ⟨i1, i2, i3, fun v v0 v1 => ?_, fun v p v0 v1 p0 p1 => ?_⟩
      · have := i4 v v0 v1
        show (lnkN L f n).1 13 v ≤ _
        omega
      · obtain ⟨y, y1, y2⟩ := i5 v p v0 v1 p0 p1
        exact ⟨y, by omega, y2⟩
    · rw [if_neg hz]
      have hvb := vF_bd i2.2.2.1 (f n)
      generalize (lnkN L f n).1 = A at *
      generalize vF A (f n) = v at *
      have e11 : A 11 3 = L 11 3 := by rw [i1 11 (by omega)]
      have e6 : A 6 4 = L 6 4 := by rw [i1 6 (by omega)]
      rcases hvb with q | ⟨v0, v1⟩
      · exact absurd q hz
      · have hl := i4 v v0 (by omega)
        have h3 := (i2.2.2.1.2 v v0 v1).2.2.1
        have hp := tbf_bd (L := A) (m := A 9 (f n)) (v := v) h3
        generalize tbf A (A 9 (f n)) v = p at *
        have hve : vehOf A (f n) = -1 := no_veh (fun w q w0 w1 q0 q1 e => by
          obtain ⟨y, y1, y2⟩ := i5 w q w0 (by omega) q0 q1
          rw [y2] at e
          have := hi y n (by omega) (by omega) e
          omega)
        have s := insL_sm (L := A) (p := p) (t := f n) v0 (show v < 10 by omega)
        refine ⟨fun c hc => (s c hc).trans (i1 c hc), i2.ins v0 v1 (by omega) hp.1 hp.2 hfn.1 (by omega), i3.ins (by omega) v0 v1 hp.1 hp.2 hve, fun w w0 w1 => ?_, fun w q w0 w1 q0 q1 => ?_⟩
        · show insL A v p (f n) 13 w ≤ _
          rw [insL_13 A v p (f n) w v0]
          have := i4 w w0 w1
          split
          · rename_i e; rw [e] at this; omega
          · omega
        · show ∃ y : Nat, y < n + 1 ∧ insL A v p (f n) (15 + w) q = f y
          have q1 : q < insL A v p (f n) 13 w := q1
          rw [insL_13 A v p (f n) w v0] at q1
          rw [insL_row A v p (f n) w v0 w0]
          by_cases hw9 : w = v
          · subst hw9
            rw [if_pos rfl] at q1 ⊢
            rcases insE_cs (f := A (15 + w)) (n := A 13 w) (t := f n) hp.1 hp.2 q0 (show q ≤ A 13 w by omega) with ⟨c1, c2⟩ | ⟨c1, c2⟩ | ⟨c1, c2⟩
            · exact ⟨n, by omega, c2⟩
            · obtain ⟨y, y1, y2⟩ := i5 w q w0 w1 q0 (by omega)
              exact ⟨y, by omega, c2.trans y2⟩
            · obtain ⟨y, y1, y2⟩ := i5 w (q - 1) w0 w1 (by omega) (by omega)
              exact ⟨y, by omega, c2.trans y2⟩
          · rw [if_neg hw9] at q1 ⊢
            obtain ⟨y, y1, y2⟩ := i5 w q w0 w1 q0 q1
            exact ⟨y, by omega, y2⟩
theorem act_inj {L : LFn} (ht : WFt L) {k l : Int} (k0 : 0 ≤ k) (kl : k < l) (l1 : l < (actS L).1) : (actS L).2.2 k ≠ (actS L).2.2 l := by
  have lex : LexS (actS L) (fun a b => a < b) := foldS_lex _ _ _ _ (fun x y hxy => by show (x : Int) < (y : Int); omega) _
  have a := actS_ok ht k0 (show k < (actS L).1 by omega)
  have b := actS_ok ht (show 0 ≤ l by omega) l1
  intro e
  rcases lex k l k0 kl l1 with h | ⟨-, h⟩
  · rw [a.2.2.2, b.2.2.2, e] at h
    omega
  · have h' : (actS L).2.2 k < (actS L).2.2 l := h
    omega
/-- what linking gives -/
theorem lnk_good {L : LFn} (hw : WFn L) (n : Nat) (hn : (n : Int) ≤ (actS L).1) : SmT (lnkN L (actS L).2.2 n).1 L ∧ WFn (lnkN L (actS L).2.2 n).1 ∧ Uni (lnkN L (actS L).2.2 n).1 ∧ (∀ v, 0 ≤ v → v < L 11 3 → (lnkN L (actS L).2.2 n).1 13 v ≤ n) ∧ ∀ v p, 0 ≤ v → v < L 11 3 → 0 ≤ p → p < (lnkN L (actS L).2.2 n).1 13 v → ∃ y : Nat, y < n ∧ (lnkN L (actS L).2.2 n).1 (15 + v) p = (actS L).2.2 y := by
  have hs := actS_size hw.1
  have nt := hw.1.1
  refine lnk_inv hw (actS L).2.2 (actS L).1.toNat (by omega) (fun x hx => ?_) (fun x y hx hy e => ?_) n (by omega)
  · have := actS_ok hw.1 (k := (x : Int)) (by omega) (by omega)
    exact ⟨this.1, this.2.1⟩
  · rcases Nat.lt_trichotomy x y with q | q | q
    · exact absurd e (act_inj hw.1 (by omega) (by omega) (by omega))
    · exact q
    · exact absurd e.symm (act_inj hw.1 (by omega) (by omega) (by omega))
abbrev PE9 (c k : Int) : Prop := c = 1 ∨ c = 5 ∨ c = 6 ∨ (c = 0 ∧ k = 10)
section Rq
variable {G : GT} {K : List Value → Mem → Prop} {X : String → Mem → Prop} {M : Mem} {L L' : LFn} {n : Int} {H : Int → LFn}
theorem m_doneZ (hP : Pas M n H) (hw : WFn L) (hwH : ∀ r, 0 ≤ r → r < n → WFn (H r)) {M1 M2 : Mem} (f1 : FrG 3 (wr M 8 0 0 7 0) M1) (s1 : RG (M1 8 0 3) L) (f2 : FrX PE9 M1 M2) (r2 : RG (M2 8 0 1) L') {Q : Mem → Prop}
    (k : ∀ M3, FrX PM2 M M3 → M3 8 0 0 7 = 0 → M3 8 0 1 = M2 8 0 1 → Pas M3 (pushN n) (pushH n H L) → Q M3) : Call G 0 0 zX12_remembers [rr G 8 0 0] M2 (kV Q) noX := by
  have fr1 := fxG (fx7 M 0) f1 (Or.inr rfl)
  have e3 : M2 8 0 3 = M1 8 0 3 := f2.row (fun k => by show ¬ (_ ∨ _); omega)
  have z05 : M2 8 0 0 5 = M1 8 0 0 5 := f2 8 0 0 5 (by show ¬ (_ ∧ _ ∧ (_ ∨ _)); omega)
  have z07 : M2 8 0 0 7 = M1 8 0 0 7 := f2 8 0 0 7 (by show ¬ (_ ∧ _ ∧ (_ ∨ _)); omega)
  have z1 : M1 8 0 0 = wr M 8 0 0 7 0 8 0 0 := f1 8 0 0 (by omega)
  have p4 : M2 8 0 4 = M 8 0 4 := (f2.row (fun k => by show ¬ (_ ∨ _); omega)).trans ((f1 8 0 4 (by omega)).trans (wr_nc (by omega)))
  refine m_remembers (hP.keep (by rw [z05, z1, wr_nk (by omega)]) p4) (by rw [e3]; exact s1) hw hwH (fun M3 f3 p3 => kV_mk ?_)
  refine k M3 ?_ ?_ (f3.g (by omega)) p3
  · intro a b c k q
    rw [f3 a b c k (fun z => q ⟨z.1, z.2.1, Or.inl (by rcases z.2.2 with w | w; exact Or.inr (Or.inr (Or.inl w)); exact Or.inr (Or.inr (Or.inr ⟨w.1, Or.inl w.2⟩)))⟩)]
    rw [f2 a b c k (fun z => q ⟨z.1, z.2.1, by
      rcases z.2.2 with w | w | w | w
      · exact Or.inl (Or.inl w)
      · exact Or.inr (Or.inl (by omega))
      · exact Or.inr (Or.inl (by omega))
      · exact Or.inr (Or.inr ⟨w.1, Or.inr (Or.inl w.2)⟩)⟩)]
    exact fr1 a b c k (fun z => q ⟨z.1, z.2.1, Or.inl z.2.2⟩)
  · rw [f3 8 0 0 7 (by omega), z07, z1, wr_at]
theorem RG_em {g g' : Int → Int} (hR : RG g L) (hw : WFn L) (e1 : ∀ y, 171 ≤ y → y < 171 + L 11 3 → g' y = 0) (e2 : ∀ y, ¬ (171 ≤ y ∧ y < 171 + L 11 3) → g' y = g y) : RG g' (emL L) := by
  have nt := hw.1.1
  have nv := hw.2.2.1.1
  have nb9 := hw.2.2.2.1
  have s := emL_sm L
  obtain ⟨r1, r2, r3, r4, r5, r6, r7, r8, r9⟩ := hR
  refine ⟨fun k h0 h1 => ?_, fun u h0 h1 => ?_, ⟨?_, ?_, ?_⟩, ?_, fun u h0 h1 => ?_, ?_, fun w w0 w1 => ?_, ?_, fun x h0 h1 => ?_⟩
  · rw [e2 _ (by omega), e2 _ (by omega), s 2 (by omega), s 3 (by omega)]; exact r1 k h0 h1
  · rw [e2 _ (by omega), s 4 (by omega)]; exact r2 u h0 h1
  · rw [e2 _ (by omega), s 5 (by omega)]; exact r3.1
  · rw [e2 _ (by omega), s 5 (by omega)]; exact r3.2.1
  · rw [e2 _ (by omega), s 5 (by omega)]; exact r3.2.2
  · rw [e2 _ (by omega), s 6 (by omega)]; exact r4
  · rw [s 6 (by omega)] at h1
    rw [e2 _ (by omega), e2 _ (by omega), e2 _ (by omega), e2 _ (by omega), s 7 (by omega), s 8 (by omega), s 9 (by omega), s 10 (by omega)]
    exact r5 u h0 h1
  · rw [e2 _ (by omega), s 11 (by omega)]; exact r6
  · rw [s 11 (by omega)] at w1
    have h := r7 w w0 w1
    rw [e2 _ (by omega), e1 _ (by omega) (by omega), s 12 (by omega), emL_13 L w0 (by omega)]
    exact ⟨h.1, rfl, fun p p0 p1 => by omega⟩
  · rw [e2 _ (by omega), s 25 (by omega)]; exact r8
  · rw [s 25 (by omega)] at h1
    rw [e2 _ (by omega), e2 _ (by omega), e2 _ (by omega), s 26 (by omega), s 27 (by omega), s 28 (by omega)]
    exact r9 x h0 h1
theorem actS_sm {A : LFn} (s : SmT A L) : actS A = actS L := by
  unfold actS
  rw [s 6 (by omega), s 9 (by omega), s 10 (by omega)]
theorem q_relink (hR : RG (M 8 0 1) L) (hw : WFn L) (hP : Pas M n H) (hwH : ∀ r, 0 ≤ r → r < n → WFn (H r)) (k : ∀ M', FrX PM2 M M' → M' 8 0 0 7 = 0 → RG (M' 8 0 1) (lnk L).1 → Pas M' (pushN n) (pushH n H L) → K [iv (lnk L).2] M') : Call G 5 0 zX12_relink [rr G 8 0 0] M K X := by
  have nt := hw.1.1
  have nv := hw.2.2.1.1
  have hsz := actS_size hw.1
  refine bX12_relink (m_begins (by rw [thr_g]; exact hR) hw (fun M1 f1 s1 => kV_mk ?_))
  have g1 : M1 8 0 1 = M 8 0 1 := (f1 8 0 1 (by omega)).trans (thr_g M 0)
  have hR1 : RG (M1 8 0 1) L := by rw [g1]; exact hR
  have e160 : M1 8 0 1 160 = L 11 3 := hR1.2.2.2.2.2.1
  have emW := (lnk_good hw 0 (by omega)).2.1
  have fxe : ∀ N : Mem, FrX PE9 M1 N → ∀ y x, FrX PE9 M1 (wr N 8 0 1 y x) := fun N h y x => FrX.wr h (show PE9 1 y from Or.inl rfl) x
  have p19 : ∀ N N' : Mem, FrX PE9 M1 N → FrX P1 N N' → FrX PE9 M1 N' := fun N N' h h2 => h.tr (h2.mono (fun c k q => Or.inl q))
  have go := loop_up (E := fun x => 0 ≤ x → ∀ N : Mem, FrX PE9 M1 N → (∀ y, 171 ≤ y → y < 171 + x → N 8 0 1 y = 0) → (∀ y, ¬ (171 ≤ y ∧ y < 171 + x) → N 8 0 1 y = M1 8 0 1 y) → eX12_relink G K X 11 [(0, rr G 8 0 0), (1, iv x)] [] N) (a := 0) (b := L 11 3) nv.1 (fun _ N fN z1 z2 => by
    have e9 : N 8 0 1 160 = L 11 3 := by rw [z2 _ (by omega)]; exact e160
    have rN : RG (N 8 0 1) (emL L) := RG_em hR1 hw z1 z2
    refine bX12_relink_11 ?_
    rw [e9]
    refine ⟨i32 (by omega), i32 (by omega), fun _ => m_orders rN emW.1 (fun N2 f2 sq => kV_mk ?_), fun q => absurd q (by omega)⟩
    have sq' : SeqM N2 (actS L) := by
      have e := actS_sm (emL_sm L)
      rw [e] at sq
      exact sq
    have fN2 : FrX PE9 M1 N2 := fN.tr (fun a b c k q => f2 a b c k (fun z => q ⟨z.1, z.2.1, Or.inr z.2.2⟩))
    have r2 : RG (N2 8 0 1) (emL L) := RG_C f2 rN
    -- one after another
    refine loop_up (E := fun x => 0 ≤ x → ∀ N : Mem, FrX PE9 M1 N → N 8 0 0 10 = (actS L).1 → (∀ y, 0 ≤ y → y < (actS L).1 → N 8 0 6 y = (actS L).2.2 y) → RG (N 8 0 1) (lnkN L (actS L).2.2 x.toNat).1 → eX12_relink G K X 48 [(0, rr G 8 0 0), (1, iv (lnkN L (actS L).2.2 x.toNat).2), (2, iv x)] [] N) (a := 0) (b := (actS L).1) hsz.1 (fun _ N fN c1 c2 rN => ?_) (fun x x0 x1 hn9 _ N fN c1 c2 rN => ?_) (Int.le_refl _) N2 fN2 sq'.1.2.2 (fun y y0 y1 => (sq'.2 y y0 y1).2) r2
    · refine bX12_relink_48 ?_
      rw [c1]
      refine ⟨i32 (by omega), i32 (by omega), fun _ => m_doneZ hP hw hwH f1 s1 fN rN (fun M3 f3 e7 g3 p3 => ?_), fun q => absurd q (by omega)⟩
      exact k M3 f3 e7 (by rw [g3]; exact rN) p3
    · obtain ⟨i1, i2, i3, i4, i5⟩ := lnk_good hw x.toNat (by omega)
      have hx := actS_ok hw.1 x0 x1
      have st := lnk_step L (actS L).2.2 x0
      have hvb := vF_bd i2.2.2.1 ((actS L).2.2 x)
      have hve : vehOf (lnkN L (actS L).2.2 x.toNat).1 ((actS L).2.2 x) = -1 := no_veh (fun w q w0 w1 q0 q1 e => by
        rw [i1 11 (by omega)] at w1
        obtain ⟨y, y1, y2⟩ := i5 w q w0 w1 q0 q1
        rw [y2] at e
        exact act_inj hw.1 (by omega) (by omega) x1 e)
      rw [st] at hn9
      generalize hA : lnkN L (actS L).2.2 x.toNat = A at *
      have e11 : A.1 11 3 = L 11 3 := by rw [i1 11 (by omega)]
      have e6 : A.1 6 4 = L 6 4 := by rw [i1 6 (by omega)]
      refine bX12_relink_48 ?_
      rw [c1, c2 x x0 x1]
      refine ⟨i32 (by omega), i32 (by omega), fun q => absurd x1 q, fun _ => ⟨x0, by omega, m_vehicleFor rN i2 hx.1 (by rw [e6]; exact hx.2.1) (by rw [i1 10 (by omega)]; exact hx.2.2.1) hve (kI_mk ⟨i32 (by omega), fun y => ?_, fun y => ?_⟩)⟩⟩
      · rcases hvb with q | ⟨v0, v1⟩
        · omega
        · have hl := i4 _ v0 (by omega)
          rw [if_neg (by omega)] at hn9
          rw [c2 x x0 x1]
          refine m_gives rN i2.2.2.1 i2.1 i2.2.2.2 hx.1 (by rw [e6]; exact hx.2.1) v0 v1 (by omega) (fun N3 f3 r3 => kI_mk ?_)
          refine hn9 (by omega) N3 (p19 N N3 fN f3) ?_ (fun y9 y0 y1 => ?_) r3
          · rw [f3 8 0 0 10 (by show ¬ (_ ∧ _ ∧ _ = _); omega)]; exact c1
          · rw [f3 8 0 6 y9 (by show ¬ (_ ∧ _ ∧ _ = _); omega)]; exact c2 y9 y0 y1
      · rw [if_pos (by omega)] at hn9
        exact hn9 (by omega) N fN c1 c2 rN) (fun x x0 x1 hn9 _ N fN z1 z2 => by
    have e9 : N 8 0 1 160 = L 11 3 := by rw [z2 _ (by omega)]; exact e160
    refine bX12_relink_11 ?_
    rw [e9]
    refine ⟨i32 (by omega), i32 (by omega), fun q => absurd x1 q, fun _ => ⟨by omega, by omega, hn9 (by omega) _ (fxe N fN _ _) (fun y y0 y1 => ?_) (fun y hy => ?_)⟩⟩
    · by_cases e : y = 171 + x
      · rw [e, wr_at]
      · rw [wr_nk e]; exact z1 y y0 (by omega)
    · rw [wr_nk (by omega)]; exact z2 y (by omega))
  exact go (Int.le_refl _) M1 FrX.rf (fun y y0 y1 => by omega) (fun y _ => rfl)
end Rq
