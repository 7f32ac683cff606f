/-! ===== the reference: changes ===== -/
theorem upI_at (f : Int → Int) (k v : Int) : upI f k v k = v := by unfold upI; rw [if_pos rfl]
theorem upI_ne {f : Int → Int} {k v x : Int} (h : x ≠ k) : upI f k v x = f x := by unfold upI; rw [if_neg h]
theorem wr_rv (M : Mem) (a : Nat) (b c k v : Int) : wr M a b c k v a b c = upI (M a b c) k v := by
  unfold wr
  rw [wrow_at]
def gA (g : Int → Int) (n a b d : Int) : Int → Int := upI (upI (upI (upI (upI g (40 + 4 * n) a) (40 + 4 * n + 1) b) (40 + 4 * n + 2) d) (40 + 4 * n + 3) 0) 37 (n + 1)
theorem RG_addA {g : Int → Int} {L : LFn} {a b d : Int} (hR : RG g L) (hn0 : 0 ≤ L 6 4) (hn1 : L 6 4 < 30) (hv : WFv L) (hb : WFb L) : RG (gA g (L 6 4) a b d) (addA L a b d) := by
  obtain ⟨r1, r2, r3, r4, r5, r6, r7, r8, r9⟩ := hR
  have nv := hv.1
  have nb := hb.1
  have o : ∀ x, (x < 37 ∨ (37 < x ∧ x < 40 + 4 * L 6 4) ∨ 40 + 4 * L 6 4 + 3 < x) → gA g (L 6 4) a b d x = g x := by
    intro x hx
    unfold gA
    rw [upI_ne (by omega), upI_ne (by omega), upI_ne (by omega), upI_ne (by omega), upI_ne (by omega)]
  have l : ∀ c, (c < 6 ∨ 10 < c) → addA L a b d c = L c := by
    intro c hc
    unfold addA
    rw [up1_nc (by omega), up1_nc (by omega), up1_nc (by omega), up1_nc (by omega), up1_nc (by omega)]
  have l6 : addA L a b d 6 4 = L 6 4 + 1 := by unfold addA; rw [up1_at]
  refine ⟨fun k h0 h1 => ?_, fun s h0 h1 => ?_, ⟨?_, ?_, ?_⟩, ?_, fun t h0 h1 => ?_, ?_, fun v h0 h1 => ?_, ?_, fun x h0 h1 => ?_⟩
  · rw [o _ (by omega), o _ (by omega), l 2 (by omega), l 3 (by omega)]; exact r1 k h0 h1
  · rw [o _ (by omega), l 4 (by omega)]; exact r2 s h0 h1
  · rw [o _ (by omega), l 5 (by omega)]; exact r3.1
  · rw [o _ (by omega), l 5 (by omega)]; exact r3.2.1
  · rw [o _ (by omega), l 5 (by omega)]; exact r3.2.2
  · rw [l6]
    unfold gA
    rw [upI_at]
  · rw [l6] at h1
    by_cases ht : t = L 6 4
    · unfold addA gA
      rw [ht]
      refine ⟨?_, ?_, ?_, ?_⟩
      · rw [upI_ne (by omega), upI_ne (by omega), upI_ne (by omega), upI_ne (by omega), upI_at, up1_nc (by omega), up1_nc (by omega), up1_nc (by omega), up1_nc (by omega), up1_at]
      · rw [upI_ne (by omega), upI_ne (by omega), upI_ne (by omega), upI_at, up1_nc (by omega), up1_nc (by omega), up1_nc (by omega), up1_at]
      · rw [upI_ne (by omega), upI_ne (by omega), upI_at, up1_nc (by omega), up1_nc (by omega), up1_at]
      · rw [upI_ne (by omega), upI_at, up1_nc (by omega), up1_at]
    · rw [o _ (by omega), o _ (by omega), o _ (by omega), o _ (by omega)]
      unfold addA
      rw [up1_nc (c' := 7) (by omega), up1_nc (c' := 7) (by omega), up1_nc (c' := 7) (by omega), up1_nc (c' := 7) (by omega), up1_nk ht, up1_nc (c' := 8) (by omega), up1_nc (c' := 8) (by omega), up1_nc (c' := 8) (by omega), up1_nk ht, up1_nc (c' := 8) (by omega), up1_nc (c' := 9) (by omega), up1_nc (c' := 9) (by omega), up1_nk ht, up1_nc (c' := 9) (by omega), up1_nc (c' := 9) (by omega), up1_nc (c' := 10) (by omega), up1_nk ht, up1_nc (c' := 10) (by omega), up1_nc (c' := 10) (by omega), up1_nc (c' := 10) (by omega)]
      exact r5 t h0 (by omega)
  · rw [o _ (by omega), l 11 (by omega)]; exact r6
  · rw [l 11 (by omega)] at h1
    rw [o _ (by omega), o _ (by omega), l 12 (by omega), l 13 (by omega), l (15 + v) (by omega)]
    exact ⟨(r7 v h0 h1).1, (r7 v h0 h1).2.1, fun p p0 p1 => by rw [o _ (by omega)]; exact (r7 v h0 h1).2.2 p p0 p1⟩
  · rw [o _ (by omega), l 25 (by omega)]; exact r8
  · rw [l 25 (by omega)] at h1
    rw [o _ (by omega), o _ (by omega), o _ (by omega), l 26 (by omega), l 27 (by omega), l 28 (by omega)]
    exact r9 x h0 h1
/-- a duty cut or grown to n trips, its row as f -/
theorem RG_duty {g g' : Int → Int} {L L' : LFn} {v : Int} (hR : RG g L) (hv : WFv L) (ht : WFt L) (hb : WFb L) (h0 : 0 ≤ v) (h1 : v < L 11 3)
    (o : ∀ x, (x ≠ 171 + v ∧ (x < 181 + 30 * v ∨ 181 + 30 * v + 30 ≤ x)) → g' x = g x) (l : ∀ c, c ≠ 13 → c ≠ 15 + v → L' c = L c) (l13 : ∀ w, w ≠ v → L' 13 w = L 13 w)
    (e13 : g' (171 + v) = L' 13 v) (er : ∀ p, 0 ≤ p → p < L' 13 v → g' (181 + 30 * v + p) = L' (15 + v) p) : RG g' L' := by
  obtain ⟨r1, r2, r3, r4, r5, r6, r7, r8, r9⟩ := hR
  have nv := hv.1
  have nb := hb.1
  have nt := ht.1
  refine ⟨fun k h0 h1 => ?_, fun s h0 h1 => ?_, ⟨?_, ?_, ?_⟩, ?_, fun t h0 h1 => ?_, ?_, fun w w0 w1 => ?_, ?_, fun x h0 h1 => ?_⟩
  · rw [o _ (by omega), o _ (by omega), l 2 (by omega) (by omega), l 3 (by omega) (by omega)]; exact r1 k h0 h1
  · rw [o _ (by omega), l 4 (by omega) (by omega)]; exact r2 s h0 h1
  · rw [o _ (by omega), l 5 (by omega) (by omega)]; exact r3.1
  · rw [o _ (by omega), l 5 (by omega) (by omega)]; exact r3.2.1
  · rw [o _ (by omega), l 5 (by omega) (by omega)]; exact r3.2.2
  · rw [o _ (by omega), l 6 (by omega) (by omega)]; exact r4
  · rw [l 6 (by omega) (by omega)] at h1
    rw [o _ (by omega), o _ (by omega), o _ (by omega), o _ (by omega), l 7 (by omega) (by omega), l 8 (by omega) (by omega), l 9 (by omega) (by omega), l 10 (by omega) (by omega)]; exact r5 t h0 h1
  · rw [o _ (by omega), l 11 (by omega) (by omega)]; exact r6
  · rw [l 11 (by omega) (by omega)] at w1
    have hl := (hv.2 w w0 w1).2.2
    by_cases hw : w = v
    · subst hw
      rw [o _ (by omega), l 12 (by omega) (by omega)]
      exact ⟨(r7 w w0 w1).1, e13, er⟩
    · rw [o _ (by omega), o _ (by omega), l 12 (by omega) (by omega), l13 w hw, l (15 + w) (by omega) (by omega)]
      exact ⟨(r7 w w0 w1).1, (r7 w w0 w1).2.1, fun p p0 p1 => by rw [o _ (by omega)]; exact (r7 w w0 w1).2.2 p p0 p1⟩
  · rw [o _ (by omega), l 25 (by omega) (by omega)]; exact r8
  · rw [l 25 (by omega) (by omega)] at h1
    rw [o _ (by omega), o _ (by omega), o _ (by omega), l 26 (by omega) (by omega), l 27 (by omega) (by omega), l 28 (by omega) (by omega)]
    exact r9 x h0 h1
/-- a duty cut to n trips -/
theorem RG_cut {g : Int → Int} {L : LFn} {v n : Int} (hR : RG g L) (hv : WFv L) (ht : WFt L) (hb : WFb L) (h0 : 0 ≤ v) (h1 : v < L 11 3) (hn : n ≤ L 13 v) : RG (upI g (171 + v) n) (up1 L 13 v n) := by
  have hl := (hv.2 v h0 h1).2.2
  refine RG_duty hR hv ht hb h0 h1 (fun x hx => upI_ne (by omega)) (fun c hc _ => up1_nc hc) (fun w hw => up1_nk hw) (by rw [upI_at, up1_at]) (fun p p0 p1 => ?_)
  have nv := hv.1
  rw [up1_at] at p1
  rw [upI_ne (by omega), up1_nc (by omega)]
  exact (hR.2.2.2.2.2.2.1 v h0 h1).2.2 p p0 (by omega)
section Mw
variable {G : GT} {K : List Value → Mem → Prop} {X : String → Mem → Prop} {M : Mem} {L : LFn}
/-- the reference's line and what else is its own is as it was but for row 1 -/
abbrev P1 (c _k : Int) : Prop := c = 1
theorem fx1 {M M' : Mem} (h : FrX P1 M M') (k v : Int) : FrX P1 M (wr M' 8 0 1 k v) := FrX.wr h (show P1 1 k from rfl) v
theorem m_tripComes (hR : RG (M 8 0 1) L) (hn0 : 0 ≤ L 6 4) (hn1 : L 6 4 < 30) (hv : WFv L) (hb : WFb L) {a b d : Int} (k : ∀ M', FrX P1 M M' → RG (M' 8 0 1) (addA L a b d) → K [] M') : Call G 0 0 zX12_tripComes [rr G 8 0 0, iv a, iv b, iv d] M K X := by
  have e37 := hR.2.2.2.1
  refine bX12_tripComes ?_
  rw [e37]
  refine ⟨by omega, by omega, by omega, by omega, fun M7 e7 => ⟨by omega, by omega, by omega, by omega, fun M16 e16 => ?_⟩⟩
  have f16 : FrX P1 M M16 := by rw [e16, e7]; exact fx1 (fx1 (fx1 (fx1 FrX.rf _ _) _ _) _ _) _ _
  have e16r : M16 8 0 1 = upI (upI (upI (upI (M 8 0 1) (40 + 4 * L 6 4) a) (40 + 4 * L 6 4 + 1) b) (40 + 4 * L 6 4 + 2) d) (40 + 4 * L 6 4 + 3) 0 := by rw [e16, wr_rv, wr_rv, e7, wr_rv, wr_rv]
  have n37 : M16 8 0 1 37 = L 6 4 := by rw [e16r, upI_ne (by omega), upI_ne (by omega), upI_ne (by omega), upI_ne (by omega)]; exact e37
  refine k _ (fx1 f16 _ _) ?_
  rw [wr_rv, n37, e16r]
  exact RG_addA hR hn0 hn1 hv hb
theorem m_gives (hR : RG (M 8 0 1) L) (hv : WFv L) (ht : WFt L) (hb : WFb L) {t v : Int} (t0 : 0 ≤ t) (t1 : t < L 6 4) (h0 : 0 ≤ v) (h1 : v < L 11 3) (hl : L 13 v < 30) (k : ∀ M', FrX P1 M M' → RG (M' 8 0 1) (insL L v (tbf L (L 9 t) v) t) → K [iv (tbf L (L 9 t) v)] M') : Call G 2 0 zX12_gives [rr G 8 0 0, iv t, iv v] M K X := by
  have nv := hv.1
  have hlv := (hv.2 v h0 h1).2.2
  have hbd := tbf_bd (L := L) (m := L 9 t) (v := v) hlv.1
  have hg := hR.2.2.2.2.2.2.1 v h0 h1
  refine bX12_gives (m_placeFor hR ht hv t0 t1 h0 h1 (kI_mk ⟨by omega, by omega, ?_⟩))
  rw [hg.2.1]
  generalize hp : tbf L (L 9 t) v = p at hbd k ⊢
  generalize hn : L 13 v = n at *
  -- the row moved up above q
  have gen : ∀ q : Nat, p + q ≤ n → ∀ N : Mem, FrX P1 M N → (∀ x, (x < 181 + 30 * v ∨ 181 + 30 * v + 30 ≤ x) → N 8 0 1 x = M 8 0 1 x) → (∀ y, 0 ≤ y → y ≤ n → (y ≤ p + q → y < n → N 8 0 1 (181 + 30 * v + y) = L (15 + v) y) ∧ (p + q < y → N 8 0 1 (181 + 30 * v + y) = L (15 + v) (y - 1))) →
      eX12_gives G K X 19 [(0, rr G 8 0 0), (1, iv t), (2, iv v), (3, iv p), (4, iv (p + q))] [] N := by
    intro q
    induction q with
    | zero =>
      intro hq N fN oN rN
      refine bX12_gives_19 ⟨i32 (by omega), i32 (by omega), fun _ => ⟨by omega, by omega, by omega, by omega, fun M14 e14 => ?_⟩, fun z => absurd z (by omega)⟩
      have n171 : wr N 8 0 1 (181 + 30 * v + p) t 8 0 1 (171 + v) = n := by rw [wr_nk (by omega), oN _ (by omega)]; exact hg.2.1
      rw [n171] at e14
      refine k M14 (by rw [e14]; exact fx1 (fx1 fN _ _) _ _) ?_
      rw [e14, wr_rv, wr_rv]
      refine RG_duty hR hv ht hb h0 h1 (fun x hx => ?_) (fun c c1 c2 => ?_) (fun w hw => ?_) ?_ (fun y y0 y1 => ?_)
      · rw [upI_ne (by omega), upI_ne (by omega)]; exact oN x (by omega)
      · unfold insL
        rw [up1_nc c1, upr_ne c2]
      · rw [insL_13 _ _ _ _ _ h0, if_neg hw]
      · rw [upI_at, insL_13 _ _ _ _ _ h0, if_pos rfl, hn]
      · rw [insL_13 _ _ _ _ _ h0, if_pos rfl, hn] at y1
        rw [insL_row _ _ _ _ _ h0 h0, if_pos rfl, hn, upI_ne (by omega)]
        have hr := rN y y0 (by omega)
        unfold insE
        by_cases hy : y = p
        · rw [hy, upI_at, upI_at]
        · rw [upI_ne (by omega), upI_ne hy]
          unfold shU
          by_cases hy2 : p < y
          · rw [if_pos (by omega)]
            exact hr.2 (by omega)
          · rw [if_neg (by omega)]
            exact hr.1 (by omega) (by omega)
    | succ q ih =>
      intro hq N fN oN rN
      have hrq := (rN (p + q) (by omega) (by omega)).1 (by omega) (by omega)
      refine bX12_gives_19 ⟨i32 (by omega), i32 (by omega), fun z => absurd (show p < p + ((q + 1 : Nat) : Int) by omega) z, fun _ => bX12_dutyAt ⟨by omega, by omega, kI_mk ⟨by omega, by omega, ?_⟩⟩⟩
      rw [show p + ((q + 1 : Nat) : Int) + (-1) = p + q by omega, show p + ((q + 1 : Nat) : Int) - 1 = p + q by omega, hrq]
      refine ih (by omega) _ (fx1 fN _ _) (fun x hx => by rw [wr_nk (by omega)]; exact oN x hx) (fun y y0 y1 => ⟨fun y2 y3 => ?_, fun y2 => ?_⟩)
      · rw [wr_nk (by omega)]
        exact (rN y y0 y1).1 (by omega) y3
      · by_cases hy : y = p + ((q + 1 : Nat) : Int)
        · rw [hy, wr_at]
          congr 1
          omega
        · rw [wr_nk (by omega)]
          exact (rN y y0 y1).2 (by omega)
  have := gen (n - p).toNat (by omega) M FrX.rf (fun _ _ => rfl) (fun y y0 y1 => ⟨fun _ y3 => hg.2.2 y y0 y3, fun y2 => by omega⟩)
  rw [show p + (((n - p).toNat : Nat) : Int) = n by omega] at this
  exact this
end Mw
