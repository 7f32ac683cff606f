/-! ===== publics that only read: planned, passage, headway, meanHeadway, duty, nextTrip, refusal ===== -/
abbrev eIX : String := "java/lang/IndexOutOfBoundsException"
abbrev eIA : String := "java/lang/IllegalArgumentException"
abbrev eIS : String := "java/lang/IllegalStateException"
abbrev eAR : String := "java/lang/ArithmeticException"
/-- the class's scratch regions; all else stands -/
def SC (M M' : Mem) : Prop := ∀ a b, ¬ (a = 1 ∧ b = 11) → (a < 3 ∨ 6 < a) → M' a b = M a b
theorem SC.rf {M : Mem} : SC M M := fun _ _ _ _ => rfl
theorem SC.tr {M M1 M2 : Mem} (h : SC M M1) (h2 : SC M1 M2) : SC M M2 := fun a b p q => (h2 a b p q).trans (h a b p q)
theorem SC.q {q : Int} {M M' : Mem} (h : FrQ q M M') : SC M M' := fun a b _ r => h.ne (Or.inl (by omega))
/-- the class answers: 0 and r, or it throws e1, e2 -/
def RdP (M : Mem) (K : List Value → Mem → Prop) (X : String → Mem → Prop) (c : Int) (r : List Value) (e1 e2 : String) : Prop := ∀ M', SC M M' → (c = 0 → K r M') ∧ (c = 1 → X e1 M') ∧ (c = 2 → X e2 M')
section Rp
variable {K : List Value → Mem → Prop} {X : String → Mem → Prop} {M M' : Mem} {c : Int} {r : List Value} {e1 e2 : String}
theorem RdP.at (h : RdP M K X c r e1 e2) (f : SC M M') : RdP M' K X c r e1 e2 := fun M2 f2 => h M2 (f.tr f2)
theorem RdP.k0 (h : RdP M K X 0 r e1 e2) : K r M := (h M SC.rf).1 rfl
theorem RdP.k1 (h : RdP M K X 1 r e1 e2) : X e1 M := (h M SC.rf).2.1 rfl
theorem RdP.k2 (h : RdP M K X 2 r e1 e2) : X e2 M := (h M SC.rf).2.2 rfl
end Rp
/-- the reference's scratch -/
abbrev PZ (c k : Int) : Prop := (5 ≤ c ∧ c ≤ 21) ∨ (c = 0 ∧ (k = 7 ∨ k = 10 ∨ (18 ≤ k ∧ k ≤ 23)))
/-- the reference answers: the code c and r, or r0 where c is not 0 -/
def RdM (M : Mem) (K : List Value → Mem → Prop) (c : Int) (r r0 : Value) : Prop := ∀ M', FrX PZ M M' → M' 8 0 0 7 = c → (c = 0 → K [r] M') ∧ (c ≠ 0 → K [r0] M')
theorem fz7 (M : Mem) (x : Int) : FrX PZ M (wr M 8 0 0 7 x) := FrX.wr FrX.rf (show PZ 0 7 from Or.inr ⟨rfl, Or.inl rfl⟩) x
theorem FrC.z {M M' : Mem} (h : FrC M M') : FrX PZ M M' := fun a b c k q => h a b c k (fun z => q ⟨z.1, z.2.1, by rcases z.2.2 with w | w | w; exact Or.inl (by omega); exact Or.inl (by omega); exact Or.inr ⟨w.1, Or.inr (Or.inl w.2)⟩⟩)
section Rm
variable {K : List Value → Mem → Prop} {M M' : Mem} {c : Int} {r r0 : Value}
theorem RdM.at (h : RdM M K c r r0) (f : FrX PZ M M') : RdM M' K c r r0 := fun M2 f2 => h M2 (f.tr f2)
theorem RdM.k0 (h : RdM M K 0 r r0) (z : M 8 0 0 7 = 0) : K [r] M := (h M FrX.rf z).1 rfl
theorem RdM.k0w (h : RdM M K 0 r r0) : K [r] (wr M 8 0 0 7 0) := (h _ (fz7 M 0) (wr_at _ _ _ _ _ _)).1 rfl
theorem RdM.kE (hc : c ≠ 0) (h : RdM M K c r r0) : K [r0] (wr M 8 0 0 7 c) := (h _ (fz7 M c) (wr_at _ _ _ _ _ _)).2 hc
end Rm
theorem nb {p : Prop} [Decidable p] (z : ¬ b2i p = 0) : p := Classical.byContradiction fun w => z (b2i_0.mpr w)
theorem rdm_fails {G : GT} {K : List Value → Mem → Prop} {M : Mem} {c : Int} {r : Value} (hc : c ≠ 0) (k : RdM M K c r (iv 0)) : Call G 0 0 zX12_fails [rr G 8 0 0, iv c] M (kI (fun x M1 => K [iv x] M1)) noX :=
  bX12_fails (kI_mk (k.kE hc))
def qPlan (L : LFn) (t s : Int) : Int × Int := if ¬ (0 ≤ t ∧ t < L 6 4) then (1, 0) else if ¬ onW L t s then (2, 0) else (0, tmA L t s)
def qPass (L : LFn) (d s p w : Int) : Int × Int := if ¬ ((0 ≤ d ∧ d < 2) ∧ 0 ≤ s ∧ s < 12) then (1, 0) else if ¬ (0 ≤ p ∧ p < (pasS L d s).1) then (2, 0) else (0, if w = 0 then (pasS L d s).2.1 p else (pasS L d s).2.2 p)
def qHead (L : LFn) (d s w : Int) : Int × Int := if ¬ ((0 ≤ d ∧ d < 2) ∧ 0 ≤ s ∧ s < 12) then (1, 0) else if (pasS L d s).1 < 2 then (2, 0) else (0, if w = 0 then lstH (pasS L d s) else grtH (pasS L d s))
def qMeanH (L : LFn) (d s : Int) : Int × UInt64 := if ¬ ((0 ≤ d ∧ d < 2) ∧ 0 ≤ s ∧ s < 12) then (1, FP.dconst0) else if (pasS L d s).1 < 2 then (2, FP.dconst0) else (0, FP.ddiv (FP.i2d (J (span (pasS L d s)))) (FP.i2d (J ((pasS L d s).1 - 1))))
def qDuty (L : LFn) (v p : Int) : Int × Int := if ¬ (0 ≤ v ∧ v < L 11 3) then (1, 0) else if ¬ (0 ≤ p ∧ p < L 13 v) then (2, 0) else (0, L (15 + v) p)
theorem n64 {a b : Int} (h0 : b ≠ 0) (hb : I32 b) : vf_n64 (FP.ddiv (FP.i2d (J a)) (FP.i2d (J b))) :=
  Jvm.Free.Fl.ddiv_out (Jvm.Free.Fl.i2d_fin (J a)).noNaN (Jvm.Free.Fl.i2d_fin (J b)) (Jvm.Free.Fl.i2d_nz (fun e => h0 (by
    have h9 : (J b).toInt = (0 : Int32).toInt := by rw [e]
    rw [show (0 : Int32).toInt = 0 from rfl] at h9
    unfold I32 at hb
    have h8 : (J b).toInt = b := Int32.toInt_ofInt_of_le (by omega) (by omega)
    omega)))
/-! the rows are sorted -/
def Srt (S : S3) : Prop := ∀ x y, 0 ≤ x → x ≤ y → y < S.1 → S.2.1 x ≤ S.2.1 y
theorem posN_hi (f : Int → Int) (m : Int) (n : Nat) : (∀ k : Int, posN f m n ≤ k → k < n → m < f k) ∧ (0 < posN f m n → f (posN f m n - 1) ≤ m) := by
  induction n with
  | zero => exact ⟨fun k h1 h2 => by have : (0 : Int) ≤ k := h1; omega, fun h => absurd h (by show ¬ (0 : Int) < 0; omega)⟩
  | succ n ih =>
    simp only [posN]
    split
    · rename_i h
      refine ⟨fun k h1 h2 => ?_, ih.2⟩
      by_cases e : k = n
      · rw [e]; exact h
      · exact ih.1 k h1 (by omega)
    · rename_i h
      refine ⟨fun k h1 h2 => by omega, fun _ => ?_⟩
      rw [show (n : Int) + 1 - 1 = n by omega]
      omega
theorem putS_srt {S : S3} (h : Srt S) (h0 : 0 ≤ S.1) (m t : Int) : Srt (putS S m t) := by
  have hp := posN_hi S.2.1 m S.1.toNat
  have hb := posN_bd S.2.1 m S.1.toNat
  intro x y x0 xy y1
  have y1' : y < S.1 + 1 := y1
  show insF S.2.1 (posN S.2.1 m S.1.toNat) m x ≤ insF S.2.1 (posN S.2.1 m S.1.toNat) m y
  generalize posN S.2.1 m S.1.toNat = p at *
  unfold insF
  by_cases hy : y < p
  · rw [if_pos hy, if_pos (by omega)]
    exact h x y x0 xy (by omega)
  · rw [if_neg hy]
    by_cases hy2 : y = p
    · rw [if_pos hy2]
      by_cases hx : x < p
      · rw [if_pos hx]
        have h1 := hp.2 (by omega)
        have h2 := h x (p - 1) x0 (by omega) (by omega)
        omega
      · rw [if_neg hx, if_pos (by omega)]
        exact Int.le_refl _
    · rw [if_neg hy2]
      by_cases hx : x < p
      · rw [if_pos hx]
        exact h x (y - 1) x0 (by omega) (by omega)
      · rw [if_neg hx]
        by_cases hx2 : x = p
        · rw [if_pos hx2]
          have := hp.1 (y - 1) (by omega) (by omega)
          omega
        · rw [if_neg hx2]
          exact h (x - 1) (y - 1) (by omega) (by omega) (by omega)
theorem foldS_srt (p : Int → Bool) (f g : Int → Int) (n : Nat) : Srt (foldS p f g n) := by
  induction n with
  | zero => intro x y x0 xy y1; exact absurd y1 (by show ¬ y < 0; omega)
  | succ n ih =>
    simp only [foldS]
    split
    · exact putS_srt ih (foldS_size p f g n).1 _ _
    · exact ih
section Pr
variable {G : GT} {K : List Value → Mem → Prop} {X : String → Mem → Prop} {M : Mem} {L : LFn}
theorem p_planned (hL : M 1 0 = L) (hw : WFn L) {t s : Int} (hti : I32 t) (hsi : I32 s) (k : RdP M K X (qPlan L t s).1 [iv (qPlan L t s).2] eIX nsE) : Call G 9 2 zX11_planned [rr G 0 0 0, iv t, iv s] M K X := by
  obtain ⟨ht, hm, hv, hb⟩ := hw
  have nt := ht.1
  unfold qPlan at k
  refine bX11_planned ?_
  rw [hL]
  refine sp_requireIndex hti (i32 (by omega)) (fun z => kV_mk ?_) (fun z => ?_)
  · rw [if_neg (fun w => w z)] at k
    refine sp_isOnWay (by omega) (by omega) (by rw [hL]; exact ht) z.1 (by rw [hL]; exact z.2) hsi (kI_mk ?_)
    rw [hL]
    refine ⟨b2i_i32 _, fun y => ?_, fun y => ?_⟩
    · have y' := nb y
      rw [if_neg (fun w => w y')] at k
      have h7 := ht.2 t z.1 z.2
      refine sp_timeAt (by omega) (by omega) (by rw [hL]; exact ht) z.1 (by rw [hL]; exact z.2) (by omega) (by omega) (kI_mk ?_)
      rw [hL]
      exact k.k0
    · rw [if_pos (b2i_0.mp y)] at k
      exact k.k2
  · rw [if_pos z] at k
    exact k.k1
theorem q_planned (hR : RG (M 8 0 1) L) (hw : WFn L) {t s : Int} (hti : I32 t) (hsi : I32 s) (k : RdM M K (qPlan L t s).1 (iv (qPlan L t s).2) (iv 0)) : Call G 2 0 zX12_planned [rr G 8 0 0, iv t, iv s] M K X := by
  obtain ⟨ht, hm, hv, hb⟩ := hw
  unfold qPlan at k
  refine bX12_planned (m_isTrip hR ht hti (kI_mk ⟨b2i_i32 _, fun z => ?_, fun z => ?_⟩))
  · rw [if_pos (b2i_0.mp z)] at k
    exact k.kE (by decide)
  · have z' := nb z
    rw [if_neg (fun w => w z')] at k
    refine m_isOnWay hR ht z'.1 z'.2 hsi (kI_mk ⟨b2i_i32 _, fun y => ?_, fun y => ?_⟩)
    · rw [if_pos (b2i_0.mp y)] at k
      exact k.kE (by decide)
    · have y' := nb y
      have h7 := ht.2 t z'.1 z'.2
      rw [if_neg (fun w => w y')] at k
      exact m_plannedAt (by rw [thr_g]; exact hR) ht z'.1 z'.2 (by omega) (by omega) (kI_mk k.k0w)
theorem p_passage (hL : M 1 0 = L) (hw : WFn L) {d s p w : Int} (hd : I32 d) (hs : I32 s) (hp : I32 p) (hwi : I32 w) (k : RdP M K X (qPass L d s p w).1 [iv (qPass L d s p w).2] eIX nsE) : Call G 9 3 zX11_passage [rr G 0 0 0, iv d, iv s, iv p, iv w] M K X := by
  obtain ⟨ht, hm, hv, hb⟩ := hw
  unfold qPass at k
  refine bX11_passage (sp_requireIndex hd (i32 (by omega)) (fun z => kV_mk (sp_requireIndex hs (i32 (by omega)) (fun y => kV_mk ?_) (fun y => ?_))) (fun z => ?_))
  · rw [if_neg (fun u => u ⟨z, y⟩)] at k
    refine sp_listPassages (by omega) (by omega) (by omega) (by omega) (by rw [hL]; exact ht) (by rw [hL]; exact hm) hd y.1 (by omega) (fun M' f s' => kV_mk ?_)
    rw [hL] at s'
    replace k := k.at (SC.q f)
    obtain ⟨⟨s0, s1, s2⟩, s4⟩ := s'
    refine ⟨hp, fun u => ?_, fun u => ⟨by rw [s2]; exact i32 (by omega), fun x => ⟨hwi, fun q => ⟨by omega, by omega, ?_⟩, fun q => ⟨by omega, by omega, ?_⟩⟩, fun x => ?_⟩⟩
    · rw [if_pos (fun x => by omega)] at k; exact k.k2
    · rw [if_neg (fun v => v ⟨by omega, by omega⟩), if_pos q] at k
      rw [(s4 p (by omega) (by omega)).1]
      exact k.k0
    · rw [if_neg (fun v => v ⟨by omega, by omega⟩), if_neg q] at k
      rw [(s4 p (by omega) (by omega)).2]
      exact k.k0
    · rw [if_pos (fun v => by omega)] at k; exact k.k2
  · rw [if_pos (fun u => y u.2)] at k; exact k.k1
  · rw [if_pos (fun u => z u.1)] at k; exact k.k1
theorem q_passage (hR : RG (M 8 0 1) L) (hw : WFn L) {d s p w : Int} (hd : I32 d) (hs : I32 s) (hp : I32 p) (hwi : I32 w) (k : RdM M K (qPass L d s p w).1 (iv (qPass L d s p w).2) (iv 0)) : Call G 4 0 zX12_passage [rr G 8 0 0, iv d, iv s, iv p, iv w] M K X := by
  obtain ⟨ht, hm, hv, hb⟩ := hw
  have hR' : RG (wr M 8 0 0 7 0 8 0 1) L := by rw [thr_g]; exact hR
  unfold qPass at k
  refine bX12_passage (m_in hd (i32 (by omega)) (i32 (by omega)) (kI_mk ⟨b2i_i32 _, fun z => ?_, fun z => m_isStop hs (kI_mk ⟨b2i_i32 _, fun y => ?_, fun y => ?_⟩)⟩))
  · rw [if_pos (fun u => (b2i_0.mp z) ⟨by omega, by omega⟩)] at k
    exact k.kE (by decide)
  · rw [if_pos (fun u => (b2i_0.mp y) ⟨by omega, by omega⟩)] at k
    exact k.kE (by decide)
  · have z' := nb z
    have y' := nb y
    rw [if_neg (fun u => u ⟨by omega, by omega⟩)] at k
    refine m_passages hR' ht hm hd y'.1 y'.2 (fun M' f s' => kV_mk ?_)
    have e7 : M' 8 0 0 7 = 0 := (f 8 0 0 7 (by omega)).trans (wr_at _ _ _ _ _ _)
    replace k := k.at ((fz7 M 0).tr f.z)
    obtain ⟨⟨s0, s1, s2⟩, s4⟩ := s'
    refine m_in hp (i32 (by omega)) (by rw [s2]; exact i32 (by omega)) (kI_mk ⟨b2i_i32 _, fun x => ?_, fun x => ?_⟩)
    · have x' := nb x
      rw [s2] at x'
      rw [if_neg (fun v => v ⟨by omega, by omega⟩)] at k
      refine ⟨hwi, fun q => ⟨by omega, by omega, ?_⟩, fun q => ⟨by omega, by omega, ?_⟩⟩
      · rw [if_pos q] at k
        rw [(s4 p (by omega) (by omega)).1]
        exact k.k0 e7
      · rw [if_neg q] at k
        rw [(s4 p (by omega) (by omega)).2]
        exact k.k0 e7
    · have x' := b2i_0.mp x
      rw [s2] at x'
      rw [if_pos (fun v => x' ⟨by omega, by omega⟩)] at k
      exact rdm_fails (by decide) k
theorem p_headway (hL : M 1 0 = L) (hw : WFn L) {d s w : Int} (hd : I32 d) (hs : I32 s) (hwi : I32 w) (k : RdP M K X (qHead L d s w).1 [iv (qHead L d s w).2] eIX nsE) : Call G 9 3 zX11_headway [rr G 0 0 0, iv d, iv s, iv w] M K X := by
  obtain ⟨ht, hm, hv, hb⟩ := hw
  unfold qHead at k
  refine bX11_headway (sp_requireIndex hd (i32 (by omega)) (fun z => kV_mk (sp_requireIndex hs (i32 (by omega)) (fun y => kV_mk ?_) (fun y => ?_))) (fun z => ?_))
  · rw [if_neg (fun u => u ⟨z, y⟩)] at k
    refine sp_listPassages (by omega) (by omega) (by omega) (by omega) (by rw [hL]; exact ht) (by rw [hL]; exact hm) hd y.1 (by omega) (fun M' f s' => kV_mk ?_)
    rw [hL] at s'
    replace k := k.at (SC.q f)
    have hsm := pasS_sm ht hm (d := d) y.1 (show s ≤ 11 by omega)
    have s9 := s'
    obtain ⟨⟨s0, s1, s2⟩, s4⟩ := s'
    rw [s2]
    refine ⟨i32 (by omega), fun u => ⟨hwi, fun x => ?_, fun x => ?_⟩, fun u => ?_⟩
    · rw [if_neg u, if_pos x] at k
      exact sp_leastHeadway (by omega) (by omega) s9 hsm (by omega) (kI_mk k.k0)
    · rw [if_neg u, if_neg x] at k
      exact sp_greatestHeadway (by omega) (by omega) s9 hsm (by omega) (kI_mk k.k0)
    · rw [if_pos u] at k; exact k.k2
  · rw [if_pos (fun u => y u.2)] at k; exact k.k1
  · rw [if_pos (fun u => z u.1)] at k; exact k.k1
theorem q_headway (hR : RG (M 8 0 1) L) (hw : WFn L) {d s w : Int} (hd : I32 d) (hs : I32 s) (hwi : I32 w) (k : RdM M K (qHead L d s w).1 (iv (qHead L d s w).2) (iv 0)) : Call G 4 0 zX12_headway [rr G 8 0 0, iv d, iv s, iv w] M K X := by
  obtain ⟨ht, hm, hv, hb⟩ := hw
  have hR' : RG (wr M 8 0 0 7 0 8 0 1) L := by rw [thr_g]; exact hR
  unfold qHead at k
  refine bX12_headway (m_in hd (i32 (by omega)) (i32 (by omega)) (kI_mk ⟨b2i_i32 _, fun z => ?_, fun z => m_isStop hs (kI_mk ⟨b2i_i32 _, fun y => ?_, fun y => ?_⟩)⟩))
  · rw [if_pos (fun u => (b2i_0.mp z) ⟨by omega, by omega⟩)] at k
    exact k.kE (by decide)
  · rw [if_pos (fun u => (b2i_0.mp y) ⟨by omega, by omega⟩)] at k
    exact k.kE (by decide)
  · have z' := nb z
    have y' := nb y
    rw [if_neg (fun u => u ⟨by omega, by omega⟩)] at k
    refine m_passages hR' ht hm hd y'.1 y'.2 (fun M' f s' => kV_mk ?_)
    have e7 : M' 8 0 0 7 = 0 := (f 8 0 0 7 (by omega)).trans (wr_at _ _ _ _ _ _)
    replace k := k.at ((fz7 M 0).tr f.z)
    have hsm := pasS_sm ht hm (d := d) y'.1 y'.2
    have hst : Srt (pasS L d s) := foldS_srt _ _ _ _
    generalize pasS L d s = S at *
    obtain ⟨⟨s0, s1, s2⟩, s4⟩ := s'
    rw [s2]
    refine ⟨i32 (by omega), fun u => ?_, fun u => ?_⟩
    · rw [if_neg u] at k
      have a0 := (s4 0 (by omega) (by omega)).1
      have a1 := (s4 1 (by omega) (by omega)).1
      have b0 := hsm 0 (by omega) (by omega)
      have b1 := hsm 1 (by omega) (by omega)
      have b9 := hsm (S.1 - 1) (by omega) (by omega)
      have t1 := hst 0 1 (by omega) (by omega) (by omega)
      have t9 := hst 1 (S.1 - 1) (by omega) (by omega) (by omega)
      have hd9 : ∀ x, 1 ≤ x → x < S.1 → -200000 ≤ S.2.1 x - S.2.1 (x - 1) ∧ S.2.1 x - S.2.1 (x - 1) ≤ 200000 := fun x q1 q2 => by
        have b1 := hsm x (by omega) q2
        have b2 := hsm (x - 1) (by omega) (by omega)
        omega
      have hmn : ∀ x y : Int, min x y = x ∨ min x y = y := fun x y => by omega
      have hmx : ∀ x y : Int, max x y = x ∨ max x y = y := fun x y => by omega
      have hsp : -200000 ≤ span S ∧ span S ≤ 200000 ∧ S.2.1 1 - S.2.1 0 ≤ span S := by
        unfold span
        rw [if_neg (by omega)]
        omega
      rw [a0, a1]
      by_cases x : w = 0
      · rw [if_pos x] at k
        have h := loop_up (E := fun x => eX12_headway G K X 72 [(0, rr G 8 0 0), (3, iv w), (4, iv (gaps S.2.1 min (span S) x)), (5, iv x)] [] M') (a := 2) (b := S.1) (by omega)
          (bX12_headway_72 (by rw [s2]; exact ⟨i32 (by omega), i32 (by omega), fun _ => k.k0 e7, fun q => absurd q (by omega)⟩))
          (fun x9 q1 q2 hn => by
            have e1 := (s4 x9 (by omega) q2).1
            have e2 := (s4 (x9 - 1) (by omega) (by omega)).1
            have b3 := gaps_bd (f := S.2.1) (h := min) (k := x9) (B := 200000) (b := span S) ⟨hsp.1, hsp.2.1⟩ (fun y z1 z2 => hd9 y z1 (by omega)) hmn (by omega)
            have b4 := hd9 x9 (by omega) q2
            rw [gaps_step _ _ _ (show 1 ≤ x9 by omega)] at hn
            refine bX12_headway_72 ?_
            rw [s2, e1, e2]
            refine ⟨i32 (by omega), i32 (by omega), fun q => absurd q2 q, fun _ => ⟨by omega, by omega, by omega, by omega, hwi, fun _ => ⟨i32 (by omega), i32 (by omega), fun q => ?_, fun q => ?_⟩, fun q => absurd x q⟩⟩
            · rw [Int.min_eq_left (by omega)] at hn; exact hn
            · rw [Int.min_eq_right (by omega)] at hn; exact hn)
        have e : gaps S.2.1 min (span S) 2 = S.2.1 1 - S.2.1 0 := by
          have h9 := gaps_step S.2.1 min (span S) (k := 1) (Int.le_refl _)
          rw [gaps_1] at h9
          rw [show (2 : Int) = 1 + 1 by omega, h9, show (1 : Int) - 1 = 0 by omega]
          omega
        rw [e] at h
        exact h
      · rw [if_neg x] at k
        have h := loop_up (E := fun x => eX12_headway G K X 72 [(0, rr G 8 0 0), (3, iv w), (4, iv (gaps S.2.1 max 0 x)), (5, iv x)] [] M') (a := 2) (b := S.1) (by omega)
          (bX12_headway_72 (by rw [s2]; exact ⟨i32 (by omega), i32 (by omega), fun _ => k.k0 e7, fun q => absurd q (by omega)⟩))
          (fun x9 q1 q2 hn => by
            have e1 := (s4 x9 (by omega) q2).1
            have e2 := (s4 (x9 - 1) (by omega) (by omega)).1
            have b3 := gaps_bd (f := S.2.1) (h := max) (k := x9) (B := 200000) (b := 0) (by omega) (fun y z1 z2 => hd9 y z1 (by omega)) hmx (by omega)
            have b4 := hd9 x9 (by omega) q2
            rw [gaps_step _ _ _ (show 1 ≤ x9 by omega)] at hn
            refine bX12_headway_72 ?_
            rw [s2, e1, e2]
            refine ⟨i32 (by omega), i32 (by omega), fun q => absurd q2 q, fun _ => ⟨by omega, by omega, by omega, by omega, hwi, fun q => absurd q x, fun _ => ⟨i32 (by omega), i32 (by omega), fun q => ?_, fun q => ?_⟩⟩⟩
            · rw [Int.max_eq_left (by omega)] at hn; exact hn
            · rw [Int.max_eq_right (by omega)] at hn; exact hn)
        have e : gaps S.2.1 max 0 2 = S.2.1 1 - S.2.1 0 := by
          have h9 := gaps_step S.2.1 max 0 (k := 1) (Int.le_refl _)
          rw [gaps_1] at h9
          rw [show (2 : Int) = 1 + 1 by omega, h9, show (1 : Int) - 1 = 0 by omega]
          omega
        rw [e] at h
        exact h
    · rw [if_pos u] at k
      exact rdm_fails (by decide) k
theorem p_meanHeadway (hL : M 1 0 = L) (hw : WFn L) {d s : Int} (hd : I32 d) (hs : I32 s) (k : RdP M K X (qMeanH L d s).1 [.double (qMeanH L d s).2] eIX eAR) : Call G 9 3 zX11_meanHeadway [rr G 0 0 0, iv d, iv s] M K X := by
  obtain ⟨ht, hm, hv, hb⟩ := hw
  unfold qMeanH at k
  refine bX11_meanHeadway (sp_requireIndex hd (i32 (by omega)) (fun z => kV_mk (sp_requireIndex hs (i32 (by omega)) (fun y => kV_mk ?_) (fun y => ?_))) (fun z => ?_))
  · rw [if_neg (fun u => u ⟨z, y⟩)] at k
    refine sp_listPassages (by omega) (by omega) (by omega) (by omega) (by rw [hL]; exact ht) (by rw [hL]; exact hm) hd y.1 (by omega) (fun M' f s' => kV_mk ?_)
    rw [hL] at s'
    replace k := k.at (SC.q f)
    have s9 := s'
    obtain ⟨⟨s0, s1, s2⟩, s4⟩ := s'
    rw [s2]
    refine ⟨i32 (by omega), fun u => ?_, fun u => ?_⟩
    · rw [if_neg (by omega)] at k
      exact sp_span (by omega) (by omega) s9 (kI_mk ⟨n64 (by omega) (i32 (by omega)), k.k0⟩)
    · rw [if_pos (by omega)] at k; exact k.k2
  · rw [if_pos (fun u => y u.2)] at k; exact k.k1
  · rw [if_pos (fun u => z u.1)] at k; exact k.k1
theorem q_meanHeadway (hR : RG (M 8 0 1) L) (hw : WFn L) {d s : Int} (hd : I32 d) (hs : I32 s) (k : RdM M K (qMeanH L d s).1 (.double (qMeanH L d s).2) (.double FP.dconst0)) : Call G 4 0 zX12_meanHeadway [rr G 8 0 0, iv d, iv s] M K X := by
  obtain ⟨ht, hm, hv, hb⟩ := hw
  unfold qMeanH at k
  refine bX12_meanHeadway (m_in hd (i32 (by omega)) (i32 (by omega)) (kI_mk ⟨b2i_i32 _, fun z => ?_, fun z => m_isStop hs (kI_mk ⟨b2i_i32 _, fun y => ?_, fun y => ?_⟩)⟩))
  · rw [if_pos (fun u => (b2i_0.mp z) ⟨by omega, by omega⟩)] at k
    exact k.kE (by decide)
  · rw [if_pos (fun u => (b2i_0.mp y) ⟨by omega, by omega⟩)] at k
    exact k.kE (by decide)
  · have z' := nb z
    have y' := nb y
    rw [if_neg (fun u => u ⟨by omega, by omega⟩)] at k
    refine m_passages (by rw [thr_g]; exact hR) ht hm hd y'.1 y'.2 (fun M' f s' => kV_mk ?_)
    replace k := k.at ((fz7 M 0).tr f.z)
    generalize pasS L d s = S at *
    obtain ⟨⟨s0, s1, s2⟩, s4⟩ := s'
    rw [s2]
    refine ⟨i32 (by omega), fun u => ⟨by omega, by omega, n64 (by omega) (i32 (by omega)), ?_⟩, fun u => ?_⟩
    · rw [if_neg u] at k
      rw [(s4 (S.1 - 1) (by omega) (by omega)).1, (s4 0 (by omega) (by omega)).1]
      have h := k.k0w
      unfold span at h
      rw [if_neg (by omega)] at h
      exact h
    · rw [if_pos u] at k
      exact k.kE (by decide)
theorem p_duty (hL : M 1 0 = L) (hw : WFn L) {v p : Int} (hvi : I32 v) (hp : I32 p) (k : RdP M K X (qDuty L v p).1 [iv (qDuty L v p).2] eIX nsE) : Call G 9 2 zX11_duty [rr G 0 0 0, iv v, iv p] M K X := by
  obtain ⟨ht, hm, hv, hb⟩ := hw
  have nv := hv.1
  unfold qDuty at k
  refine bX11_duty ?_
  rw [hL]
  refine sp_requireIndex hvi (i32 (by omega)) (fun z => kV_mk ?_) (fun z => ?_)
  · rw [if_neg (fun u => u z)] at k
    have hl := (hv.2 v z.1 z.2).2.2
    rw [hL]
    refine ⟨hp, fun u => ?_, fun u => ⟨by omega, by omega, i32 (by omega), fun x => ⟨by omega, by omega, ?_⟩, fun x => ?_⟩⟩
    · rw [if_pos (fun x => by omega)] at k; exact k.k2
    · rw [if_neg (fun q => q ⟨by omega, x⟩)] at k; exact k.k0
    · rw [if_pos (fun q => x q.2)] at k; exact k.k2
  · rw [if_pos z] at k; exact k.k1
theorem q_duty (hR : RG (M 8 0 1) L) (hw : WFn L) {v p : Int} (hvi : I32 v) (hp : I32 p) (k : RdM M K (qDuty L v p).1 (iv (qDuty L v p).2) (iv 0)) : Call G 2 0 zX12_duty [rr G 8 0 0, iv v, iv p] M K X := by
  obtain ⟨ht, hm, hv, hb⟩ := hw
  have nv := hv.1
  unfold qDuty at k
  refine bX12_duty (m_isVehicle hR hv hvi (kI_mk ⟨b2i_i32 _, fun z => ?_, fun z => ?_⟩))
  · rw [if_pos (b2i_0.mp z)] at k
    exact k.kE (by decide)
  · have z' := nb z
    have hl := (hv.2 v z'.1 z'.2).2.2
    have h7 := hR.2.2.2.2.2.2.1 v z'.1 z'.2
    rw [if_neg (fun u => u z')] at k
    rw [h7.2.1]
    refine ⟨by omega, by omega, m_in hp (i32 (by omega)) (i32 (by omega)) (kI_mk ⟨b2i_i32 _, fun y => ?_, fun y => ?_⟩)⟩
    · rw [if_pos (fun u => (b2i_0.mp y) ⟨u.1, by omega⟩)] at k
      exact k.kE (by decide)
    · have y' := nb y
      rw [if_neg (fun u => u ⟨y'.1, by omega⟩)] at k
      exact m_dutyAt (by rw [thr_g]; exact hR) hv z'.1 z'.2 y'.1 (by omega) (kI_mk k.k0w)
theorem p_nextTrip (hL : M 1 0 = L) (hw : WFn L) {t : Int} (hti : I32 t) (k : RdP M K X (qNext L t).1 [iv (qNext L t).2] eIX nsE) : Call G 9 2 zX11_nextTrip [rr G 0 0 0, iv t] M K X := by
  obtain ⟨ht, hm, hv, hb⟩ := hw
  have nt := ht.1
  unfold qNext at k
  refine bX11_nextTrip ?_
  rw [hL]
  refine sp_requireIndex hti (i32 (by omega)) (fun z => kV_mk ?_) (fun z => ?_)
  · rw [if_neg (fun u => u z)] at k
    refine sp_soonestBehind (by omega) (by omega) (by rw [hL]; exact ht) (by rw [hL]; exact hm) z.1 (by rw [hL]; exact z.2) (kI_mk ?_)
    rw [hL]
    have hbd : -1 ≤ soon L t ∧ soon L t < 30 := by
      unfold soon
      have := best_bd (fun n => decide (L 10 n = 0 ∧ fol L n t)) (L 9) nt.1
      omega
    refine ⟨i32 (by omega), fun y => ?_, fun y => ?_⟩
    · rw [if_neg y] at k; exact k.k0
    · rw [if_pos y] at k; exact k.k2
  · rw [if_pos z] at k; exact k.k1
theorem p_refusal (hi : -1 ≤ M 0 0 0 8 ∧ M 0 0 0 8 ≤ 100) (k : RdP M K X (if M 0 0 0 8 = -1 then 2 else 0) [iv (M 0 0 0 8)] eIX nsE) : Call G 8 1 zX11_refusal [rr G 0 0 0] M K X := by
  refine bX11_refusal ⟨i32 (by omega), fun z => ?_, fun z => ?_⟩
  · rw [if_neg z] at k; exact k.k0
  · rw [if_pos z] at k; exact k.k2
end Pr
