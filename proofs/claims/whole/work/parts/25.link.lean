/-! ===== linking anew ===== -/
def canS (L : LFn) : S3 := foldS (fun v => decide (0 < L 13 v)) (fun v => arr L (L (15 + v) (L 13 v - 1))) (fun v => v) (L 11 3).toNat
def hasC (L : LFn) (t : Int) : Int := srch (fun x => decide (rsn L t t ((canS L).2.2 x) = 0)) 0 (canS L).1
def freC (L : LFn) (t : Int) : Int := srch (fun n => decide (L 13 (L 11 3 - 1 - n) = 0 ∧ rsn L t t (L 11 3 - 1 - n) = 0)) 0 (L 11 3)
def vF (L : LFn) (t : Int) : Int := if hasC L t = -1 then (if freC L t = -1 then -1 else L 11 3 - 1 - freC L t) else (canS L).2.2 (hasC L t)
def emL (L : LFn) : LFn := upr L 13 (filF (L 13) 10 0)
def lnkN (L : LFn) (f : Int → Int) : Nat → LFn × Int
  | 0 => (emL L, 0)
  | n + 1 => if vF (lnkN L f n).1 (f n) = -1 then ((lnkN L f n).1, (lnkN L f n).2 + 1) else (insL (lnkN L f n).1 (vF (lnkN L f n).1 (f n)) (tbf (lnkN L f n).1 ((lnkN L f n).1 9 (f n)) (vF (lnkN L f n).1 (f n))) (f n), (lnkN L f n).2)
theorem lnk_step (L : LFn) (f : Int → Int) {k : Int} (h : 0 ≤ k) : lnkN L f (k + 1).toNat = if vF (lnkN L f k.toNat).1 (f k) = -1 then ((lnkN L f k.toNat).1, (lnkN L f k.toNat).2 + 1) else (insL (lnkN L f k.toNat).1 (vF (lnkN L f k.toNat).1 (f k)) (tbf (lnkN L f k.toNat).1 ((lnkN L f k.toNat).1 9 (f k)) (vF (lnkN L f k.toNat).1 (f k))) (f k), (lnkN L f k.toNat).2) := by
  rw [show (k + 1).toNat = k.toNat + 1 by omega]
  simp only [lnkN]
  rw [show ((k.toNat : Nat) : Int) = k by omega]
theorem canS_ok {L : LFn} (hv : WFv L) {k : Int} (h0 : 0 ≤ k) (h1 : k < (canS L).1) : 0 ≤ (canS L).2.2 k ∧ (canS L).2.2 k < L 11 3 ∧ 0 < L 13 ((canS L).2.2 k) := by
  obtain ⟨x, x1, x2, x3, x4⟩ := foldS_mem _ k h0 h1
  have e : (canS L).2.2 k = x := x3
  have hn := hv.1
  rw [e]
  exact ⟨by omega, by omega, by simpa using x2⟩
theorem canS_size {L : LFn} (hv : WFv L) : 0 ≤ (canS L).1 ∧ (canS L).1 ≤ L 11 3 := by
  have := foldS_size (fun v => decide (0 < L 13 v)) (fun v => arr L (L (15 + v) (L 13 v - 1))) (fun v => v) (L 11 3).toNat
  have hn := hv.1
  unfold canS
  omega
theorem vF_bd {L : LFn} (hv : WFv L) (t : Int) : vF L t = -1 ∨ (0 ≤ vF L t ∧ vF L t < L 11 3) := by
  have hn := hv.1
  unfold vF
  split
  · have := srch_bd (fun n => decide (L 13 (L 11 3 - 1 - n) = 0 ∧ rsn L t t (L 11 3 - 1 - n) = 0)) (k := 0) (b := L 11 3) (Int.le_refl _)
    split
    · exact Or.inl rfl
    · right
      unfold freC at *
      omega
  · rename_i h
    right
    rcases srch_bd (fun x => decide (rsn L t t ((canS L).2.2 x) = 0)) (k := 0) (b := (canS L).1) (Int.le_refl _) with ⟨-, q | q⟩
    · exact absurd q h
    · have := canS_ok hv q.1 q.2
      exact ⟨this.1, this.2.1⟩
theorem rsn_bd (L : LFn) (f l v : Int) : 0 ≤ rsn L f l v ∧ rsn L f l v ≤ 6 := by
  unfold rsn
  split
  · omega
  · split
    · omega
    · split
      · omega
      · split <;> omega
/-- the same trips and track -/
def SmT (L N : LFn) : Prop := ∀ c, (c < 13 ∨ 24 < c) → L c = N c
theorem SmT.t {L N : LFn} (h : SmT L N) (ht : WFt N) : WFt L := by
  unfold WFt
  rw [h 6 (by omega), h 7 (by omega), h 8 (by omega), h 9 (by omega), h 10 (by omega)]
  exact ht
theorem SmT.m {L N : LFn} (h : SmT L N) (hm : WFm N) : WFm L := by
  unfold WFm
  rw [h 2 (by omega), h 3 (by omega), h 4 (by omega), h 5 (by omega)]
  exact hm
theorem insL_sm {L : LFn} {v p t : Int} (h0 : 0 ≤ v) (h1 : v < 10) : SmT (insL L v p t) L := by
  intro c hc
  unfold insL
  rw [up1_nc (by omega), upr_ne (by omega)]
theorem insL_13 (L : LFn) (v p t w : Int) (h0 : 0 ≤ v) : insL L v p t 13 w = if w = v then L 13 v + 1 else L 13 w := by
  unfold insL
  rw [up1_any]
  by_cases h : w = v
  · rw [if_pos ⟨rfl, h⟩, if_pos h]
  · rw [if_neg (fun q => h q.2), if_neg h, upr_ne (by omega)]
theorem insL_row (L : LFn) (v p t w : Int) (h0 : 0 ≤ v) (hw : 0 ≤ w) : insL L v p t (15 + w) = if w = v then insE (L (15 + v)) p (L 13 v) t else L (15 + w) := by
  unfold insL
  rw [up1_nc (by omega)]
  by_cases h : w = v
  · rw [if_pos h, h, upr_at]
  · rw [if_neg h, upr_ne (by omega)]
theorem insE_at (f : Int → Int) {p n t k : Int} (hp0 : 0 ≤ p) (hp1 : p ≤ n) (h0 : 0 ≤ k) (h1 : k < n + 1) : (k = p ∧ insE f p n t k = t) ∨ ∃ k', 0 ≤ k' ∧ k' < n ∧ insE f p n t k = f k' := by
  unfold insE upI shU
  by_cases hk : k = p
  · exact Or.inl ⟨hk, if_pos hk⟩
  · rw [if_neg hk]
    by_cases h : p < k ∧ k ≤ n
    · exact Or.inr ⟨k - 1, by omega, by omega, if_pos h⟩
    · exact Or.inr ⟨k, h0, by omega, if_neg h⟩
theorem insL_v {L : LFn} (hv : WFv L) {v p t : Int} (h0 : 0 ≤ v) (h1 : v < L 11 3) (hl : L 13 v < 30) (hp0 : 0 ≤ p) (hp1 : p ≤ L 13 v) (t0 : 0 ≤ t) (t1 : t < L 6 4) : WFv (insL L v p t) := by
  have hn := hv.1
  have hs := insL_sm (L := L) (p := p) (t := t) h0 (by omega)
  unfold WFv
  rw [hs 11 (by omega), hs 12 (by omega), hs 6 (by omega)]
  refine ⟨hv.1, fun w w0 w1 => ?_⟩
  have h := hv.2 w w0 w1
  rw [insL_13 _ _ _ _ _ h0, insL_row _ _ _ _ _ h0 w0]
  by_cases hw : w = v
  · subst hw
    rw [if_pos rfl, if_pos rfl]
    refine ⟨h.1, h.2.1, by omega, by omega, fun k k0 k1 => ?_⟩
    rcases insE_at (L (15 + w)) (t := t) hp0 hp1 k0 k1 with ⟨-, e⟩ | ⟨k', q0, q1, e⟩
    · rw [e]; exact ⟨t0, t1⟩
    · rw [e]; exact h.2.2.2.2 k' q0 q1
  · rw [if_neg hw, if_neg hw]
    exact h
theorem emL_sm (L : LFn) : SmT (emL L) L := by
  intro c hc
  unfold emL
  rw [upr_ne (by omega)]
theorem emL_v {L : LFn} (hv : WFv L) : WFv (emL L) := by
  have hn := hv.1
  have hs := emL_sm L
  unfold WFv
  rw [hs 11 (by omega), hs 12 (by omega), hs 6 (by omega)]
  refine ⟨hv.1, fun w w0 w1 => ?_⟩
  have h := hv.2 w w0 w1
  have e : emL L 13 w = 0 := by
    unfold emL
    rw [upr_at]
    exact if_pos (by omega)
  rw [e]
  exact ⟨h.1, h.2.1, by omega, by omega, fun k k0 k1 => by omega⟩
/-- what holds after n of those to be linked -/
theorem lnk_ok {L : LFn} (hv : WFv L) (f : Int → Int) (n : Nat) (hn30 : (n : Int) ≤ 30) (hf : ∀ x : Nat, x < n → 0 ≤ f x ∧ f x < L 6 4) : SmT (lnkN L f n).1 L ∧ WFv (lnkN L f n).1 ∧ (∀ v, 0 ≤ v → v < L 11 3 → (lnkN L f n).1 13 v ≤ n) ∧ 0 ≤ (lnkN L f n).2 ∧ (lnkN L f n).2 ≤ n := by
  have hn := hv.1
  induction n with
  | zero =>
    refine ⟨emL_sm L, emL_v hv, fun v v0 v1 => ?_, Int.le_refl _, Int.le_refl _⟩
    have e : (lnkN L f 0).1 13 v = 0 := by
      show emL L 13 v = 0
      unfold emL
      rw [upr_at]
      exact if_pos (by omega)
    rw [e]; exact Int.le_refl _
  | succ n ih =>
    obtain ⟨i1, i2, i3, i4, i5⟩ := ih (by omega) (fun x hx => hf x (by omega))
    have hft := hf n (by omega)
    have e6 : (lnkN L f n).1 6 = L 6 := i1 6 (by omega)
    have e11 : (lnkN L f n).1 11 = L 11 := i1 11 (by omega)
    have hb := vF_bd i2 (f n)
    simp only [lnkN]
    split
    · exact ⟨i1, i2, fun v v0 v1 => by have := i3 v v0 v1; show (lnkN L f n).1 13 v ≤ ((n + 1 : Nat) : Int); omega, by show 0 ≤ (lnkN L f n).2 + 1; omega, by show (lnkN L f n).2 + 1 ≤ ((n + 1 : Nat) : Int); omega⟩
    · rename_i hz
      have hb' : 0 ≤ vF (lnkN L f n).1 (f n) ∧ vF (lnkN L f n).1 (f n) < L 11 3 := by
        rcases hb with q | q
        · exact absurd q hz
        · rw [e11] at q; exact q
      generalize vF (lnkN L f n).1 (f n) = v at hb' hz ⊢
      have hl := i3 v hb'.1 hb'.2
      have hlv := (i2.2 v hb'.1 (by rw [e11]; exact hb'.2)).2.2
      have htb := tbf_bd (L := (lnkN L f n).1) (m := (lnkN L f n).1 9 (f n)) (v := v) hlv.1
      refine ⟨fun c hc => (insL_sm hb'.1 (by omega) c hc).trans (i1 c hc), insL_v i2 hb'.1 (by rw [e11]; exact hb'.2) (by omega) htb.1 htb.2 hft.1 (by rw [e6]; exact hft.2), fun w w0 w1 => ?_, i4, by show (lnkN L f n).2 ≤ ((n + 1 : Nat) : Int); omega⟩
      have := i3 w w0 w1
      show insL _ v _ _ 13 w ≤ ((n + 1 : Nat) : Int)
      rw [insL_13 _ _ _ _ _ hb'.1]
      split <;> omega
section Lk
variable {G : GT} {K : List Value → Mem → Prop} {X : String → Mem → Prop} {M : Mem} {L : LFn} {i j q : Int}
theorem sp_listWithDuty (hj0 : 0 ≤ j) (hj1 : j < 12) (hL : M 1 j = L) (hv : WFv L) (ht : WFt L) (hm : WFm L) (k : ∀ M', FrQ 2 M M' → SeqR M' 2 (canS L) → K [] M') : Call G 2 0 zX6_listWithDuty [rr G 4 0 0, rr G 1 j 0] M K X := by
  have hn := hv.1
  refine bX6_listWithDuty hj0 hj1 (sp_clear (by omega) (by omega) (fun M1 f1 s1 => kV_mk ?_))
  have gen := loop_up (E := fun v => 0 ≤ v → ∀ N : Mem, FrQ 2 M N → SeqR N 2 (foldS (fun v => decide (0 < L 13 v)) (fun v => arr L (L (15 + v) (L 13 v - 1))) (fun v => v) v.toNat) → eX6_listWithDuty G K X 9 [(0, rr G 4 0 0), (1, rr G 1 j 0), (2, iv v)] [] N) hn.1 (fun _ N hN hs => by
    have e : N 1 j = L := (hN.ne (Or.inl (by decide))).trans hL
    refine bX6_listWithDuty_9 hj0 hj1 ?_
    rw [e]
    exact ⟨i32 (by omega), i32 (by omega), fun _ => k N hN hs, fun z => absurd z (by omega)⟩) (fun v q1 q2 hn9 _ N hN hs => by
    have e : N 1 j = L := (hN.ne (Or.inl (by decide))).trans hL
    have h := hv.2 v q1 q2
    have hsz := foldS_size (fun v => decide (0 < L 13 v)) (fun v => arr L (L (15 + v) (L 13 v - 1))) (fun v => v) v.toNat
    have hn2 := ht.1
    refine bX6_listWithDuty_9 hj0 hj1 ⟨i32 (by omega), by rw [e]; exact i32 (by omega), fun z => absurd q2 (by rw [e] at z; exact z), fun _ => sp_lastTripOf hj0 hj1 (by rw [e]; exact hv) q1 (by rw [e]; exact q2) (kI_mk ?_)⟩
    rw [e]
    by_cases hz : 0 < L 13 v
    · rw [if_pos hz]
      have hd := h.2.2.2.2 (L 13 v - 1) (by omega) (by omega)
      have ha := arr_bd hm ht hd.1 hd.2
      refine ⟨i32 (by omega), fun y => absurd y (by omega), fun _ => sp_arrivalOf hj0 hj1 (by rw [e]; exact ht) hd.1 (by rw [e]; exact hd.2) (kI_mk ?_)⟩
      rw [e]
      refine sp_put (by omega) (by omega) hs (by omega) (foldS_i32 _ (fun x hx hp => ?_)) (i32 (by omega)) (fun M2 f2 s2 => kV_mk (hn9 (by omega) M2 (FrR.trans hN f2) ?_))
      · simp only [decide_eq_true_eq] at hp
        have h3 := (hv.2 (x : Int) (by omega) (by omega)).2.2.2.2 (L 13 x - 1) (by omega) (by omega)
        have h4 := arr_bd hm ht h3.1 h3.2
        exact i32 (by omega)
      · rw [foldS_step q1, if_pos (by simpa using hz)]
        exact s2
    · rw [if_neg hz]
      refine ⟨i32 (by omega), fun _ => hn9 (by omega) N hN ?_, fun y => absurd rfl y⟩
      rw [foldS_step q1, if_neg (by simpa using hz)]
      exact hs)
  exact gen (Int.le_refl _) M1 f1 s1
theorem sp_vehicleFor (hj0 : 0 ≤ j) (hj1 : j < 12) (hL : M 1 j = L) (hv : WFv L) (ht : WFt L) (hm : WFm L) {t : Int} (t0 : 0 ≤ t) (t1 : t < L 6 4) (k : ∀ M', FrQ 2 M M' → K [iv (vF L t)] M') : Call G 4 0 zX6_vehicleFor [rr G 4 0 0, iv t, rr G 1 j 0] M K X := by
  have hn := hv.1
  have hsz := canS_size hv
  refine bX6_vehicleFor hj0 hj1 (sp_listWithDuty hj0 hj1 hL hv ht hm (fun M1 f1 s1 => kV_mk ?_))
  have e : M1 1 j = L := (f1.ne (Or.inl (by decide))).trans hL
  have k1 := k M1 f1
  unfold vF at k1
  have lower : hasC L t = -1 → eX6_vehicleFor G K X 62 [(1, iv t), (2, rr G 1 j 0), (3, iv (L 11 3 - 1))] [] M1 := by
    intro hz
    rw [if_pos hz] at k1
    have gen := loop_up (E := fun n => K [iv (if srch (fun n => decide (L 13 (L 11 3 - 1 - n) = 0 ∧ rsn L t t (L 11 3 - 1 - n) = 0)) n (L 11 3) = -1 then -1 else L 11 3 - 1 - srch (fun n => decide (L 13 (L 11 3 - 1 - n) = 0 ∧ rsn L t t (L 11 3 - 1 - n) = 0)) n (L 11 3))] M1 → eX6_vehicleFor G K X 62 [(1, iv t), (2, rr G 1 j 0), (3, iv (L 11 3 - 1 - n))] [] M1) hn.1 (fun hk => by
      rw [srch_end (Int.le_refl _), if_pos rfl] at hk
      exact bX6_vehicleFor_62 hj0 hj1 ⟨i32 (by omega), fun _ => hk, fun z => absurd z (by omega)⟩) (fun n q1 q2 hn9 hk => by
      have h := hv.2 (L 11 3 - 1 - n) (by omega) (by omega)
      have hr := rsn_bd L t t (L 11 3 - 1 - n)
      have stp : L 11 3 - 1 - n + (-1) = L 11 3 - 1 - (n + 1) := by omega
      refine bX6_vehicleFor_62 hj0 hj1 ?_
      rw [e, stp]
      refine ⟨i32 (by omega), fun z => absurd z (by omega), fun _ => ⟨by omega, by omega, i32 (by omega), fun z => ?_, fun z => sp_reasonInDuty hj0 hj1 (by rw [e]; exact hv) (by rw [e]; exact ht) (by rw [e]; exact hm) t0 (by rw [e]; exact t1) t0 (by rw [e]; exact t1) (by omega) (by rw [e]; omega) (kI_mk ?_)⟩⟩
      · rw [srch_next q2 (by simp only [decide_eq_false_iff_not]; exact fun w => z w.1)] at hk
        exact hn9 hk
      · rw [e]
        refine ⟨i32 (by omega), fun y => ?_, fun y => ?_⟩
        · rw [srch_next q2 (by simp only [decide_eq_false_iff_not]; exact fun w => y w.2)] at hk
          exact hn9 hk
        · rw [srch_hit q2 (by simp only [decide_eq_true_eq]; exact ⟨z, y⟩), if_neg (by omega)] at hk
          exact hk)
    have := gen k1
    rw [show L 11 3 - 1 - 0 = L 11 3 - 1 by omega] at this
    exact this
  refine loop_up (E := fun x => (srch (fun x => decide (rsn L t t ((canS L).2.2 x) = 0)) x (canS L).1 = hasC L t) → 0 ≤ x → eX6_vehicleFor G K X 7 [(0, rr G 4 0 0), (1, iv t), (2, rr G 1 j 0), (3, iv x)] [] M1) hsz.1 (fun hk _ => ?_) (fun x q1 q2 hn9 hk _ => ?_) rfl (Int.le_refl _)
  · rw [srch_end (Int.le_refl _)] at hk
    refine bX6_vehicleFor_7 hj0 hj1 ?_
    rw [s1.1.2.2, e]
    exact ⟨i32 (by omega), i32 (by omega), fun _ => lower hk.symm, fun z => absurd z (by omega)⟩
  · have hc := canS_ok hv q1 q2
    have es := (s1.2 x q1 q2).2
    have hr := rsn_bd L t t ((canS L).2.2 x)
    refine bX6_vehicleFor_7 hj0 hj1 ?_
    rw [s1.1.2.2, es]
    refine ⟨i32 (by omega), i32 (by omega), fun z => absurd q2 z, fun _ => ⟨q1, by omega, sp_reasonInDuty hj0 hj1 (by rw [e]; exact hv) (by rw [e]; exact ht) (by rw [e]; exact hm) t0 (by rw [e]; exact t1) t0 (by rw [e]; exact t1) hc.1 (by rw [e]; exact hc.2.1) (kI_mk ?_)⟩⟩
    rw [e, es]
    refine ⟨i32 (by omega), fun y => ?_, fun y => ?_⟩
    · rw [srch_next q2 (by simpa using y)] at hk
      exact hn9 hk (by omega)
    · rw [srch_hit q2 (by simpa using y)] at hk
      rw [if_neg (by omega), ← hk] at k1
      exact k1
/-- what is linked, and how many are left -/
def lnk (L : LFn) : LFn × Int := lnkN L (actS L).2.2 (actS L).1.toNat
theorem sp_linkAnew (hj0 : 0 ≤ j) (hj1 : j < 12) (hL : M 1 j = L) (hv : WFv L) (ht : WFt L) (hm : WFm L) (k : ∀ M', (∀ a b, ¬ (a = 1 ∧ b = j) → a ≠ 5 → M' a b = M a b) → M' 1 j = (lnk L).1 → K [iv (lnk L).2] M') : Call G 5 0 zX6_linkAnew [rr G 4 0 0, rr G 1 j 0] M K X := by
  have hsz := actS_size ht
  have hn := ht.1
  have hnv := hv.1
  refine bX6_linkAnew hj0 hj1 (sp_emptyDuties hj0 hj1 (kV_mk ?_))
  have e0 : wrow M 1 j 13 (filF (M 1 j 13) 10 0) 1 j = emL L := by
    rw [wrow_reg, hL]
    rfl
  have hs0 := emL_sm L
  have ea : actS (emL L) = actS L := by
    unfold actS
    rw [hs0 10 (by omega), hs0 9 (by omega), hs0 6 (by omega)]
  refine sp_listActive hj0 hj1 (by omega) (by omega) (by rw [e0]; exact hs0.t ht) (fun M1 f1 s1 => kV_mk ?_)
  rw [e0, ea] at s1
  have e1 : M1 1 j = emL L := (f1.ne (Or.inl (by decide))).trans e0
  have fr0 : ∀ a b, ¬ (a = 1 ∧ b = j) → a ≠ 5 → M1 a b = M a b := fun a b n1 n5 => (f1.ne (Or.inl n5)).trans (wrow_rn n1)
  have gen := loop_up (E := fun x => 0 ≤ x → ∀ N : Mem, (∀ a b, ¬ (a = 1 ∧ b = j) → a ≠ 5 → N a b = M a b) → N 5 1 = M1 5 1 → N 1 j = (lnkN L (actS L).2.2 x.toNat).1 → eX6_linkAnew G K X 22 [(0, rr G 4 0 0), (1, rr G 1 j 0), (2, iv (lnkN L (actS L).2.2 x.toNat).2), (3, iv x)] [] N) hsz.1 (fun _ N fN n5 nj => by
    refine bX6_linkAnew_22 hj0 hj1 ?_
    rw [n5, s1.1.2.2]
    exact ⟨i32 (by omega), i32 (by omega), fun _ => k N fN nj, fun z => absurd z (by omega)⟩) (fun x q1 q2 hn9 _ N fN n5 nj => by
    have hx := actS_ok ht q1 q2
    have es := s1.2 x q1 q2
    obtain ⟨i1, i2, i3, i4, i5⟩ := lnk_ok hv (actS L).2.2 x.toNat (by omega) (fun y hy => by have := actS_ok ht (k := (y : Int)) (by omega) (by omega); exact ⟨this.1, this.2.1⟩)
    rw [lnk_step _ _ q1] at hn9
    generalize lnkN L (actS L).2.2 x.toNat = P at hn9 nj i1 i2 i3 i4 i5 ⊢
    generalize (actS L).2.2 x = t at hx es hn9
    have e6 : P.1 6 = L 6 := i1 6 (by omega)
    have e9 : P.1 9 = L 9 := i1 9 (by omega)
    have e11 : P.1 11 = L 11 := i1 11 (by omega)
    have htP : WFt P.1 := i1.t ht
    have hmP : WFm P.1 := i1.m hm
    have hb := vF_bd i2 t
    have h9 := ht.2 t hx.1 hx.2.1
    refine bX6_linkAnew_22 hj0 hj1 ?_
    rw [n5, s1.1.2.2, es.2]
    refine ⟨i32 (by omega), i32 (by omega), fun z => absurd q2 z, fun _ => ⟨q1, by omega, sp_vehicleFor hj0 hj1 nj i2 htP hmP hx.1 (by rw [e6]; exact hx.2.1) (fun M2 f2 => kI_mk ?_)⟩⟩
    have m5 : M2 5 1 = M1 5 1 := (f2.ne (Or.inr (by decide))).trans n5
    have mj : M2 1 j = P.1 := (f2.ne (Or.inl (by decide))).trans nj
    have fr2 : ∀ a b, ¬ (a = 1 ∧ b = j) → a ≠ 5 → M2 a b = M a b := fun a b n1 n5' => (f2.ne (Or.inl n5')).trans (fN a b n1 n5')
    refine ⟨by rcases hb with w | w <;> exact i32 (by rw [e11] at *; omega), fun z => ?_, fun z => ?_⟩
    · have hb' : 0 ≤ vF P.1 t ∧ vF P.1 t < L 11 3 := by
        rcases hb with w | w
        · exact absurd w z
        · rw [e11] at w; exact w
      have hlv := (i2.2 (vF P.1 t) hb'.1 (by rw [e11]; exact hb'.2)).2.2
      have hl3 := i3 (vF P.1 t) hb'.1 hb'.2
      have htb := tbf_bd (L := P.1) (m := P.1 9 t) (v := vF P.1 t) hlv.1
      refine sp_positionFor hj0 hj1 (by rw [mj]; exact i2) (by rw [mj]; exact htP) hx.1 (by rw [mj, e6]; exact hx.2.1) hb'.1 (by rw [mj, e11]; exact hb'.2) (kI_mk ?_)
      rw [mj]
      refine sp_insert hj0 hj1 hb'.1 (by omega) (by rw [mj]; exact hlv.1) (by rw [mj]; omega) htb.1 (by rw [mj]; exact htb.2) (fun M3 f3 e3 => kV_mk ?_)
      rw [if_neg z] at hn9
      refine hn9 (by omega) M3 (fun a b n1 n5' => (f3.ne (by by_cases ha : a = 1; exact Or.inr (fun w => n1 ⟨ha, w⟩); exact Or.inl ha)).trans (fr2 a b n1 n5')) ((f3.ne (Or.inl (by decide))).trans m5) ?_
      rw [e3, mj]
    · rw [if_pos z] at hn9
      exact hn9 (by omega) M2 fr2 m5 mj)
  exact gen (Int.le_refl _) M1 fr0 rfl e1
end Lk
