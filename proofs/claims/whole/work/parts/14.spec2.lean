/-! ===== counts, soundness, tests ===== -/
def cntT (p : Int → Bool) (a b : Int) : Int := sumT (fun x => if p x then 1 else 0) a b
theorem cntT_bd (p : Int → Bool) {a b : Int} (h : a ≤ b) : 0 ≤ cntT p a b ∧ cntT p a b ≤ b - a := by
  have := sumT_bd (f := fun x => if p x then 1 else 0) (a := a) (lo := 0) (hi := 1) h (fun x _ _ => by split <;> omega)
  unfold cntT
  omega
theorem cntT_same (p : Int → Bool) (a : Int) : cntT p a a = 0 := sumT_same _ _
theorem cntT_t {p : Int → Bool} {a k : Int} (h : a ≤ k) (hp : p k = true) : cntT p a (k + 1) = cntT p a k + 1 := by
  unfold cntT
  rw [sumT_step _ h, hp]
  rfl
theorem cntT_f {p : Int → Bool} {a k : Int} (h : a ≤ k) (hp : p k = false) : cntT p a (k + 1) = cntT p a k := by
  unfold cntT
  rw [sumT_step _ h, hp]
  simp
/-- all of a ≤ x < b have p -/
def allT (p : Int → Bool) (k b : Int) : Int := if srch (fun x => !p x) k b = -1 then 1 else 0
theorem allT_01 (p : Int → Bool) (k b : Int) : allT p k b = 0 ∨ allT p k b = 1 := by unfold allT; split <;> simp
theorem allT_end {p : Int → Bool} {k b : Int} (h : b ≤ k) : allT p k b = 1 := by unfold allT; rw [srch_end h, if_pos rfl]
theorem allT_f {p : Int → Bool} {k b : Int} (h0 : 0 ≤ k) (h : k < b) (hp : p k = false) : allT p k b = 0 := by unfold allT; rw [srch_hit h (by simpa using hp), if_neg (by omega)]
theorem allT_t {p : Int → Bool} {k b : Int} (h : k < b) (hp : p k = true) : allT p k b = allT p (k + 1) b := by unfold allT; rw [srch_next h (by simpa using hp)]
theorem allT_iff {p : Int → Bool} {k b : Int} (h0 : 0 ≤ k) : allT p k b = 1 ↔ ∀ x, k ≤ x → x < b → p x = true := by
  unfold allT
  rcases srch_spec (p := fun x => !p x) (k := k) (b := b) with ⟨h1, h2⟩ | ⟨h1, h2, h3, h4⟩
  · rw [if_pos h1]
    exact ⟨fun _ x q1 q2 => by simpa using h2 x q1 q2, fun _ => rfl⟩
  · rw [if_neg (by omega)]
    refine ⟨fun h => by omega, fun h => ?_⟩
    have := h _ h1 h2
    simp [this] at h3
-- duties
def sndD (L : LFn) (v : Int) : Int := if 0 < L 13 v ∧ L 7 (L (15 + v) 0) ≠ hst L v then 0 else allT (fun p => decide (fol L (L (15 + v) p) (L (15 + v) (p - 1)))) 1 (L 13 v)
def sndA (L : LFn) : Int := allT (fun v => decide (sndD L v = 1)) 0 (L 11 3)
def inDut (L : LFn) : Int := sumT (L 13) 0 (L 11 3)
def onDut (L : LFn) : Int := cntT (fun v => decide (0 < L 13 v)) 0 (L 11 3)
def actv (L : LFn) : Int := cntT (fun t => decide (L 10 t = 0)) 0 (L 6 4)
def trns (L : LFn) : Int := cntT (fun s => decide (L 4 s ≠ 0)) 0 12
def plcO (L : LFn) (v : Int) : Int := cntT (fun w => decide (L 12 w = L 12 v)) (v + 1) (L 11 3)
def minO (L : LFn) (v : Int) : Int := sumT (fun p => arr L (L (15 + v) p) - L 9 (L (15 + v) p)) 0 (L 13 v)
def minB (L : LFn) (v : Int) : Int := sumT (fun p => L 9 (L (15 + v) p) - arr L (L (15 + v) (p - 1))) 1 (L 13 v)
def boxT (L : LFn) (v w : Int) : Bool := decide (L 12 w = L 12 v ∧ (L 13 w = 0 ∨ L 9 (L (15 + v) 0) < L 9 (L (15 + w) 0)))
def boxd (L : LFn) (v : Int) : Int := if L 13 v = 0 then 0 else if srch (boxT L v) (v + 1) (L 11 3) = -1 then 0 else 1
def endS (L : LFn) (v : Int) : Int := if L 13 v = 0 then hst L v else L 8 (L (15 + v) (L 13 v - 1))
def endA (L : LFn) (s : Int) : Int := if srch (fun t => decide (L 10 t = 0 ∧ (L 7 t = s ∨ L 8 t = s))) 0 (L 6 4) = -1 then 0 else 1
abbrev tripOK (L : LFn) (a b d : Int) : Prop := a ≠ b ∧ L 4 a ≠ 0 ∧ L 4 b ≠ 0 ∧ 0 ≤ d ∧ d ≤ 1439
def trnE (L : LFn) (t : Int) : Int := b2i (L 4 (L 7 t) ≠ 0 ∧ L 4 (L 8 t) ≠ 0)
def blkA (L : LFn) (k m : Int) : Int := srch (fun b => decide (L 26 b = k ∧ L 27 b ≤ m ∧ m ≤ L 28 b)) 0 (L 25 3)
/-- the best so far of those below k -/
def bestN (p : Int → Bool) (f : Int → Int) : Nat → Int
  | 0 => -1
  | n + 1 => if p n then (if bestN p f n = -1 then (n : Int) else if f n < f (bestN p f n) then (n : Int) else bestN p f n) else bestN p f n
def best (p : Int → Bool) (f : Int → Int) (k : Int) : Int := bestN p f k.toNat
theorem best_0 (p : Int → Bool) (f : Int → Int) : best p f 0 = -1 := rfl
theorem best_step (p : Int → Bool) (f : Int → Int) {k : Int} (h : 0 ≤ k) : best p f (k + 1) = if p k then (if best p f k = -1 then k else if f k < f (best p f k) then k else best p f k) else best p f k := by
  unfold best
  rw [show (k + 1).toNat = k.toNat + 1 by omega]
  simp only [bestN]
  rw [show ((k.toNat : Nat) : Int) = k by omega]
theorem best_bd (p : Int → Bool) (f : Int → Int) {k : Int} (h : 0 ≤ k) : best p f k = -1 ∨ (0 ≤ best p f k ∧ best p f k < k ∧ p (best p f k) = true) := by
  obtain ⟨n, rfl⟩ : ∃ n : Nat, k = n := ⟨k.toNat, by omega⟩
  clear h
  induction n with
  | zero => exact Or.inl rfl
  | succ n ih =>
    rw [show ((n + 1 : Nat) : Int) = (n : Int) + 1 by omega, best_step _ _ (by omega)]
    by_cases hp : p n = true
    · rw [if_pos hp]
      split
      · exact Or.inr ⟨by omega, by omega, hp⟩
      · split
        · exact Or.inr ⟨by omega, by omega, hp⟩
        · rcases ih with q | ⟨q1, q2, q3⟩
          · exact Or.inl q
          · exact Or.inr ⟨q1, by omega, q3⟩
    · rw [if_neg hp]
      rcases ih with q | ⟨q1, q2, q3⟩
      · exact Or.inl q
      · exact Or.inr ⟨q1, by omega, q3⟩
def soon (L : LFn) (t : Int) : Int := best (fun n => decide (L 10 n = 0 ∧ fol L n t)) (L 9) (L 6 4)
section Sp2
variable {G : GT} {K : List Value → Mem → Prop} {X : String → Mem → Prop} {M : Mem} {i : Int}
theorem sp_isDutySound (hi0 : 0 ≤ i) (hi1 : i < 12) (hv : WFv (M 1 i)) (ht : WFt (M 1 i)) (hm : WFm (M 1 i)) {v : Int} (h0 : 0 ≤ v) (h1 : v < M 1 i 11 3) (k : K [iv (sndD (M 1 i) v)] M) : Call G 3 0 zX4_isDutySound [rr G 1 i 0, iv v] M K X := by
  have h := hv.2 v h0 h1
  have hn := hv.1
  have hn2 := ht.1
  unfold sndD at k
  have body : K [iv (allT (fun p => decide (fol (M 1 i) (M 1 i (15 + v) p) (M 1 i (15 + v) (p - 1)))) 1 (M 1 i 13 v))] M → eX4_isDutySound G K X 38 [(0, rr G 1 i 0), (1, iv v), (3, iv 1)] [] M := by
    intro hk
    by_cases hz : 1 ≤ M 1 i 13 v
    · refine loop_up (E := fun p => K [iv (allT (fun p => decide (fol (M 1 i) (M 1 i (15 + v) p) (M 1 i (15 + v) (p - 1)))) p (M 1 i 13 v))] M → eX4_isDutySound G K X 38 [(0, rr G 1 i 0), (1, iv v), (3, iv p)] [] M) hz (fun hk => ?_) (fun p q1 q2 hn9 hk => ?_) hk
      · rw [allT_end (Int.le_refl _)] at hk
        exact bX4_isDutySound_38 hi0 hi1 ⟨h0, by omega, i32 (by omega), i32 (by omega), fun _ => hk, fun q => absurd q (by omega)⟩
      · have hd := h.2.2.2.2 p (by omega) q2
        have hd2 := h.2.2.2.2 (p - 1) (by omega) (by omega)
        refine bX4_isDutySound_38 hi0 hi1 ⟨h0, by omega, i32 (by omega), i32 (by omega), fun q => absurd q2 q, fun _ => ⟨by omega, by omega, by omega, by omega, sp_canFollow hi0 hi1 ht hm hd.1 hd.2 hd2.1 hd2.2 (kI_mk ⟨b2i_i32 _, fun z => ?_, fun z => ?_⟩)⟩⟩
        · have y' : fol (M 1 i) (M 1 i (15 + v) p) (M 1 i (15 + v) (p - 1)) := Classical.byContradiction fun w => z (b2i_0.mpr w)
          exact hn9 (by rw [allT_t q2 (by simpa using y')] at hk; exact hk)
        · rw [allT_f (by omega) q2 (by simpa using b2i_0.mp z)] at hk
          exact hk
    · rw [allT_end (by omega)] at hk
      exact bX4_isDutySound_38 hi0 hi1 ⟨h0, by omega, i32 (by omega), i32 (by omega), fun _ => hk, fun q => absurd q (by omega)⟩
  refine bX4_isDutySound hi0 hi1 (sp_firstTripOf hi0 hi1 hv h0 h1 (kI_mk ?_))
  by_cases hz : 0 < M 1 i 13 v
  · rw [if_pos hz]
    have hd := h.2.2.2.2 0 (by omega) hz
    have ht2 := ht.2 _ hd.1 hd.2
    refine ⟨i32 (by omega), fun z => by omega, fun _ => ⟨hd.1, by omega, sp_homeStopOf hi0 hi1 hv h0 h1 (kI_mk ⟨i32 (by omega), ?_, fun z => ?_, fun z => ?_⟩)⟩⟩
    · unfold hst; split <;> exact i32 (by omega)
    · rw [if_neg (fun q => q.2 z)] at k
      exact body k
    · rw [if_pos ⟨hz, z⟩] at k
      exact k
  · rw [if_neg hz]
    rw [if_neg (fun q => hz q.1)] at k
    exact ⟨i32 (by omega), fun _ => body k, fun z => absurd rfl z⟩
theorem sp_areDutiesSound (hi0 : 0 ≤ i) (hi1 : i < 12) (hv : WFv (M 1 i)) (ht : WFt (M 1 i)) (hm : WFm (M 1 i)) (k : K [iv (sndA (M 1 i))] M) : Call G 4 0 zX4_areDutiesSound [rr G 1 i 0] M K X := by
  have hn := hv.1
  unfold sndA at k
  refine bX4_areDutiesSound hi0 hi1 (loop_up (E := fun v => K [iv (allT (fun v => decide (sndD (M 1 i) v = 1)) v (M 1 i 11 3))] M → eX4_areDutiesSound G K X 2 [(0, rr G 1 i 0), (1, iv v)] [] M) hn.1 (fun hk => ?_) (fun v q1 q2 hn9 hk => ?_) k)
  · rw [allT_end (Int.le_refl _)] at hk
    exact bX4_areDutiesSound_2 hi0 hi1 ⟨i32 (by omega), i32 (by omega), fun _ => hk, fun q => absurd q (by omega)⟩
  · have h01 : sndD (M 1 i) v = 0 ∨ sndD (M 1 i) v = 1 := by
      unfold sndD
      split
      · exact Or.inl rfl
      · exact allT_01 _ _ _
    refine bX4_areDutiesSound_2 hi0 hi1 ⟨i32 (by omega), i32 (by omega), fun q => absurd q2 q, fun _ => sp_isDutySound hi0 hi1 hv ht hm q1 q2 (kI_mk ⟨i32 (by omega), fun z => ?_, fun z => ?_⟩)⟩
    · exact hn9 (by rw [allT_t q2 (by simp; omega)] at hk; exact hk)
    · rw [allT_f q1 q2 (by simp; omega)] at hk
      exact hk
theorem sp_tripsInDuties (hi0 : 0 ≤ i) (hi1 : i < 12) (hv : WFv (M 1 i)) (k : K [iv (inDut (M 1 i))] M) : Call G 0 0 zX2_tripsInDuties [rr G 1 i 11] M K X := by
  have hn := hv.1
  have h := loop_up (E := fun v => eX2_tripsInDuties G K X 4 [(0, rr G 1 i 11), (1, iv (sumT (M 1 i 13) 0 v)), (2, iv v)] [] M) hn.1
    (bX2_tripsInDuties_4 hi0 hi1 ⟨i32 (by omega), i32 (by omega), fun _ => k, fun q => absurd q (by omega)⟩)
    (fun v q1 q2 hn9 => bX2_tripsInDuties_4 hi0 hi1 ⟨i32 (by omega), i32 (by omega), fun q => absurd q2 q, fun _ => ⟨q1, by omega, by rw [sumT_step _ q1] at hn9; exact hn9⟩⟩)
  rw [sumT_same] at h
  exact bX2_tripsInDuties hi0 hi1 h
theorem sp_vehiclesWithDuty (hi0 : 0 ≤ i) (hi1 : i < 12) (hv : WFv (M 1 i)) (k : K [iv (onDut (M 1 i))] M) : Call G 0 0 zX2_vehiclesWithDuty [rr G 1 i 11] M K X := by
  have hn := hv.1
  have h := loop_up (E := fun v => eX2_vehiclesWithDuty G K X 4 [(0, rr G 1 i 11), (1, iv (cntT (fun v => decide (0 < M 1 i 13 v)) 0 v)), (2, iv v)] [] M) hn.1
    (bX2_vehiclesWithDuty_4 hi0 hi1 ⟨i32 (by omega), i32 (by omega), fun _ => k, fun q => absurd q (by omega)⟩)
    (fun v q1 q2 hn9 => bX2_vehiclesWithDuty_4 hi0 hi1 ⟨i32 (by omega), i32 (by omega), fun q => absurd q2 q, fun _ => ⟨q1, by omega, by have := hv.2 v q1 q2; exact i32 (by omega), fun z => by rw [cntT_f q1 (by simpa using z)] at hn9; exact hn9, fun z => by rw [cntT_t q1 (by simpa using z)] at hn9; exact hn9⟩⟩)
  rw [cntT_same] at h
  exact bX2_vehiclesWithDuty hi0 hi1 h
theorem sp_activeCount (hi0 : 0 ≤ i) (hi1 : i < 12) (ht : WFt (M 1 i)) (k : K [iv (actv (M 1 i))] M) : Call G 0 0 zX8_activeCount [rr G 1 i 6] M K X := by
  have hn := ht.1
  have h := loop_up (E := fun t => eX8_activeCount G K X 4 [(0, rr G 1 i 6), (1, iv (cntT (fun t => decide (M 1 i 10 t = 0)) 0 t)), (2, iv t)] [] M) hn.1
    (bX8_activeCount_4 hi0 hi1 ⟨i32 (by omega), i32 (by omega), fun _ => k, fun q => absurd q (by omega)⟩)
    (fun t q1 q2 hn9 => bX8_activeCount_4 hi0 hi1 ⟨i32 (by omega), i32 (by omega), fun q => absurd q2 q, fun _ => ⟨q1, by omega, by have := ht.2 t q1 q2; exact i32 (by omega), fun z => by rw [cntT_f q1 (by simpa using z)] at hn9; exact hn9, fun z => by rw [cntT_t q1 (by simpa using z)] at hn9; exact hn9⟩⟩)
  rw [cntT_same] at h
  exact bX8_activeCount hi0 hi1 h
theorem sp_turnableCount (hi0 : 0 ≤ i) (hi1 : i < 12) (hm : WFm (M 1 i)) (k : K [iv (trns (M 1 i))] M) : Call G 0 0 zX9_turnableCount [rr G 1 i 1] M K X := by
  have h := loop_up (E := fun t => eX9_turnableCount G K X 4 [(0, rr G 1 i 1), (1, iv (cntT (fun s => decide (M 1 i 4 s ≠ 0)) 0 t)), (2, iv t)] [] M) (a := 0) (b := 12) (by omega)
    (bX9_turnableCount_4 hi0 hi1 ⟨i32 (by omega), fun _ => k, fun q => absurd q (by omega)⟩)
    (fun t q1 q2 hn9 => bX9_turnableCount_4 hi0 hi1 ⟨i32 (by omega), fun q => absurd q2 q, fun _ => ⟨q1, by have := hm.2.1 t q1 q2; exact i32 (by omega), fun z => by rw [cntT_f q1 (by simpa using z)] at hn9; exact hn9, fun z => by rw [cntT_t q1 (by simpa using z)] at hn9; exact hn9⟩⟩)
  rw [cntT_same] at h
  exact bX9_turnableCount hi0 hi1 h
theorem sp_placeOf (hi0 : 0 ≤ i) (hi1 : i < 12) (hv : WFv (M 1 i)) {v : Int} (h0 : 0 ≤ v) (h1 : v < M 1 i 11 3) (k : K [iv (plcO (M 1 i) v)] M) : Call G 0 0 zX2_placeOf [rr G 1 i 11, iv v] M K X := by
  have hn := hv.1
  have hv9 := hv.2 v h0 h1
  have h := loop_up (E := fun w => eX2_placeOf G K X 6 [(0, rr G 1 i 11), (1, iv v), (2, iv (cntT (fun w => decide (M 1 i 12 w = M 1 i 12 v)) (v + 1) w)), (3, iv w)] [] M) (a := v + 1) (b := M 1 i 11 3) (by omega)
    (bX2_placeOf_6 hi0 hi1 ⟨i32 (by omega), i32 (by omega), fun _ => k, fun q => absurd q (by omega)⟩)
    (fun w q1 q2 hn9 => bX2_placeOf_6 hi0 hi1 ⟨i32 (by omega), i32 (by omega), fun q => absurd q2 q, fun _ => by
      have hw := hv.2 w (by omega) q2
      exact ⟨by omega, by omega, h0, by omega, i32 (by omega), i32 (by omega), fun z => by rw [cntT_f q1 (by simpa using z)] at hn9; exact hn9, fun z => by rw [cntT_t q1 (by simpa using z)] at hn9; exact hn9⟩⟩)
  rw [cntT_same] at h
  exact bX2_placeOf hi0 hi1 h
theorem sp_minutesOfTrips (hi0 : 0 ≤ i) (hi1 : i < 12) (hv : WFv (M 1 i)) (ht : WFt (M 1 i)) {v : Int} (h0 : 0 ≤ v) (h1 : v < M 1 i 11 3) (k : K [iv (minO (M 1 i) v)] M) : Call G 2 0 zX4_minutesOfTrips [rr G 1 i 0, iv v] M K X := by
  have hn := hv.1
  have hn2 := ht.1
  have hv9 := hv.2 v h0 h1
  have h := loop_up (E := fun p => eX4_minutesOfTrips G K X 4 [(0, rr G 1 i 0), (1, iv v), (2, iv (sumT (fun p => arr (M 1 i) (M 1 i (15 + v) p) - M 1 i 9 (M 1 i (15 + v) p)) 0 p)), (3, iv p)] [] M) (a := 0) (b := M 1 i 13 v) (by omega)
    (bX4_minutesOfTrips_4 hi0 hi1 ⟨h0, by omega, i32 (by omega), i32 (by omega), fun _ => k, fun q => absurd q (by omega)⟩)
    (fun p q1 q2 hn9 => bX4_minutesOfTrips_4 hi0 hi1 ⟨h0, by omega, i32 (by omega), i32 (by omega), fun q => absurd q2 q, fun _ => by
      have hd := hv9.2.2.2.2 p q1 q2
      exact ⟨q1, by omega, sp_arrivalOf hi0 hi1 ht hd.1 hd.2 (kI_mk ⟨hd.1, by omega, by rw [sumT_step _ q1] at hn9; exact hn9⟩)⟩⟩)
  rw [sumT_same] at h
  exact bX4_minutesOfTrips hi0 hi1 h
theorem sp_minutesBetweenTrips (hi0 : 0 ≤ i) (hi1 : i < 12) (hv : WFv (M 1 i)) (ht : WFt (M 1 i)) {v : Int} (h0 : 0 ≤ v) (h1 : v < M 1 i 11 3) (k : K [iv (minB (M 1 i) v)] M) : Call G 2 0 zX4_minutesBetweenTrips [rr G 1 i 0, iv v] M K X := by
  have hn := hv.1
  have hn2 := ht.1
  have hv9 := hv.2 v h0 h1
  refine bX4_minutesBetweenTrips hi0 hi1 ?_
  by_cases hz : 1 ≤ M 1 i 13 v
  · have h := loop_up (E := fun p => eX4_minutesBetweenTrips G K X 4 [(0, rr G 1 i 0), (1, iv v), (2, iv (sumT (fun p => M 1 i 9 (M 1 i (15 + v) p) - arr (M 1 i) (M 1 i (15 + v) (p - 1))) 1 p)), (3, iv p)] [] M) (a := 1) (b := M 1 i 13 v) hz
      (bX4_minutesBetweenTrips_4 hi0 hi1 ⟨h0, by omega, i32 (by omega), i32 (by omega), fun _ => k, fun q => absurd q (by omega)⟩)
      (fun p q1 q2 hn9 => bX4_minutesBetweenTrips_4 hi0 hi1 ⟨h0, by omega, i32 (by omega), i32 (by omega), fun q => absurd q2 q, fun _ => by
        have hd := hv9.2.2.2.2 p (by omega) q2
        have hd2 := hv9.2.2.2.2 (p - 1) (by omega) (by omega)
        exact ⟨by omega, by omega, hd.1, by omega, by omega, by omega, sp_arrivalOf hi0 hi1 ht hd2.1 hd2.2 (kI_mk (by rw [sumT_step _ q1] at hn9; exact hn9))⟩⟩)
    rw [sumT_same] at h
    exact h
  · refine bX4_minutesBetweenTrips_4 hi0 hi1 ⟨h0, by omega, i32 (by omega), i32 (by omega), fun _ => ?_, fun q => absurd q (by omega)⟩
    have e : minB (M 1 i) v = 0 := by
      unfold minB sumT
      rw [show (M 1 i 13 v - 1).toNat = 0 by omega]
      rfl
    rw [e] at k
    exact k
theorem sp_isBoxedIn (hi0 : 0 ≤ i) (hi1 : i < 12) (hv : WFv (M 1 i)) (ht : WFt (M 1 i)) {v : Int} (h0 : 0 ≤ v) (h1 : v < M 1 i 11 3) (k : K [iv (boxd (M 1 i) v)] M) : Call G 1 0 zX4_isBoxedIn [rr G 1 i 0, iv v] M K X := by
  have hn := hv.1
  have hn2 := ht.1
  have hv9 := hv.2 v h0 h1
  unfold boxd at k
  refine bX4_isBoxedIn hi0 hi1 (sp_firstTripOf hi0 hi1 hv h0 h1 (kI_mk ?_))
  by_cases hz : 0 < M 1 i 13 v
  · rw [if_pos hz]
    rw [if_neg (by omega)] at k
    have hd := hv9.2.2.2.2 0 (by omega) hz
    have hd2 := ht.2 _ hd.1 hd.2
    refine ⟨i32 (by omega), fun _ => ?_, fun z => by omega⟩
    refine loop_up (E := fun w => K [iv (if srch (boxT (M 1 i) v) w (M 1 i 11 3) = -1 then 0 else 1)] M → eX4_isBoxedIn G K X 20 [(0, rr G 1 i 0), (1, iv v), (2, iv (M 1 i (15 + v) 0)), (3, iv w)] [] M) (a := v + 1) (b := M 1 i 11 3) (by omega) (fun hk => ?_) (fun w q1 q2 hn9 hk => ?_) k
    · rw [srch_end (Int.le_refl _), if_pos rfl] at hk
      exact bX4_isBoxedIn_20 hi0 hi1 ⟨i32 (by omega), i32 (by omega), fun _ => hk, fun q => absurd q (by omega)⟩
    · have hw := hv.2 w (by omega) q2
      refine bX4_isBoxedIn_20 hi0 hi1 ⟨i32 (by omega), i32 (by omega), fun q => absurd q2 q, fun _ => sp_firstTripOf hi0 hi1 hv (by omega) q2 (kI_mk ⟨by omega, by omega, h0, by omega, i32 (by omega), i32 (by omega), fun z => ?_, fun z => ?_⟩)⟩
      · exact hn9 (by rw [srch_next q2 (by simp [boxT, z])] at hk; exact hk)
      · by_cases hy : 0 < M 1 i 13 w
        · rw [if_pos hy]
          have hd3 := hw.2.2.2.2 0 (by omega) hy
          have hd4 := ht.2 _ hd3.1 hd3.2
          refine ⟨i32 (by omega), fun y => by omega, fun _ => ⟨hd3.1, by omega, hd.1, by omega, i32 (by omega), i32 (by omega), fun y => ?_, fun y => ?_⟩⟩
          · exact hn9 (by rw [srch_next q2 (by simp [boxT]; intro _; omega)] at hk; exact hk)
          · rw [srch_hit q2 (by simp [boxT]; omega), if_neg (by omega)] at hk
            exact hk
        · rw [if_neg hy]
          refine ⟨i32 (by omega), fun _ => ?_, fun y => absurd rfl y⟩
          rw [srch_hit q2 (by simp [boxT]; omega), if_neg (by omega)] at hk
          exact hk
  · rw [if_neg hz]
    rw [if_pos (by omega)] at k
    exact ⟨i32 (by omega), fun z => absurd rfl z, fun _ => k⟩
theorem sp_endStopOf (hi0 : 0 ≤ i) (hi1 : i < 12) (hv : WFv (M 1 i)) (ht : WFt (M 1 i)) {v : Int} (h0 : 0 ≤ v) (h1 : v < M 1 i 11 3) (k : K [iv (endS (M 1 i) v)] M) : Call G 1 0 zX4_endStopOf [rr G 1 i 0, iv v] M K X := by
  have hn2 := ht.1
  have hv9 := hv.2 v h0 h1
  unfold endS at k
  refine bX4_endStopOf hi0 hi1 (sp_lastTripOf hi0 hi1 hv h0 h1 (kI_mk ?_))
  by_cases hz : 0 < M 1 i 13 v
  · rw [if_pos hz]
    rw [if_neg (by omega)] at k
    have hd := hv9.2.2.2.2 (M 1 i 13 v - 1) (by omega) (by omega)
    exact ⟨i32 (by omega), fun _ => ⟨hd.1, by omega, k⟩, fun z => by omega⟩
  · rw [if_neg hz]
    rw [if_pos (by omega)] at k
    exact ⟨i32 (by omega), fun z => absurd rfl z, fun _ => sp_homeStopOf hi0 hi1 hv h0 h1 (kI_mk k)⟩
theorem sp_isEndOfActive (hi0 : 0 ≤ i) (hi1 : i < 12) (ht : WFt (M 1 i)) {s : Int} (hs : I32 s) (k : K [iv (endA (M 1 i) s)] M) : Call G 0 0 zX8_isEndOfActive [rr G 1 i 6, iv s] M K X := by
  have hn := ht.1
  unfold endA at k
  refine bX8_isEndOfActive hi0 hi1 (loop_up (E := fun t => K [iv (if srch (fun t => decide (M 1 i 10 t = 0 ∧ (M 1 i 7 t = s ∨ M 1 i 8 t = s))) t (M 1 i 6 4) = -1 then 0 else 1)] M → eX8_isEndOfActive G K X 2 [(0, rr G 1 i 6), (1, iv s), (2, iv t)] [] M) hn.1 (fun hk => ?_) (fun t q1 q2 hn9 hk => ?_) k)
  · rw [srch_end (Int.le_refl _), if_pos rfl] at hk
    exact bX8_isEndOfActive_2 hi0 hi1 ⟨i32 (by omega), i32 (by omega), fun _ => hk, fun q => absurd q (by omega)⟩
  · have h := ht.2 t q1 q2
    refine bX8_isEndOfActive_2 hi0 hi1 ⟨i32 (by omega), i32 (by omega), fun q => absurd q2 q, fun _ => ⟨q1, by omega, i32 (by omega), fun z => ?_, fun z => ⟨i32 (by omega), hs, fun y => ?_, fun y => ⟨i32 (by omega), fun w => ?_, fun w => ?_⟩⟩⟩⟩
    · exact hn9 (by rw [srch_next q2 (by simp; intro w; exact absurd w z)] at hk; exact hk)
    · rw [srch_hit q2 (by simp [z, y]), if_neg (by omega)] at hk
      exact hk
    · exact hn9 (by rw [srch_next q2 (by simp [y, w])] at hk; exact hk)
    · rw [srch_hit q2 (by simp [z, w]), if_neg (by omega)] at hk
      exact hk
theorem sp_isTripAllowed (hi0 : 0 ≤ i) (hi1 : i < 12) (hm : WFm (M 1 i)) {a b d : Int} (ha : 0 ≤ a) (ha1 : a ≤ 11) (hb : 0 ≤ b) (hb1 : b ≤ 11) (hd : I32 d) (k : K [iv (b2i (tripOK (M 1 i) a b d))] M) : Call G 1 0 zX4_isTripAllowed [rr G 1 i 0, iv a, iv b, iv d] M K X := by
  have h1 := hm.2.1 a ha (by omega)
  have h2 := hm.2.1 b hb (by omega)
  refine bX4_isTripAllowed hi0 hi1 ⟨i32 (by omega), i32 (by omega), fun z => ?_, fun z => ⟨ha, by omega, i32 (by omega), fun y => ?_, fun y => ⟨hb, by omega, i32 (by omega), fun w => ?_, fun w => sp_isFromTo hd (i32 (by omega)) (i32 (by omega)) (kI_mk ⟨b2i_i32 _, fun u => ?_, fun u => ?_⟩)⟩⟩⟩
  · rw [b2i_f (fun q => q.1 z)] at k; exact k
  · rw [b2i_f (fun q => q.2.1 y)] at k; exact k
  · rw [b2i_f (fun q => q.2.2.1 w)] at k; exact k
  · rw [b2i_f (fun q => (b2i_0.mp u) q.2.2.2)] at k; exact k
  · have u' : 0 ≤ d ∧ d ≤ 1439 := Classical.byContradiction fun w => u (b2i_0.mpr w)
    rw [b2i_t ⟨z, y, w, u'⟩] at k; exact k
theorem sp_canTurnAtEnds (hi0 : 0 ≤ i) (hi1 : i < 12) (hm : WFm (M 1 i)) (ht : WFt (M 1 i)) {t : Int} (h0 : 0 ≤ t) (h1 : t < M 1 i 6 4) (k : K [iv (trnE (M 1 i) t)] M) : Call G 0 0 zX4_canTurnAtEnds [rr G 1 i 0, iv t] M K X := by
  have h := ht.2 t h0 h1
  have hn := ht.1
  have h2 := hm.2.1 (M 1 i 7 t) (by omega) (by omega)
  have h3 := hm.2.1 (M 1 i 8 t) (by omega) (by omega)
  unfold trnE at k
  refine bX4_canTurnAtEnds hi0 hi1 ⟨h0, by omega, by omega, by omega, i32 (by omega), fun z => ?_, fun z => ⟨by omega, by omega, i32 (by omega), fun y => ?_, fun y => ?_⟩⟩
  · rw [b2i_f (fun q => q.1 z)] at k; exact k
  · rw [b2i_f (fun q => q.2 y)] at k; exact k
  · rw [b2i_t ⟨z, y⟩] at k; exact k
theorem sp_lowestAt (hi0 : 0 ≤ i) (hi1 : i < 12) (hb : WFb (M 1 i)) {s m : Int} (hs : I32 s) (hmm : I32 m) (k : K [iv (blkA (M 1 i) s m)] M) : Call G 1 0 zX0_lowestAt [rr G 1 i 25, iv s, iv m] M K X := by
  have hn := hb.1
  unfold blkA at k
  refine bX0_lowestAt hi0 hi1 (loop_up (E := fun b => K [iv (srch (fun b => decide (M 1 i 26 b = s ∧ M 1 i 27 b ≤ m ∧ m ≤ M 1 i 28 b)) b (M 1 i 25 3))] M → eX0_lowestAt G K X 2 [(0, rr G 1 i 25), (1, iv s), (2, iv m), (3, iv b)] [] M) hn.1 (fun hk => ?_) (fun b q1 q2 hn9 hk => ?_) k)
  · rw [srch_end (Int.le_refl _)] at hk
    exact bX0_lowestAt_2 hi0 hi1 ⟨i32 (by omega), i32 (by omega), fun _ => hk, fun q => absurd q (by omega)⟩
  · have h := hb.2 b q1 q2
    refine bX0_lowestAt_2 hi0 hi1 ⟨i32 (by omega), i32 (by omega), fun q => absurd q2 q, fun _ => ⟨q1, by omega, i32 (by omega), hs, fun z => ?_, fun z => sp_isFromTo hmm (i32 (by omega)) (i32 (by omega)) (kI_mk ⟨b2i_i32 _, fun y => ?_, fun y => ?_⟩)⟩⟩
    · exact hn9 (by rw [srch_next q2 (by simp; intro w; exact absurd w z)] at hk; exact hk)
    · have y' := b2i_0.mp y
      exact hn9 (by rw [srch_next q2 (by simp; intro _ w; omega)] at hk; exact hk)
    · have y' : M 1 i 27 b ≤ m ∧ m ≤ M 1 i 28 b := Classical.byContradiction fun w => y (b2i_0.mpr w)
      rw [srch_hit q2 (by simp [z, y'])] at hk
      exact hk
theorem sp_soonestBehind (hi0 : 0 ≤ i) (hi1 : i < 12) (ht : WFt (M 1 i)) (hm : WFm (M 1 i)) {t : Int} (h0 : 0 ≤ t) (h1 : t < M 1 i 6 4) (k : K [iv (soon (M 1 i) t)] M) : Call G 3 0 zX4_soonestBehind [rr G 1 i 0, iv t] M K X := by
  have hn := ht.1
  unfold soon at k
  refine bX4_soonestBehind hi0 hi1 ?_
  have h := loop_up (E := fun n => eX4_soonestBehind G K X 4 [(0, rr G 1 i 0), (1, iv t), (2, iv (best (fun n => decide (M 1 i 10 n = 0 ∧ fol (M 1 i) n t)) (M 1 i 9) n)), (3, iv n)] [] M) hn.1
    (bX4_soonestBehind_4 hi0 hi1 ⟨i32 (by omega), i32 (by omega), fun _ => k, fun q => absurd q (by omega)⟩)
    (fun n q1 q2 hn9 => by
      have hnn := ht.2 n q1 q2
      rw [best_step _ _ q1] at hn9
      have hb := best_bd (fun n => decide (M 1 i 10 n = 0 ∧ fol (M 1 i) n t)) (M 1 i 9) q1
      generalize hbq : best (fun n => decide (M 1 i 10 n = 0 ∧ fol (M 1 i) n t)) (M 1 i 9) n = bq at hb hn9 ⊢
      refine bX4_soonestBehind_4 hi0 hi1 ⟨i32 (by omega), i32 (by omega), fun q => absurd q2 q, fun _ => ⟨q1, by omega, i32 (by omega), fun z => ?_, fun z => sp_canFollow hi0 hi1 ht hm q1 q2 h0 h1 (kI_mk ⟨b2i_i32 _, fun y => ?_, fun y => ⟨i32 (by omega), fun w => ?_, fun w => ?_⟩⟩)⟩⟩
      · rw [if_neg (by simp; intro w; exact absurd w z)] at hn9
        exact hn9
      · have y' := b2i_0.mp y
        rw [if_neg (by simp only [decide_eq_true_eq]; exact fun q => y' q.2)] at hn9
        exact hn9
      · have y' : fol (M 1 i) n t := Classical.byContradiction fun w => y (b2i_0.mpr w)
        rw [if_pos (by simp only [decide_eq_true_eq]; exact ⟨z, y'⟩), if_pos w] at hn9
        exact hn9
      · have y' : fol (M 1 i) n t := Classical.byContradiction fun w => y (b2i_0.mpr w)
        rw [if_pos (by simp only [decide_eq_true_eq]; exact ⟨z, y'⟩), if_neg w] at hn9
        have hbb : 0 ≤ bq ∧ bq < n := by
          rcases hb with q | q
          · exact absurd q w
          · exact ⟨q.1, q.2.1⟩
        have hb2 := ht.2 bq hbb.1 (by omega)
        refine ⟨hbb.1, by omega, i32 (by omega), i32 (by omega), fun u => ?_, fun u => ?_⟩
        · rw [if_neg u] at hn9
          exact hn9
        · rw [if_pos u] at hn9
          exact hn9)
  rw [best_0] at h
  exact h
end Sp2
