/-! ===== the line as a function; loops; what the small methods answer ===== -/
abbrev LFn : Type := Int → Int → Int
theorem i32 {n : Int} (h : -2147483648 ≤ n ∧ n ≤ 2147483647) : I32 n := h
theorem loop_up {E : Int → Prop} {a b : Int} (hab : a ≤ b) (hend : E b) (hstep : ∀ k, a ≤ k → k < b → E (k + 1) → E k) : E a := by
  have key : ∀ n : Nat, ∀ k : Int, a ≤ k → k + n = b → E k := by
    intro n
    induction n with
    | zero => intro k _ h; rw [show k = b by omega]; exact hend
    | succ n ih => intro k h1 h2; exact hstep k h1 (by omega) (ih (k + 1) (by omega) (by omega))
  exact key (b - a).toNat a (Int.le_refl _) (by omega)
/-- f a + .. + f (k - 1) -/
def sumN (f : Int → Int) (a : Int) : Nat → Int
  | 0 => 0
  | n + 1 => sumN f a n + f (a + n)
def sumT (f : Int → Int) (a k : Int) : Int := sumN f a (k - a).toNat
theorem sumT_same (f : Int → Int) (a : Int) : sumT f a a = 0 := by
  unfold sumT
  rw [Int.sub_self]
  rfl
theorem sumT_step (f : Int → Int) {a k : Int} (h : a ≤ k) : sumT f a (k + 1) = sumT f a k + f k := by
  unfold sumT
  rw [show (k + 1 - a).toNat = (k - a).toNat + 1 by omega]
  show sumN f a (k - a).toNat + f (a + ((k - a).toNat : Int)) = _
  rw [show a + ((k - a).toNat : Int) = k by omega]
theorem sumT_bd {f : Int → Int} {a lo hi : Int} {k : Int} (hk : a ≤ k) (hf : ∀ x, a ≤ x → x < k → lo ≤ f x ∧ f x ≤ hi) : lo * (k - a) ≤ sumT f a k ∧ sumT f a k ≤ hi * (k - a) := by
  obtain ⟨n, rfl⟩ : ∃ n : Nat, k = a + n := ⟨(k - a).toNat, by omega⟩
  clear hk
  induction n with
  | zero => simp [sumT_same]
  | succ n ih =>
    have h1 := ih (fun x q1 q2 => hf x q1 (by omega))
    have h2 := hf (a + n) (by omega) (by omega)
    rw [show (a + ((n + 1 : Nat) : Int)) = (a + n) + 1 by omega, sumT_step f (by omega)]
    rw [show a + (n : Int) - a = (n : Int) by omega] at h1
    rw [show a + (n : Int) + 1 - a = (n : Int) + 1 by omega, Int.mul_add, Int.mul_add]
    omega
theorem sumT_congr {f g : Int → Int} {a k : Int} (h : ∀ x, a ≤ x → x < k → f x = g x) : sumT f a k = sumT g a k := by
  by_cases hk : a ≤ k
  · obtain ⟨n, rfl⟩ : ∃ n : Nat, k = a + n := ⟨(k - a).toNat, by omega⟩
    clear hk
    induction n with
    | zero => simp [sumT_same]
    | succ n ih =>
      rw [show (a + ((n + 1 : Nat) : Int)) = (a + n) + 1 by omega, sumT_step f (by omega), sumT_step g (by omega), ih (fun x q1 q2 => h x q1 (by omega)), h (a + n) (by omega) (by omega)]
  · unfold sumT
    rw [show (k - a).toNat = 0 by omega]
    rfl
/-- 1 where p holds, else 0 -/
def b2i (p : Prop) [Decidable p] : Int := if p then 1 else 0
theorem b2i_t {p : Prop} [Decidable p] (h : p) : b2i p = 1 := if_pos h
theorem b2i_f {p : Prop} [Decidable p] (h : ¬ p) : b2i p = 0 := if_neg h
theorem b2i_01 (p : Prop) [Decidable p] : b2i p = 0 ∨ b2i p = 1 := by unfold b2i; split <;> simp
theorem b2i_i32 (p : Prop) [Decidable p] : I32 (b2i p) := by rcases b2i_01 p with h | h <;> rw [h] <;> exact i32 (by omega)
theorem b2i_0 {p : Prop} [Decidable p] : b2i p = 0 ↔ ¬ p := by unfold b2i; split <;> simp_all
theorem b2i_1 {p : Prop} [Decidable p] : b2i p = 1 ↔ p := by unfold b2i; split <;> simp_all
-- the line's numbers
def btw (L : LFn) (a b : Int) : Int := sumT (L 2) (min a b) (max a b)
def arr (L : LFn) (t : Int) : Int := L 9 t + btw L (L 7 t) (L 8 t)
def tmA (L : LFn) (t s : Int) : Int := L 9 t + btw L (L 7 t) s
def dirn (L : LFn) (t : Int) : Int := if L 7 t < L 8 t then 0 else 1
/-- t can follow b -/
abbrev fol (L : LFn) (t b : Int) : Prop := L 7 t = L 8 b ∧ arr L b + L 5 0 ≤ L 9 t
abbrev onW (L : LFn) (t s : Int) : Prop := min (L 7 t) (L 8 t) ≤ s ∧ s ≤ max (L 7 t) (L 8 t)
abbrev hst (L : LFn) (v : Int) : Int := if L 12 v = 0 then 0 else 11
-- what holds of every line
def WFt (L : LFn) : Prop := (0 ≤ L 6 4 ∧ L 6 4 ≤ 30) ∧ ∀ t, 0 ≤ t → t < L 6 4 → 0 ≤ L 7 t ∧ L 7 t ≤ 11 ∧ 0 ≤ L 8 t ∧ L 8 t ≤ 11 ∧ L 7 t ≠ L 8 t ∧ 0 ≤ L 9 t ∧ L 9 t ≤ 1439 ∧ 0 ≤ L 10 t ∧ L 10 t ≤ 1
def WFm (L : LFn) : Prop := (∀ k, 0 ≤ k → k < 11 → 1 ≤ L 2 k ∧ L 2 k ≤ 9 ∧ 0 ≤ L 3 k ∧ L 3 k ≤ 30) ∧ (∀ s, 0 ≤ s → s < 12 → 0 ≤ L 4 s ∧ L 4 s ≤ 1) ∧ L 4 0 = 1 ∧ L 4 11 = 1 ∧ 0 ≤ L 5 0 ∧ L 5 0 ≤ 20 ∧ 1 ≤ L 5 1 ∧ L 5 1 ≤ 30 ∧ 0 ≤ L 5 2 ∧ L 5 2 ≤ 10
def WFv (L : LFn) : Prop := (0 ≤ L 11 3 ∧ L 11 3 ≤ 10) ∧ ∀ v, 0 ≤ v → v < L 11 3 → 0 ≤ L 12 v ∧ L 12 v ≤ 1 ∧ 0 ≤ L 13 v ∧ L 13 v ≤ 30 ∧ ∀ p, 0 ≤ p → p < L 13 v → 0 ≤ L (15 + v) p ∧ L (15 + v) p < L 6 4
def WFb (L : LFn) : Prop := (0 ≤ L 25 3 ∧ L 25 3 ≤ 6) ∧ ∀ b, 0 ≤ b → b < L 25 3 → 0 ≤ L 26 b ∧ L 26 b ≤ 10 ∧ 0 ≤ L 27 b ∧ L 27 b ≤ L 28 b ∧ L 28 b ≤ 2000
/-- the numbers' bounds -/
def WFn (L : LFn) : Prop := WFt L ∧ WFm L ∧ WFv L ∧ WFb L
theorem btw_bd {L : LFn} (h : WFm L) {a b : Int} (ha : 0 ≤ a) (ha1 : a ≤ 11) (hb : 0 ≤ b) (hb1 : b ≤ 11) : 0 ≤ btw L a b ∧ btw L a b ≤ 99 ∧ (a ≠ b → 1 ≤ btw L a b) := by
  have h1 := sumT_bd (f := L 2) (a := min a b) (lo := 1) (hi := 9) (k := max a b) (by omega) (fun x q1 q2 => ⟨(h.1 x (by omega) (by omega)).1, (h.1 x (by omega) (by omega)).2.1⟩)
  unfold btw
  refine ⟨by omega, by omega, fun q => by omega⟩
theorem arr_bd {L : LFn} (hm : WFm L) (ht : WFt L) {t : Int} (h0 : 0 ≤ t) (h1 : t < L 6 4) : L 9 t + 1 ≤ arr L t ∧ arr L t ≤ L 9 t + 99 ∧ 1 ≤ arr L t ∧ arr L t ≤ 1538 := by
  have h := ht.2 t h0 h1
  have q := btw_bd hm (a := L 7 t) (b := L 8 t) (by omega) (by omega) (by omega) (by omega)
  have := q.2.2 (by omega)
  unfold arr
  omega
theorem tmA_bd {L : LFn} (hm : WFm L) (ht : WFt L) {t s : Int} (h0 : 0 ≤ t) (h1 : t < L 6 4) (hs : 0 ≤ s) (hs1 : s ≤ 11) : L 9 t ≤ tmA L t s ∧ 0 ≤ tmA L t s ∧ tmA L t s ≤ 1538 := by
  have h := ht.2 t h0 h1
  have q := btw_bd hm (a := L 7 t) (b := s) (by omega) (by omega) hs hs1
  unfold tmA
  omega
section Sp0
variable {G : GT} {K : List Value → Mem → Prop} {X : String → Mem → Prop} {M : Mem} {i : Int}
theorem sp_isFromTo {a b c : Int} (ha : I32 a) (hb : I32 b) (hc : I32 c) (k : K [iv (b2i (b ≤ a ∧ a ≤ c))] M) : Call G 0 0 zX11_isFromTo [iv a, iv b, iv c] M K X := by
  refine bX11_isFromTo ⟨hb, ha, fun h => ?_, fun h => ⟨hc, fun h2 => ?_, fun h2 => ?_⟩⟩
  · rw [b2i_f (by omega)] at k; exact k
  · rw [b2i_f (by omega)] at k; exact k
  · rw [b2i_t (by omega)] at k; exact k
theorem sp_minutesFromTo (hi0 : 0 ≤ i) (hi1 : i < 12) {a b : Int} (ha : 0 ≤ a) (ha1 : a ≤ 11) (hb : 0 ≤ b) (hb1 : b ≤ 11) (k : K [iv (btw (M 1 i) a b)] M) : Call G 0 0 zX9_minutesFromTo [rr G 1 i 1, iv a, iv b] M K X := by
  have key : ∀ lo hi, 0 ≤ lo → lo ≤ hi → hi ≤ 11 → K [iv (sumT (M 1 i 2) lo hi)] M → eX9_minutesFromTo G K X 29 [(0, rr G 1 i 1), (4, iv hi), (5, iv 0), (6, iv lo)] [] M := by
    intro lo hi h1 h2 h3 hk
    have h := loop_up (E := fun k => eX9_minutesFromTo G K X 29 [(0, rr G 1 i 1), (4, iv hi), (5, iv (sumT (M 1 i 2) lo k)), (6, iv k)] [] M) h2
      (bX9_minutesFromTo_29 hi0 hi1 ⟨i32 (by omega), i32 (by omega), fun _ => hk, fun q => absurd q (by omega)⟩)
      (fun k q1 q2 hn => bX9_minutesFromTo_29 hi0 hi1 ⟨i32 (by omega), i32 (by omega), fun q => absurd q2 q, fun _ => ⟨by omega, by omega, by rw [sumT_step _ q1] at hn; exact hn⟩⟩)
    rw [sumT_same] at h
    exact h
  refine bX9_minutesFromTo hi0 hi1 ⟨i32 (by omega), i32 (by omega), fun h => ?_, fun h => ?_⟩
  · refine key b a hb (by omega) ha1 ?_
    unfold btw at k
    rw [Int.min_eq_right (by omega), Int.max_eq_left (by omega)] at k
    exact k
  · refine key a b ha (by omega) hb1 ?_
    unfold btw at k
    rw [Int.min_eq_left (by omega), Int.max_eq_right (by omega)] at k
    exact k
theorem sp_arrivalOf (hi0 : 0 ≤ i) (hi1 : i < 12) (ht : WFt (M 1 i)) {t : Int} (h0 : 0 ≤ t) (h1 : t < M 1 i 6 4) (k : K [iv (arr (M 1 i) t)] M) : Call G 1 0 zX4_arrivalOf [rr G 1 i 0, iv t] M K X := by
  have h := ht.2 t h0 h1
  have hn := ht.1
  exact bX4_arrivalOf hi0 hi1 ⟨h0, by omega, sp_minutesFromTo hi0 hi1 (by omega) (by omega) (by omega) (by omega) (kI_mk k)⟩
theorem sp_timeAt (hi0 : 0 ≤ i) (hi1 : i < 12) (ht : WFt (M 1 i)) {t s : Int} (h0 : 0 ≤ t) (h1 : t < M 1 i 6 4) (hs : 0 ≤ s) (hs1 : s ≤ 11) (k : K [iv (tmA (M 1 i) t s)] M) : Call G 1 0 zX4_timeAt [rr G 1 i 0, iv t, iv s] M K X := by
  have h := ht.2 t h0 h1
  have hn := ht.1
  exact bX4_timeAt hi0 hi1 ⟨h0, by omega, sp_minutesFromTo hi0 hi1 (by omega) (by omega) hs hs1 (kI_mk k)⟩
theorem sp_directionOf (hi0 : 0 ≤ i) (hi1 : i < 12) (ht : WFt (M 1 i)) {t : Int} (h0 : 0 ≤ t) (h1 : t < M 1 i 6 4) (k : K [iv (dirn (M 1 i) t)] M) : Call G 0 0 zX8_directionOf [rr G 1 i 6, iv t] M K X := by
  have h := ht.2 t h0 h1
  have hn := ht.1
  unfold dirn at k
  refine bX8_directionOf hi0 hi1 ⟨h0, by omega, i32 (by omega), i32 (by omega), fun q => ?_, fun q => ?_⟩
  · rw [if_neg q] at k; exact k
  · rw [if_pos q] at k; exact k
theorem sp_isOnWay (hi0 : 0 ≤ i) (hi1 : i < 12) (ht : WFt (M 1 i)) {t s : Int} (h0 : 0 ≤ t) (h1 : t < M 1 i 6 4) (hs : I32 s) (k : K [iv (b2i (onW (M 1 i) t s))] M) : Call G 1 0 zX8_isOnWay [rr G 1 i 6, iv t, iv s] M K X := by
  have h := ht.2 t h0 h1
  have hn := ht.1
  exact bX8_isOnWay hi0 hi1 ⟨h0, by omega, i32 (by omega), i32 (by omega), sp_isFromTo hs (i32 (by omega)) (i32 (by omega)) (kI_mk ⟨b2i_01 _, k⟩)⟩
theorem sp_canFollow (hi0 : 0 ≤ i) (hi1 : i < 12) (ht : WFt (M 1 i)) (hm : WFm (M 1 i)) {t b : Int} (h0 : 0 ≤ t) (h1 : t < M 1 i 6 4) (hb0 : 0 ≤ b) (hb1 : b < M 1 i 6 4) (k : K [iv (b2i (fol (M 1 i) t b))] M) : Call G 2 0 zX4_canFollow [rr G 1 i 0, iv t, iv b] M K X := by
  have h := ht.2 t h0 h1
  have h2 := ht.2 b hb0 hb1
  have hn := ht.1
  have ha := arr_bd hm ht hb0 hb1
  have hs := hm.2.2.2.2
  refine bX4_canFollow hi0 hi1 ⟨h0, by omega, hb0, by omega, i32 (by omega), i32 (by omega), fun q => ?_, fun q => sp_arrivalOf hi0 hi1 ht hb0 hb1 (kI_mk ⟨i32 (by omega), i32 (by omega), fun z => ?_, fun z => ?_⟩)⟩
  · rw [b2i_f (fun z => q z.1)] at k; exact k
  · rw [b2i_f (fun y => by have := y.2; omega)] at k; exact k
  · rw [b2i_t ⟨q, by omega⟩] at k; exact k
end Sp0
