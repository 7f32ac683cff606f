/-! ===== the text ===== -/
abbrev dig (c : Int) : Prop := 48 ≤ c ∧ c ≤ 57
/-- a number's further digits: (number or -1, place behind) -/
def numN (sg : Int → Int) (ln mx : Int) : Nat → Int → Int → Int × Int
  | 0, v, p => (v, p)
  | n + 1, v, p => if 0 < v ∧ p < ln ∧ dig (sg p) then (if mx < 10 * v + sg p - 48 then (-1, p) else numN sg ln mx n (10 * v + sg p - 48) (p + 1)) else (v, p)
def num (sg : Int → Int) (ln mx p : Int) : Int × Int := if p < ln ∧ dig (sg p) then numN sg ln mx (ln - p).toNat (sg p - 48) (p + 1) else (-1, p)
abbrev ski (sg : Int → Int) (ln c p : Int) : Prop := p < ln ∧ sg p = c
/-- one trip: (1 or 0, place behind, first, last, departure) -/
def trp (sg : Int → Int) (ln p : Int) : Int × Int × Int × Int × Int :=
  if (num sg ln 11 p).1 = -1 then (0, (num sg ln 11 p).2, 0, 0, 0)
  else if ¬ ski sg ln 45 (num sg ln 11 p).2 then (0, (num sg ln 11 p).2, 0, 0, 0)
  else if (num sg ln 11 ((num sg ln 11 p).2 + 1)).1 = -1 then (0, (num sg ln 11 ((num sg ln 11 p).2 + 1)).2, 0, 0, 0)
  else if ¬ ski sg ln 64 (num sg ln 11 ((num sg ln 11 p).2 + 1)).2 then (0, (num sg ln 11 ((num sg ln 11 p).2 + 1)).2, 0, 0, 0)
  else if (num sg ln 1439 ((num sg ln 11 ((num sg ln 11 p).2 + 1)).2 + 1)).1 = -1 then (0, (num sg ln 1439 ((num sg ln 11 ((num sg ln 11 p).2 + 1)).2 + 1)).2, 0, 0, 0)
  else if ¬ ski sg ln 59 (num sg ln 1439 ((num sg ln 11 ((num sg ln 11 p).2 + 1)).2 + 1)).2 then (0, (num sg ln 1439 ((num sg ln 11 ((num sg ln 11 p).2 + 1)).2 + 1)).2, 0, 0, 0)
  else (1, (num sg ln 1439 ((num sg ln 11 ((num sg ln 11 p).2 + 1)).2 + 1)).2 + 1, (num sg ln 11 p).1, (num sg ln 11 ((num sg ln 11 p).2 + 1)).1, (num sg ln 1439 ((num sg ln 11 ((num sg ln 11 p).2 + 1)).2 + 1)).1)
abbrev T3 : Type := (Int → Int) × (Int → Int) × (Int → Int)
/-- the trips: (1 or 0, count, place, first, last, departure) -/
def txtN (sg : Int → Int) (ln : Int) : Nat → Int → Int → T3 → Int × Int × Int × T3
  | 0, n, p, F => (1, n, p, F)
  | m + 1, n, p, F => if (trp sg ln p).1 = 0 then (0, n, (trp sg ln p).2.1, F)
      else if (trp sg ln p).2.1 < ln then txtN sg ln m (n + 1) (trp sg ln p).2.1 (upI F.1 n (trp sg ln p).2.2.1, upI F.2.1 n (trp sg ln p).2.2.2.1, upI F.2.2 n (trp sg ln p).2.2.2.2)
      else (1, n + 1, (trp sg ln p).2.1, (upI F.1 n (trp sg ln p).2.2.1, upI F.2.1 n (trp sg ln p).2.2.2.1, upI F.2.2 n (trp sg ln p).2.2.2.2))
/-- the numbers parsed are small -/
theorem numN_bd (sg : Int → Int) {ln mx : Int} (hmx : 9 ≤ mx) (n : Nat) : ∀ v p, 0 ≤ v → v ≤ mx → 0 ≤ p → p ≤ ln → (-1 ≤ (numN sg ln mx n v p).1 ∧ (numN sg ln mx n v p).1 ≤ mx) ∧ p ≤ (numN sg ln mx n v p).2 ∧ (numN sg ln mx n v p).2 ≤ ln := by
  induction n with
  | zero => intro v p h0 h1 h2 h3; exact ⟨⟨by show -1 ≤ v; omega, h1⟩, Int.le_refl _, h3⟩
  | succ n ih =>
    intro v p h0 h1 h2 h3
    simp only [numN]
    split
    · rename_i h
      split
      · exact ⟨⟨Int.le_refl _, by show -1 ≤ mx; omega⟩, Int.le_refl _, h3⟩
      · have := ih (10 * v + sg p - 48) (p + 1) (by omega) (by omega) (by omega) (by omega)
        exact ⟨this.1, by omega, this.2.2⟩
    · exact ⟨⟨by show -1 ≤ v; omega, h1⟩, Int.le_refl _, h3⟩
theorem num_bd (sg : Int → Int) {ln mx p : Int} (hmx : 9 ≤ mx) (h0 : 0 ≤ p) (h1 : p ≤ ln) : (-1 ≤ (num sg ln mx p).1 ∧ (num sg ln mx p).1 ≤ mx) ∧ p ≤ (num sg ln mx p).2 ∧ (num sg ln mx p).2 ≤ ln := by
  unfold num
  split
  · rename_i h
    have := numN_bd sg (ln := ln) hmx (ln - p).toNat (sg p - 48) (p + 1) (by omega) (by omega) (by omega) (by omega)
    exact ⟨this.1, by omega, this.2.2⟩
  · exact ⟨⟨Int.le_refl _, by show -1 ≤ mx; omega⟩, Int.le_refl _, h1⟩
/-- in region 7: the text, all but place, count and the trips -/
def TxR (M : Mem) (sg : Int → Int) (ln : Int) : Prop := (0 ≤ ln ∧ ln ≤ 60) ∧ M 7 0 0 1 = ln ∧ M 7 0 1 = sg ∧ ∀ k, 0 ≤ k → k < 60 → 0 ≤ sg k ∧ sg k ≤ 65535
section Tx
variable {G : GT} {K : List Value → Mem → Prop} {X : String → Mem → Prop} {M : Mem} {sg : Int → Int} {ln p : Int}
theorem sp_isDigit {c : Int} (hc : I32 c) (k : K [iv (b2i (dig c))] M) : Call G 0 0 zX10_isDigit [iv c] M K X := by
  refine bX10_isDigit ⟨hc, fun h => ?_, fun h => ⟨fun h2 => ?_, fun h2 => ?_⟩⟩
  · rw [b2i_f (by omega)] at k; exact k
  · rw [b2i_f (by omega)] at k; exact k
  · rw [b2i_t (by omega)] at k; exact k
/-- the same but for the place -/
theorem TxR.place (h : TxR M sg ln) (x : Int) : TxR (wr M 7 0 0 2 x) sg ln := ⟨h.1, by rw [wr_nk (by omega)]; exact h.2.1, by rw [wr_nc (by omega)]; exact h.2.2.1, h.2.2.2⟩
theorem wr_same (M : Mem) (a : Nat) (b c k v : Int) (h : M a b c k = v) : wr M a b c k v = M := by
  unfold wr
  rw [show upI (M a b c) k v = M a b c by
    funext d
    unfold upI
    by_cases hd : d = k
    · rw [if_pos hd, hd, h]
    · rw [if_neg hd]]
  funext a' b' c'
  by_cases hq : a' = a ∧ c' = c ∧ b' = b
  · obtain ⟨rfl, rfl, rfl⟩ := hq
    rw [wrow_at]
  · exact wrow_ne hq
theorem wr_wr (M : Mem) (a : Nat) (b c k v w : Int) : wr (wr M a b c k v) a b c k w = wr M a b c k w := by
  unfold wr
  rw [wrow_at]
  funext a' b' c'
  by_cases hq : a' = a ∧ c' = c ∧ b' = b
  · obtain ⟨rfl, rfl, rfl⟩ := hq
    rw [wrow_at, wrow_at]
    funext d
    unfold upI
    split <;> rfl
  · rw [wrow_ne hq, wrow_ne hq, wrow_ne hq]
theorem sp_passes (hT : TxR M sg ln) (hp : M 7 0 0 2 = p) (p0 : 0 ≤ p) (p1 : p ≤ ln) {c : Int} (hc : I32 c) (k : K [iv (b2i (ski sg ln c p))] (wr M 7 0 0 2 (if ski sg ln c p then p + 1 else p))) : Call G 0 0 zX10_passes [rr G 7 0 0, iv c] M K X := by
  obtain ⟨t1, t2, t3, t4⟩ := hT
  refine bX10_passes ?_
  rw [hp, t2, t3]
  refine ⟨i32 (by omega), i32 (by omega), fun z => ?_, fun z => ?_⟩
  · rw [b2i_f (fun w => z w.1), if_neg (fun w => z w.1), wr_same _ _ _ _ _ _ hp] at k
    exact k
  · have := t4 p p0 (by omega)
    refine ⟨p0, by omega, i32 (by omega), hc, fun y => ?_, fun y => ?_⟩
    · rw [b2i_f (fun w => y w.2), if_neg (fun w => y w.2), wr_same _ _ _ _ _ _ hp] at k
      exact k
    · rw [b2i_t ⟨z, y⟩, if_pos ⟨z, y⟩] at k
      exact k
theorem sp_parseNumber (hT : TxR M sg ln) (hp : M 7 0 0 2 = p) (p0 : 0 ≤ p) (p1 : p ≤ ln) {mx : Int} (hm0 : 9 ≤ mx) (hm1 : mx ≤ 100000) (k : K [iv (num sg ln mx p).1] (wr M 7 0 0 2 (num sg ln mx p).2)) : Call G 1 0 zX10_parseNumber [rr G 7 0 0, iv mx] M K X := by
  have gen : ∀ n : Nat, ∀ v q : Int, 0 ≤ v → v ≤ mx → 0 ≤ q → q ≤ ln → ln - q ≤ n → K [iv (numN sg ln mx n v q).1] (wr M 7 0 0 2 (numN sg ln mx n v q).2) → eX10_parseNumber G K X 51 [(0, rr G 7 0 0), (1, iv mx), (2, iv v)] [] (wr M 7 0 0 2 q) := by
    intro n
    induction n with
    | zero =>
      intro v q v0 v1 q0 q1 hq hk
      have hT' := hT.place q
      have hl := hT.1
      refine bX10_parseNumber_51 ?_
      rw [wr_at, hT'.2.1]
      exact ⟨i32 (by omega), fun _ => hk, fun _ => ⟨i32 (by omega), i32 (by have := hT.1; omega), fun _ => hk, fun z => absurd z (by omega)⟩⟩
    | succ n ih =>
      intro v q v0 v1 q0 q1 hq hk
      have hT' := hT.place q
      have hl := hT.1
      simp only [numN] at hk
      refine bX10_parseNumber_51 ?_
      rw [wr_at, hT'.2.1, hT'.2.2.1]
      refine ⟨i32 (by omega), fun z => ?_, fun z => ⟨i32 (by omega), i32 (by omega), fun y => ?_, fun y => ?_⟩⟩
      · rw [if_neg (fun w => z w.1)] at hk; exact hk
      · rw [if_neg (fun w => y w.2.1)] at hk; exact hk
      · have hs := hT.2.2.2 q q0 (by omega)
        refine ⟨q0, by omega, sp_isDigit (i32 (by omega)) (kI_mk ⟨b2i_i32 _, fun x => ?_, fun x => ?_⟩)⟩
        · rw [if_neg (fun w => (b2i_0.mp x) w.2.2)] at hk; exact hk
        · have x' : dig (sg q) := Classical.byContradiction fun w => x (b2i_0.mpr w)
          rw [if_pos ⟨z, y, x'⟩] at hk
          rw [wr_at, hT'.2.2.1]
          refine ⟨q0, by omega, i32 (by omega), i32 (by omega), fun u => ?_, fun u => ?_⟩
          · rw [if_neg u] at hk
            rw [wr_wr]
            exact ih _ _ (by omega) (by omega) (by omega) (by omega) (by omega) hk
          · rw [if_pos u] at hk
            exact hk
  have hl := hT.1
  obtain ⟨t1, t2, t3, t4⟩ := hT
  unfold num at k
  refine bX10_parseNumber ?_
  rw [hp, t2, t3]
  refine ⟨i32 (by omega), i32 (by omega), fun z => ?_, fun z => ⟨p0, by omega, sp_isDigit (by have := t4 p p0 (by omega); exact i32 (by omega)) (kI_mk ⟨b2i_i32 _, fun y => ?_, fun y => ?_⟩)⟩⟩
  · rw [if_neg (fun w => z w.1), wr_same _ _ _ _ _ _ hp] at k
    exact k
  · have y' : dig (sg p) := Classical.byContradiction fun w => y (b2i_0.mpr w)
    rw [if_pos ⟨z, y'⟩] at k
    rw [hp, t3]
    exact ⟨p0, by omega, gen _ _ _ (by omega) (by omega) (by omega) (by omega) (by omega) k⟩
  · rw [if_neg (fun w => (b2i_0.mp y) w.2), wr_same _ _ _ _ _ _ hp] at k
    exact k
theorem sp_parseTrip (hT : TxR M sg ln) (hp : M 7 0 0 2 = p) (p0 : 0 ≤ p) (p1 : p ≤ ln) (hc0 : 0 ≤ M 7 0 0 6) (hc1 : M 7 0 0 6 < 10)
    (k0 : (trp sg ln p).1 = 0 → K [iv 0] (wr M 7 0 0 2 (trp sg ln p).2.1))
    (k1 : (trp sg ln p).1 = 1 → ∀ M', FrA 7 0 M M' → M' 7 0 1 = M 7 0 1 → M' 7 0 0 1 = M 7 0 0 1 → M' 7 0 0 2 = (trp sg ln p).2.1 → M' 7 0 0 6 = M 7 0 0 6 + 1 → M' 7 0 0 7 = M 7 0 0 7 → M' 7 0 2 = upI (M 7 0 2) (M 7 0 0 6) (trp sg ln p).2.2.1 → M' 7 0 3 = upI (M 7 0 3) (M 7 0 0 6) (trp sg ln p).2.2.2.1 → M' 7 0 4 = upI (M 7 0 4) (M 7 0 0 6) (trp sg ln p).2.2.2.2 → K [iv 1] M') :
    Call G 2 0 zX10_parseTrip [rr G 7 0 0] M K X := by
  unfold trp at k0 k1
  refine bX10_parseTrip (sp_parseNumber hT hp p0 p1 (by omega) (by omega) (kI_mk ?_))
  have b1 := num_bd sg (ln := ln) (mx := 11) (by omega) p0 p1
  generalize num sg ln 11 p = r1 at *
  refine ⟨i32 (by omega), fun z => ?_, fun z => ?_⟩
  · rw [if_pos z] at k0; exact k0 rfl
  rw [if_neg z] at k0 k1
  refine sp_passes (hT.place _) (wr_at _ _ _ _ _ _) (by omega) b1.2.2 (i32 (by omega)) (kI_mk ?_)
  rw [wr_wr]
  refine ⟨b2i_i32 _, fun y => ?_, fun y => ?_⟩
  case refine_2 =>
    have y' := b2i_0.mp y
    rw [if_pos y'] at k0
    rw [if_neg y']
    exact k0 rfl
  have y' : ski sg ln 45 r1.2 := Classical.byContradiction fun w => y (b2i_0.mpr w)
  rw [if_neg (fun w => w y')] at k0 k1
  rw [if_pos y']
  refine sp_parseNumber (hT.place _) (wr_at _ _ _ _ _ _) (by omega) (by have := y'.1; omega) (by omega) (by omega) (kI_mk ?_)
  rw [wr_wr]
  have b2 := num_bd sg (ln := ln) (mx := 11) (p := r1.2 + 1) (by omega) (by omega) (by have := y'.1; omega)
  generalize num sg ln 11 (r1.2 + 1) = r2 at *
  refine ⟨i32 (by omega), fun z2 => ?_, fun z2 => ?_⟩
  · rw [if_pos z2] at k0; exact k0 rfl
  rw [if_neg z2] at k0 k1
  refine sp_passes (hT.place _) (wr_at _ _ _ _ _ _) (by omega) b2.2.2 (i32 (by omega)) (kI_mk ?_)
  rw [wr_wr]
  refine ⟨b2i_i32 _, fun y2 => ?_, fun y2 => ?_⟩
  case refine_2 =>
    have y2' := b2i_0.mp y2
    rw [if_pos y2'] at k0
    rw [if_neg y2']
    exact k0 rfl
  have y2' : ski sg ln 64 r2.2 := Classical.byContradiction fun w => y2 (b2i_0.mpr w)
  rw [if_neg (fun w => w y2')] at k0 k1
  rw [if_pos y2']
  refine sp_parseNumber (hT.place _) (wr_at _ _ _ _ _ _) (by omega) (by have := y2'.1; omega) (by omega) (by omega) (kI_mk ?_)
  rw [wr_wr]
  have b3 := num_bd sg (ln := ln) (mx := 1439) (p := r2.2 + 1) (by omega) (by omega) (by have := y2'.1; omega)
  generalize num sg ln 1439 (r2.2 + 1) = r3 at *
  refine ⟨i32 (by omega), fun z3 => ?_, fun z3 => ?_⟩
  · rw [if_pos z3] at k0; exact k0 rfl
  rw [if_neg z3] at k0 k1
  refine sp_passes (hT.place _) (wr_at _ _ _ _ _ _) (by omega) b3.2.2 (i32 (by omega)) (kI_mk ?_)
  rw [wr_wr]
  refine ⟨b2i_i32 _, fun y3 => ?_, fun y3 => ?_⟩
  · have y3' := b2i_0.mp y3
    rw [if_pos y3'] at k0
    rw [if_neg y3']
    exact k0 rfl
  have y3' : ski sg ln 59 r3.2 := Classical.byContradiction fun w => y3 (b2i_0.mpr w)
  rw [if_neg (fun w => w y3')] at k1
  rw [if_pos y3']
  have e6 : wr M 7 0 0 2 (r3.2 + 1) 7 0 0 6 = M 7 0 0 6 := wr_nk (by omega)
  rw [e6]
  refine ⟨i32 (by omega), fun _ => ⟨hc0, hc1, fun M68 e68 => ?_⟩, fun w => absurd hc1 w⟩
  have f6 : M68 7 0 0 6 = M 7 0 0 6 := by rw [e68, wr_nc (by omega), wr_nc (by omega), wr_nc (by omega)]; exact e6
  rw [f6]
  refine k1 rfl _ ?_ ?_ ?_ ?_ (wr_at _ _ _ _ _ _) ?_ ?_ ?_ ?_
  · rw [e68]; exact ((((FrA.rf.wr _ _ _).wr _ _ _).wr _ _ _).wr _ _ _).wr _ _ _
  · rw [e68, wr_nc (by omega), wr_nc (by omega), wr_nc (by omega), wr_nc (by omega), wr_nc (by omega)]
  · rw [e68, wr_nk (by omega), wr_nc (by omega), wr_nc (by omega), wr_nc (by omega), wr_nk (by omega)]
  · rw [e68, wr_nk (by omega), wr_nc (by omega), wr_nc (by omega), wr_nc (by omega), wr_at]
  · rw [e68, wr_nk (by omega), wr_nc (by omega), wr_nc (by omega), wr_nc (by omega), wr_nk (by omega)]
  · rw [e68, wr_nc (by omega), wr_nc (by omega), wr_nc (by omega)]
    unfold wr
    rw [wrow_at, wrow_nc (by omega)]
  · rw [e68, wr_nc (by omega), wr_nc (by omega)]
    unfold wr
    rw [wrow_at, wrow_nc (by omega), wrow_nc (by omega)]
  · rw [e68, wr_nc (by omega)]
    unfold wr
    rw [wrow_at, wrow_nc (by omega), wrow_nc (by omega), wrow_nc (by omega)]
end Tx
