/-! ===== the reference: pairs, tried one by one ===== -/
/-- D is closed: its ones are paired, and what their firsts link to is in it -/
def Clo (lk : Int → Int → Prop) (n : Int) (A : Int → Int) (D : Int → Bool) : Prop := ∀ b, 0 ≤ b → b < n → D b = true → A b ≠ -1 ∧ ∀ b', 0 ≤ b' → b' < n → lk (A b) b' → D b' = true
/-- a has found a second one -/
def Suc (lk : Int → Int → Prop) (n : Int) (A T A' : Int → Int) (a : Int) : Prop :=
  (∀ b, 0 ≤ b → b < n → T b ≠ 0 → A' b = A b) ∧
  (∀ b, 0 ≤ b → b < n → A' b = -1 ∨ (0 ≤ A' b ∧ A' b < n ∧ lk (A' b) b)) ∧
  (∀ b b', 0 ≤ b → b < n → 0 ≤ b' → b' < n → T b = 0 → T b' = 0 → A' b = A' b' → A' b ≠ -1 → b = b') ∧
  (∀ b, 0 ≤ b → b < n → T b = 0 → A' b = -1 ∨ A' b = a ∨ ∃ b', 0 ≤ b' ∧ b' < n ∧ T b' = 0 ∧ A b' = A' b) ∧
  (∃ b, 0 ≤ b ∧ b < n ∧ T b = 0 ∧ A' b = a) ∧
  (∀ b, 0 ≤ b → b < n → T b = 0 → A b ≠ -1 → ∃ b', 0 ≤ b' ∧ b' < n ∧ T b' = 0 ∧ A' b' = A b) ∧
  sumT (fun b => if A' b = -1 then 0 else 1) 0 n = sumT (fun b => if A b = -1 then 0 else 1) 0 n + 1 ∧
  ∀ D, Clo lk n A D → (∀ b, 0 ≤ b → b < n → D b = true → A' b = A b) ∧ ∃ b, 0 ≤ b ∧ b < n ∧ lk a b ∧ D b = false
/-- a has found none; those of T' are tried -/
def Fai (lk : Int → Int → Prop) (n : Int) (A T T' : Int → Int) (a : Int) (m : Int) : Prop :=
  (∀ b, 0 ≤ b → b < n → T' b = 0 ∨ T' b = 1) ∧ (∀ b, 0 ≤ b → b < n → T b = 1 → T' b = 1) ∧ (∀ b, 0 ≤ b → b < m → lk a b → T' b = 1) ∧
  ∀ b, 0 ≤ b → b < n → T b = 0 → T' b = 1 → A b ≠ -1 ∧ ∀ b', 0 ≤ b' → b' < n → lk (A b) b' → T' b' = 1
theorem suc_hit {lk : Int → Int → Prop} {n a b : Int} {A T : Int → Int} (a0 : 0 ≤ a) (a1 : a < n) (b0 : 0 ≤ b) (b1 : b < n) (hT : T b = 0) (hA : ∀ b, 0 ≤ b → b < n → A b = -1 ∨ (0 ≤ A b ∧ A b < n ∧ lk (A b) b)) (hI : ∀ b b', 0 ≤ b → b < n → 0 ≤ b' → b' < n → T b = 0 → T b' = 0 → A b = A b' → A b ≠ -1 → b = b')
    (ha : ∀ b, 0 ≤ b → b < n → T b = 0 → A b ≠ a) (hl : lk a b) (hb : A b = -1) : Suc lk n A T (upI A b a) a := by
  have ub : upI A b a b = a := if_pos rfl
  have un : ∀ x, x ≠ b → upI A b a x = A x := fun x hx => if_neg hx
  refine ⟨fun x x0 x1 hx => un x (fun w => hx (by rw [w]; exact hT)), fun x x0 x1 => ?_, fun x y x0 x1 y0 y1 tx ty e hz => ?_, fun x x0 x1 tx => ?_, ⟨b, b0, b1, hT, ub⟩, fun x x0 x1 tx hz => ⟨x, x0, x1, tx, un x (fun w => hz (by rw [w]; exact hb))⟩, ?_, fun D hD => ⟨fun x x0 x1 dx => un x (fun w => (hD x x0 x1 dx).1 (by rw [w]; exact hb)), b, b0, b1, hl, ?_⟩⟩
  · by_cases hx : x = b
    · rw [hx, ub]; exact Or.inr ⟨a0, a1, hl⟩
    · rw [un x hx]; exact hA x x0 x1
  · by_cases hx : x = b
    · by_cases hy : y = b
      · omega
      · rw [hx, ub, un y hy] at e
        exact absurd e.symm (ha y y0 y1 ty)
    · by_cases hy : y = b
      · rw [hy, ub, un x hx] at e
        exact absurd e (ha x x0 x1 tx)
      · rw [un x hx] at hz
        rw [un x hx, un y hy] at e
        exact hI x y x0 x1 y0 y1 tx ty e hz
  · by_cases hx : x = b
    · rw [hx, ub]; exact Or.inr (Or.inl rfl)
    · rw [un x hx]
      exact Or.inr (Or.inr ⟨x, x0, x1, tx, rfl⟩)
  · have e : sumT (fun x => if upI A b a x = -1 then 0 else 1) 0 n = sumT (upI (fun x => if A x = -1 then 0 else 1) b 1) 0 n := sumT_congr (fun x _ _ => by
      show (if upI A b a x = -1 then 0 else 1) = (if x = b then 1 else (if A x = -1 then (0 : Int) else 1))
      by_cases hx : x = b
      · rw [hx, ub, if_neg (by omega), if_pos rfl]
      · rw [un x hx, if_neg hx])
    rw [e, sumT_upI _ _ b0 b1, if_pos hb]
    omega
  · refine Classical.byContradiction (fun w => ?_)
    have hd : D b = true := by simpa using w
    exact (hD b b0 b1 hd).1 hb
theorem suc_in {lk : Int → Int → Prop} {n a b : Int} {A T T1 A2 : Int → Int} (a0 : 0 ≤ a) (a1 : a < n) (b0 : 0 ≤ b) (b1 : b < n) (hT : T b = 0) (hT1 : T1 b ≠ 0) (hTT : ∀ x, 0 ≤ x → x < n → T x ≠ 0 → T1 x ≠ 0) (hI : ∀ b b', 0 ≤ b → b < n → 0 ≤ b' → b' < n → T b = 0 → T b' = 0 → A b = A b' → A b ≠ -1 → b = b')
    (ha : ∀ b, 0 ≤ b → b < n → T b = 0 → A b ≠ a) (hl : lk a b) (hb : A b ≠ -1) (S : Suc lk n A T1 A2 (A b)) : Suc lk n A T (upI A2 b a) a := by
  obtain ⟨s1, s2, s3, s4, ⟨c, c0, c1, c2, c3⟩, s6, s7, s8⟩ := S
  have ub : upI A2 b a b = a := if_pos rfl
  have un : ∀ x, x ≠ b → upI A2 b a x = A2 x := fun x hx => if_neg hx
  have t1 : ∀ x, 0 ≤ x → x < n → T1 x = 0 → T x = 0 := fun x x0 x1 h => Classical.byContradiction fun w => hTT x x0 x1 w h
  have nb : ∀ x, T1 x = 0 → x ≠ b := fun x h w => hT1 (by rw [← w]; exact h)
  -- what A2 holds of those not tried
  have im : ∀ x, 0 ≤ x → x < n → T x = 0 → x ≠ b → A2 x = -1 ∨ ∃ y, 0 ≤ y ∧ y < n ∧ T y = 0 ∧ A y = A2 x ∧ (T1 x = 0 → y = b ∨ T1 y = 0) ∧ (T1 x ≠ 0 → y = x) := fun x x0 x1 tx hx => by
    by_cases h : T1 x = 0
    · rcases s4 x x0 x1 h with w | w | ⟨y, y0, y1, y2, y3⟩
      · exact Or.inl w
      · exact Or.inr ⟨b, b0, b1, hT, w.symm, fun _ => Or.inl rfl, fun z => absurd h z⟩
      · exact Or.inr ⟨y, y0, y1, t1 y y0 y1 y2, y3, fun _ => Or.inr y2, fun z => absurd h z⟩
    · exact Or.inr ⟨x, x0, x1, tx, (s1 x x0 x1 h).symm, fun z => absurd z h, fun _ => rfl⟩
  have na : ∀ x, 0 ≤ x → x < n → T x = 0 → x ≠ b → A2 x ≠ a := fun x x0 x1 tx hx w => by
    rcases im x x0 x1 tx hx with y | ⟨y, y0, y1, y2, y3, -⟩
    · omega
    · exact ha y y0 y1 y2 (y3.trans w)
  refine ⟨fun x x0 x1 hx => ?_, fun x x0 x1 => ?_, fun x y x0 x1 y0 y1 tx ty e hz => ?_, fun x x0 x1 tx => ?_, ⟨b, b0, b1, hT, ub⟩, fun x x0 x1 tx hz => ?_, ?_, fun D hD => ?_⟩
  · rw [un x (fun w => hx (by rw [w]; exact hT))]
    exact s1 x x0 x1 (hTT x x0 x1 hx)
  · by_cases hx : x = b
    · rw [hx, ub]; exact Or.inr ⟨a0, a1, hl⟩
    · rw [un x hx]; exact s2 x x0 x1
  · by_cases hx : x = b
    · by_cases hy : y = b
      · omega
      · rw [hx, ub, un y hy] at e
        exact absurd e.symm (na y y0 y1 ty hy)
    · by_cases hy : y = b
      · rw [hy, ub, un x hx] at e
        exact absurd e (na x x0 x1 tx hx)
      · rw [un x hx] at hz
        rw [un x hx, un y hy] at e
        by_cases t1x : T1 x = 0
        · by_cases t1y : T1 y = 0
          · exact s3 x y x0 x1 y0 y1 t1x t1y e hz
          · rcases im x x0 x1 tx hx with w | ⟨z, z0, z1, z2, z3, z4, -⟩
            · exact absurd w hz
            · have ey := s1 y y0 y1 t1y
              have q := hI z y z0 z1 y0 y1 z2 ty (by rw [z3, e, ey]) (by rw [z3]; exact hz)
              rcases z4 t1x with w | w
              · exact absurd (q.symm.trans w) hy
              · rw [q] at w; exact absurd w t1y
        · by_cases t1y : T1 y = 0
          · rcases im y y0 y1 ty hy with w | ⟨z, z0, z1, z2, z3, z4, -⟩
            · exact absurd (e.trans w) hz
            · have ex := s1 x x0 x1 t1x
              have q := hI z x z0 z1 x0 x1 z2 tx (by rw [z3, ← e, ex]) (by rw [z3, ← e]; exact hz)
              rcases z4 t1y with w | w
              · exact absurd (q.symm.trans w) hx
              · rw [q] at w; exact absurd w t1x
          · rw [s1 x x0 x1 t1x, s1 y y0 y1 t1y] at e
            rw [s1 x x0 x1 t1x] at hz
            exact hI x y x0 x1 y0 y1 tx ty e hz
  · by_cases hx : x = b
    · rw [hx, ub]; exact Or.inr (Or.inl rfl)
    · rw [un x hx]
      rcases im x x0 x1 tx hx with w | ⟨y, y0, y1, y2, y3, -⟩
      · exact Or.inl w
      · exact Or.inr (Or.inr ⟨y, y0, y1, y2, y3⟩)
  · by_cases hx : x = b
    · exact ⟨c, c0, c1, t1 c c0 c1 c2, by rw [un c (nb c c2), c3, hx]⟩
    · by_cases h : T1 x = 0
      · obtain ⟨y, y0, y1, y2, y3⟩ := s6 x x0 x1 h hz
        exact ⟨y, y0, y1, t1 y y0 y1 y2, by rw [un y (nb y y2)]; exact y3⟩
      · exact ⟨x, x0, x1, tx, by rw [un x hx]; exact s1 x x0 x1 h⟩
  · rw [← s7]
    refine sumT_congr (fun x _ _ => ?_)
    show (if upI A2 b a x = -1 then 0 else 1) = (if A2 x = -1 then (0 : Int) else 1)
    by_cases hx : x = b
    · rw [hx, ub, if_neg (by omega), if_neg (by rw [s1 b b0 b1 hT1]; exact hb)]
    · rw [un x hx]
  · obtain ⟨d1, x, x0, x1, x2, x3⟩ := s8 D hD
    have dbn : D b = false := Classical.byContradiction fun w => by
      have hd : D b = true := by simpa using w
      have := (hD b b0 b1 hd).2 x x0 x1 x2
      rw [x3] at this
      exact absurd this (by decide)
    refine ⟨fun y y0 y1 dy => ?_, b, b0, b1, hl, dbn⟩
    rw [un y (fun w => by rw [w, dbn] at dy; exact absurd dy (by decide))]
    exact d1 y y0 y1 dy
abbrev P15 (c _k : Int) : Prop := c = 15
abbrev P145 (c _k : Int) : Prop := c = 14 ∨ c = 15
section Ku
variable {G : GT} {K : List Value → Mem → Prop} {X : String → Mem → Prop} {M : Mem} {L : LFn}
theorem m_links (hR : RG (M 8 0 1) L) (ht : WFt L) (hm : WFm L) {a b : Int} (a0 : 0 ≤ a) (a1 : a < L 6 4) (b0 : 0 ≤ b) (b1 : b < L 6 4) (k : K [iv (b2i (lkL L a b))] M) : Call G 3 0 zX12_links [rr G 8 0 0, iv a, iv b] M K X := by
  refine bX12_links (m_isActive hR ht a0 a1 (kI_mk ⟨b2i_i32 _, fun z => ?_, fun z => m_isActive hR ht b0 b1 (kI_mk ⟨b2i_i32 _, fun y => ?_, fun y => m_follows hR ht hm a0 a1 b0 b1 (kI_mk ⟨b2i_i32 _, fun w => ?_, fun w => ?_⟩)⟩)⟩))
  · rw [b2i_f (fun u => b2i_0.mp z u.1)] at k; exact k
  · rw [b2i_f (fun u => b2i_0.mp y u.2.1)] at k; exact k
  · rw [b2i_f (fun u => b2i_0.mp w u.2.2)] at k; exact k
  · have z' : L 10 a = 0 := Classical.byContradiction fun u => z (b2i_0.mpr u)
    have y' : L 10 b = 0 := Classical.byContradiction fun u => y (b2i_0.mpr u)
    have w' : fol L b a := Classical.byContradiction fun u => w (b2i_0.mpr u)
    rw [b2i_t ⟨z', y', w'⟩] at k; exact k
/-- what finds does, with at most dn ones not tried -/
def FSpec (G : GT) (L : LFn) (dn : Nat) : Prop := ∀ (M : Mem) (K : List Value → Mem → Prop) (X : String → Mem → Prop) (a : Int), RG (M 8 0 1) L → 0 ≤ a → a < L 6 4 → (∀ b, 0 ≤ b → b < L 6 4 → M 8 0 15 b = 0 ∨ M 8 0 15 b = 1) →
  (∀ b, 0 ≤ b → b < L 6 4 → M 8 0 14 b = -1 ∨ (0 ≤ M 8 0 14 b ∧ M 8 0 14 b < L 6 4 ∧ lkL L (M 8 0 14 b) b)) → sumT (fun b => if M 8 0 15 b = 0 then 1 else 0) 0 (L 6 4) ≤ dn →
  (∀ b b', 0 ≤ b → b < L 6 4 → 0 ≤ b' → b' < L 6 4 → M 8 0 15 b = 0 → M 8 0 15 b' = 0 → M 8 0 14 b = M 8 0 14 b' → M 8 0 14 b ≠ -1 → b = b') → (∀ b, 0 ≤ b → b < L 6 4 → M 8 0 15 b = 0 → M 8 0 14 b ≠ a) →
  (∀ M', FrX P15 M M' → Fai (lkL L) (L 6 4) (M 8 0 14) (M 8 0 15) (M' 8 0 15) a (L 6 4) → K [iv 0] M') → (∀ M', FrX P145 M M' → Suc (lkL L) (L 6 4) (M 8 0 14) (M 8 0 15) (M' 8 0 14) a → K [iv 1] M') → Call G (dn + 5) 0 zX12_finds [rr G 8 0 0, iv a] M K X
theorem row8 (M : Mem) (c k v : Int) : wr M 8 0 c k v 8 0 c = upI (M 8 0 c) k v := by
  unfold wr
  rw [wrow_at]
theorem m_finds_of (ht : WFt L) (hm : WFm L) (dn : Nat) (IH : ∀ dn' : Nat, dn = dn' + 1 → FSpec G L dn') : FSpec G L dn := by
  intro M K X a hR a0 a1 hT hA hd hI ha k0 k1
  have nt := ht.1
  generalize hn : L 6 4 = n at *
  have gen := loop_up (E := fun q => 0 ≤ q → ∀ N : Mem, FrX P15 M N → Fai (lkL L) n (M 8 0 14) (M 8 0 15) (N 8 0 15) a q → eX12_finds dn G K X 2 [(0, rr G 8 0 0), (1, iv a), (2, iv q)] [] N) (a := 0) (b := n) nt.1 (fun _ N fN hF => by
    have g37 : N 8 0 1 37 = n := by rw [fN.row (fun k => by show ¬ (_ = _); omega), hR.2.2.2.1]; exact hn
    refine bX12_finds_2 ⟨i32 (by omega), by rw [g37]; exact i32 (by omega), fun _ => k0 N fN hF, fun z => absurd z (by rw [g37]; omega)⟩) (fun q q1 q2 hn9 _ N fN hF => by
    have eg : N 8 0 1 = M 8 0 1 := fN.row (fun k => by show ¬ (_ = _); omega)
    have g37 : N 8 0 1 37 = n := by rw [eg, hR.2.2.2.1]; exact hn
    have e14 : N 8 0 14 = M 8 0 14 := fN.row (fun k => by show ¬ (_ = _); omega)
    obtain ⟨f1, f2, f3, f4⟩ := hF
    have tq := f1 q q1 q2
    have aq := hA q q1 q2
    have skip : (lkL L a q → N 8 0 15 q = 1) → eX12_finds dn G K X 2 [(0, rr G 8 0 0), (1, iv a), (2, iv (q + 1))] [] N := fun hs => hn9 (by omega) N fN ⟨f1, f2, fun b b0 b1 hl => by
      by_cases hb : b = q
      · rw [hb] at hl ⊢; exact hs hl
      · exact f3 b b0 (by omega) hl, f4⟩
    refine bX12_finds_2 ⟨i32 (by omega), by rw [g37]; exact i32 (by omega), fun z => absurd q2 (by rw [g37] at z; exact z), fun _ => m_links (by rw [eg]; exact hR) ht hm a0 (by omega) q1 (by omega) (kI_mk ⟨b2i_i32 _, fun z => skip (fun hl => absurd hl (b2i_0.mp z)), fun z => ⟨q1, by omega, i32 (by omega), fun y => ?_, fun y => skip (fun _ => by omega)⟩⟩)⟩
    have hl : lkL L a q := Classical.byContradiction fun u => z (b2i_0.mpr u)
    have tq0 : M 8 0 15 q = 0 := by
      rcases hT q q1 q2 with w | w
      · exact w
      · have := f2 q q1 q2 w; omega
    rw [e14]
    refine ⟨i32 (by omega), fun w => ?_, fun w => ?_⟩
    · refine k1 _ ((fN.mono (fun c k h => Or.inr h)).tr ((FrX.rf.wr (Or.inr rfl) _).wr (Or.inl rfl) _)) ?_
      rw [row8, wr_nc (by omega), e14]
      exact suc_hit a0 a1 q1 q2 tq0 hA hI ha hl (by omega)
    · have w' : M 8 0 14 q ≠ -1 := by omega
      have aq' : 0 ≤ M 8 0 14 q ∧ M 8 0 14 q < n := by omega
      -- one less is not tried
      have t15 : wr N 8 0 15 q 1 8 0 15 = upI (N 8 0 15) q 1 := row8 _ _ _ _
      have t14 : wr N 8 0 15 q 1 8 0 14 = M 8 0 14 := by rw [wr_nc (by omega)]; exact e14
      have tg : wr N 8 0 15 q 1 8 0 1 = M 8 0 1 := by rw [wr_nc (by omega)]; exact eg
      have tb : upI (N 8 0 15) q 1 q = 1 := if_pos rfl
      have tn : ∀ x, x ≠ q → upI (N 8 0 15) q 1 x = N 8 0 15 x := fun x hx => if_neg hx
      have t01 : ∀ b, 0 ≤ b → b < n → upI (N 8 0 15) q 1 b = 0 ∨ upI (N 8 0 15) q 1 b = 1 := fun b b0 b1 => by
        by_cases hb : b = q
        · rw [hb, tb]; exact Or.inr rfl
        · rw [tn b hb]; exact f1 b b0 b1
      have tz : ∀ b, 0 ≤ b → b < n → upI (N 8 0 15) q 1 b = 0 → M 8 0 15 b = 0 ∧ b ≠ q := fun b b0 b1 hb => by
        have hbq : b ≠ q := fun w => by rw [w, tb] at hb; omega
        rw [tn b hbq] at hb
        rcases hT b b0 b1 with w | w
        · exact ⟨w, hbq⟩
        · have := f2 b b0 b1 w; omega
      have cle : sumT (fun b => if upI (N 8 0 15) q 1 b = 0 then 1 else 0) 0 n + 1 ≤ sumT (fun b => if M 8 0 15 b = 0 then 1 else 0) 0 n := by
        have h1 := sumT_upI (fun b => if M 8 0 15 b = 0 then 1 else 0) 0 q1 q2
        rw [if_pos tq0] at h1
        have h2 := sumT_mn (f := fun b => if upI (N 8 0 15) q 1 b = 0 then 1 else 0) (g := upI (fun b => if M 8 0 15 b = 0 then 1 else 0) q 0) nt.1 (fun b b0 b1 => by
          show (if upI (N 8 0 15) q 1 b = 0 then 1 else 0) ≤ (if b = q then 0 else (if M 8 0 15 b = 0 then (1 : Int) else 0))
          by_cases hb : upI (N 8 0 15) q 1 b = 0
          · have := tz b b0 b1 hb
            rw [if_pos hb, if_neg this.2, if_pos this.1]
            exact Int.le_refl _
          · rw [if_neg hb]
            split
            · exact Int.le_refl _
            · split <;> decide)
        omega
      have cnn := sumT_nn (f := fun b => if upI (N 8 0 15) q 1 b = 0 then 1 else 0) nt.1 (fun b _ _ => by show (0 : Int) ≤ (if upI (N 8 0 15) q 1 b = 0 then 1 else 0); split <;> decide)
      obtain ⟨dn', rfl⟩ : ∃ dn', dn = dn' + 1 := ⟨dn - 1, by omega⟩
      have S := IH dn' rfl
      unfold FSpec at S
      rw [hn] at S
      refine S (wr N 8 0 15 q 1) _ noX (M 8 0 14 q) (by rw [tg]; exact hR) aq'.1 aq'.2 (by rw [t15]; exact t01) (by rw [t14]; exact hA) (by rw [t15]; omega) (by
        rw [t15, t14]
        exact fun b b' b0 b1 c0 c1 hb hb' e hz => hI b b' b0 b1 c0 c1 (tz b b0 b1 hb).1 (tz b' c0 c1 hb').1 e hz) (by
        rw [t15, t14]
        intro b b0 b1 hb e
        have := tz b b0 b1 hb
        exact this.2 (hI b q b0 b1 q1 q2 this.1 tq0 e (by rw [e]; exact w'))) (fun M2 f2' hF2 => kI_mk ⟨i32 (by omega), fun _ => ?_, fun u => absurd rfl u⟩) (fun M2 f2' hS2 => kI_mk ⟨i32 (by omega), fun u => by omega, fun _ => ?_⟩)
      · rw [t15, t14] at hF2
        obtain ⟨g1, g2, g3, g4⟩ := hF2
        refine hn9 (by omega) M2 ((fN.wr rfl _).tr f2') ⟨g1, fun b b0 b1 hb => g2 b b0 b1 ?_, fun b b0 b1 hlb => ?_, fun b b0 b1 hb hb2 => ?_⟩
        · by_cases hbq : b = q
          · rw [hbq]; exact tb
          · rw [tn b hbq]; exact f2 b b0 b1 hb
        · by_cases hbq : b = q
          · rw [hbq]; exact g2 q q1 q2 tb
          · refine g2 b b0 (by omega) ?_
            rw [tn b hbq]; exact f3 b b0 (by omega) hlb
        · by_cases hbq : b = q
          · rw [hbq]
            exact ⟨w', fun b' c0 c1 h => g3 b' c0 c1 h⟩
          · by_cases hbn : N 8 0 15 b = 1
            · have := f4 b b0 b1 hb hbn
              refine ⟨this.1, fun b' c0 c1 h => g2 b' c0 c1 ?_⟩
              by_cases hq' : b' = q
              · rw [hq']; exact tb
              · rw [tn b' hq']; exact this.2 b' c0 c1 h
            · have h0 : N 8 0 15 b = 0 := by have := f1 b b0 b1; omega
              exact g4 b b0 b1 (by rw [tn b hbq]; exact h0) hb2
      · rw [t15, t14] at hS2
        refine k1 _ ((fN.mono (fun c k h => Or.inr h)).tr (((FrX.rf.wr (Or.inr rfl) _).tr f2').wr (Or.inl rfl) _)) ?_
        rw [row8]
        refine suc_in a0 a1 q1 q2 tq0 (by rw [tb]; omega) (fun x x0 x1 hx => ?_) hI ha hl w' hS2
        have hx1 : M 8 0 15 x = 1 := by have := hT x x0 x1; omega
        by_cases hxq : x = q
        · rw [hxq, tb]; omega
        · rw [tn x hxq, f2 x x0 x1 hx1]; omega)
  refine bX12_finds (gen (Int.le_refl _) M FrX.rf ⟨hT, fun _ _ _ h => h, fun b b0 b1 => by omega, fun b _ _ h h2 => by omega⟩)
theorem m_finds (ht : WFt L) (hm : WFm L) : ∀ dn : Nat, FSpec G L dn := by
  intro dn
  induction dn with
  | zero => exact m_finds_of ht hm 0 (fun dn' h => absurd h (by omega))
  | succ dn ih => exact m_finds_of ht hm (dn + 1) (fun dn' h => by have : dn' = dn := by omega
                                                                   rw [this]; exact ih)
/-- the pairs so far, and the ones that can't be given to another -/
def KInv (L : LFn) (A : Int → Int) (n a m : Int) : Prop :=
  (∀ b, 0 ≤ b → b < n → A b = -1 ∨ (0 ≤ A b ∧ A b < a ∧ lkL L (A b) b)) ∧ (∀ b b', 0 ≤ b → b < n → 0 ≤ b' → b' < n → A b = A b' → A b ≠ -1 → b = b') ∧ sumT (fun b => if A b = -1 then 0 else 1) 0 n = m ∧
  ∃ D, Clo (lkL L) n A D ∧ ∀ a', 0 ≤ a' → a' < a → (∃ b, 0 ≤ b ∧ b < n ∧ A b = a') ∨ ∀ b, 0 ≤ b → b < n → lkL L a' b → D b = true
theorem kinv_opt {A : Int → Int} {n m : Int} (hn : 0 ≤ n) (h : KInv L A n n m) : OPT (wMP L) n m := by
  obtain ⟨h1, h2, h3, D, h4, h5⟩ := h
  have y0 : ∀ a, 0 ≤ sumT (fun b => if D b = false ∧ A b = a then 1 else 0) 0 n := fun a => sumT_nn hn (fun b _ _ => by show (0 : Int) ≤ (if D b = false ∧ A b = a then 1 else 0); split <;> decide)
  refine ⟨A, fun a => sumT (fun b => if D b = false ∧ A b = a then 1 else 0) 0 n, fun b => if D b = true then 1 else 0, fun b b0 b1 => ?_, h2, ?_, fun a _ _ => ⟨y0 a, ?_⟩, fun a b a0 a1 b0 b1 => ?_, ?_⟩
  · have := h1 b b0 b1; omega
  · rw [← h3]
    refine sumT_mn hn (fun b b0 b1 => ?_)
    show (if A b = -1 then (0 : Int) else 1) ≤ (if A b = -1 then 0 else wMP L (A b) b)
    rcases h1 b b0 b1 with w | w
    · rw [if_pos w, if_pos w]; exact Int.le_refl _
    · rw [if_neg (by omega), if_neg (by omega)]
      unfold wMP
      rw [b2i_t w.2.2]
      exact Int.le_refl _
  · show (0 : Int) ≤ (if D a = true then 1 else 0)
    split <;> decide
  · show wMP L a b ≤ sumT (fun b => if D b = false ∧ A b = a then 1 else 0) 0 n + (if D b = true then 1 else 0)
    have ya := y0 a
    unfold wMP
    by_cases hl : lkL L a b
    · rw [b2i_t hl]
      by_cases hd : D b = true
      · rw [if_pos hd]; omega
      · rcases h5 a a0 a1 with ⟨c, c0, c1, c2⟩ | w
        · have hc : D c = false := Classical.byContradiction fun u => by
            have hc' : D c = true := by simpa using u
            exact hd ((h4 c c0 c1 hc').2 b b0 b1 (by rw [c2]; exact hl))
          have e := sumT_mn (f := fun x => if x = c then 1 else 0) (g := fun b => if D b = false ∧ A b = a then 1 else 0) hn (fun x x0 x1 => by
            show (if x = c then (1 : Int) else 0) ≤ (if D x = false ∧ A x = a then 1 else 0)
            by_cases hx : x = c
            · rw [if_pos hx, hx, if_pos ⟨hc, c2⟩]; exact Int.le_refl _
            · rw [if_neg hx]; split <;> decide)
          rw [sumT_pick 1 c0 c1] at e
          rw [if_neg hd]
          omega
        · exact absurd (w b b0 b1 hl) hd
    · rw [b2i_f hl]
      split <;> omega
  · have sw := sumT_swap (fun a b => if D b = false ∧ A b = a then (1 : Int) else 0) hn hn
    rw [sw, ← sumT_add _ _ hn, ← h3]
    refine sumT_mn hn (fun b b0 b1 => ?_)
    show sumT (fun a => if D b = false ∧ A b = a then (1 : Int) else 0) 0 n + (if D b = true then 1 else 0) ≤ (if A b = -1 then 0 else 1)
    by_cases hd : D b = true
    · rw [if_pos hd, if_neg (h4 b b0 b1 hd).1, sumT_z hn (fun a _ _ => if_neg (fun w => by rw [hd] at w; exact absurd w.1 (by decide)))]
      decide
    · rw [if_neg hd]
      have hd' : D b = false := by simpa using hd
      rcases h1 b b0 b1 with w | w
      · rw [if_pos w, sumT_z hn (fun a _ _ => if_neg (fun u => by omega))]
        decide
      · rw [if_neg (by omega)]
        have e : sumT (fun a => if D b = false ∧ A b = a then (1 : Int) else 0) 0 n = sumT (fun x => if x = A b then 1 else 0) 0 n := sumT_congr (fun x _ _ => by
          show (if D b = false ∧ A b = x then (1 : Int) else 0) = (if x = A b then 1 else 0)
          by_cases hx : x = A b
          · rw [if_pos hx, if_pos ⟨hd', hx.symm⟩]
          · rw [if_neg hx, if_neg (fun u => hx u.2.symm)])
        rw [e, sumT_pick 1 w.1 w.2.1]
        decide
theorem m_byMatching (hR : RG (M 8 0 1) L) (ht : WFt L) (hm : WFm L) (k : ∀ M' W, FrX P145 M M' → OPT (wMP L) (L 6 4) W → K [iv (actv L - W)] M') : Call G 41 0 zX12_byMatching [rr G 8 0 0] M K X := by
  have nt := ht.1
  refine bX12_byMatching (m_active (M := M) hR ht (kI_mk ?_))
  have S : FSpec G L 35 := m_finds ht hm 35
  unfold FSpec at S
  generalize hn : L 6 4 = n at *
  have gl : ∀ N : Mem, FrX P145 M N → RG (N 8 0 1) L ∧ N 8 0 1 37 = n := fun N fN => by
    have eg : N 8 0 1 = M 8 0 1 := fN.row (fun k => by show ¬ (_ ∨ _); omega)
    rw [eg]
    exact ⟨hR, by rw [hR.2.2.2.1]; exact hn⟩
  -- one after the other
  have outer := loop_up (E := fun a => 0 ≤ a → ∀ (N : Mem) (m : Int), FrX P145 M N → KInv L (N 8 0 14) n a m → eX12_byMatching G K X 33 [(0, rr G 8 0 0), (1, iv (actv L - m)), (2, iv a)] [] N) (a := 0) (b := n) nt.1 (fun _ N m fN hI => by
    refine bX12_byMatching_33 ⟨i32 (by omega), by rw [(gl N fN).2]; exact i32 (by omega), fun _ => k N m fN (kinv_opt nt.1 hI), fun z => absurd z (by rw [(gl N fN).2]; omega)⟩) (fun a q1 q2 hn9 _ N m fN hI => by
    refine bX12_byMatching_33 ⟨i32 (by omega), by rw [(gl N fN).2]; exact i32 (by omega), fun z => absurd q2 (by rw [(gl N fN).2] at z; exact z), fun _ => ?_⟩
    have inner := loop_up (E := fun b => 0 ≤ b → ∀ N1 : Mem, FrX P15 N N1 → (∀ x, 0 ≤ x → x < b → N1 8 0 15 x = 0) → eX12_byMatching G K X 46 [(0, rr G 8 0 0), (1, iv (actv L - m)), (2, iv a), (3, iv b)] [] N1) (a := 0) (b := n) nt.1 (fun _ N1 f1 z1 => by
      have fM : FrX P145 M N1 := fN.tr (f1.mono (fun c k h => Or.inr h))
      have e14 : N1 8 0 14 = N 8 0 14 := f1.row (fun k => by show ¬ (_ = _); omega)
      obtain ⟨h1, h2, h3, D, h4, h5⟩ := hI
      refine bX12_byMatching_46 ⟨i32 (by omega), by rw [(gl N1 fM).2]; exact i32 (by omega), fun _ => ?_, fun z => absurd z (by rw [(gl N1 fM).2]; omega)⟩
      have hAr : ∀ b, 0 ≤ b → b < n → N1 8 0 14 b = -1 ∨ (0 ≤ N1 8 0 14 b ∧ N1 8 0 14 b < n ∧ lkL L (N1 8 0 14 b) b) := fun b b0 b1 => by
        rw [e14]
        rcases h1 b b0 b1 with w | w
        · exact Or.inl w
        · exact Or.inr ⟨w.1, by omega, w.2.2⟩
      have cb := sumT_bd (f := fun b => if N1 8 0 15 b = 0 then 1 else 0) (a := 0) (lo := 0) (hi := 1) (k := n) nt.1 (fun x _ _ => by
        show (0 : Int) ≤ (if N1 8 0 15 x = 0 then 1 else 0) ∧ (if N1 8 0 15 x = 0 then (1 : Int) else 0) ≤ 1
        split <;> decide)
      refine S N1 _ noX a (gl N1 fM).1 q1 q2 (fun b b0 b1 => Or.inl (z1 b b0 b1)) hAr (by omega) (fun b b' b0 b1 c0 c1 _ _ e hz => by rw [e14] at e hz; exact h2 b b' b0 b1 c0 c1 e hz) (fun b b0 b1 _ w => by rw [e14] at w; have := h1 b b0 b1; omega) (fun M2 f2 hF => kI_mk ⟨i32 (by omega), fun _ => ?_, fun u => absurd rfl u⟩) (fun M2 f2 hS => kI_mk ⟨i32 (by omega), fun u => by omega, fun _ => ?_⟩)
      · have e14b : M2 8 0 14 = N 8 0 14 := (f2.row (fun k => by show ¬ (_ = _); omega)).trans e14
        rw [e14] at hF
        obtain ⟨g1, g2, g3, g4⟩ := hF
        rw [show actv L - m - 0 = actv L - m by omega]
        refine hn9 (by omega) M2 m (fM.tr (f2.mono (fun c k h => Or.inr h))) ?_
        rw [e14b]
        refine ⟨fun b b0 b1 => ?_, h2, h3, fun b => D b || decide (M2 8 0 15 b = 1), fun b b0 b1 hb => ?_, fun a' c0 c1 => ?_⟩
        · rcases h1 b b0 b1 with w | w
          · exact Or.inl w
          · exact Or.inr ⟨w.1, by omega, w.2.2⟩
        · by_cases hd : D b = true
          · have := h4 b b0 b1 hd
            exact ⟨this.1, fun b' d0 d1 h => by simp [this.2 b' d0 d1 h]⟩
          · have ht1 : M2 8 0 15 b = 1 := by simpa [hd] using hb
            have := g4 b b0 b1 (z1 b b0 b1) ht1
            exact ⟨this.1, fun b' d0 d1 h => by simp [this.2 b' d0 d1 h]⟩
        · by_cases ha : a' = a
          · exact Or.inr (fun b b0 b1 h => by rw [ha] at h; simp [g3 b b0 b1 h])
          · rcases h5 a' c0 (by omega) with w | w
            · exact Or.inl w
            · exact Or.inr (fun b b0 b1 h => by simp [w b b0 b1 h])
      · rw [e14] at hS
        obtain ⟨s1, s2, s3, s4, ⟨c, c0, c1, c2, c3⟩, s6, s7, s8⟩ := hS
        rw [show actv L - m - 1 = actv L - (m + 1) by omega]
        refine hn9 (by omega) M2 (m + 1) (fM.tr f2) ⟨fun b b0 b1 => ?_, fun b b' b0 b1 d0 d1 e hz => s3 b b' b0 b1 d0 d1 (z1 b b0 b1) (z1 b' d0 d1) e hz, by rw [s7, h3], D, fun b b0 b1 hb => ?_, fun a' d0 d1 => ?_⟩
        · rcases s2 b b0 b1 with w | w
          · exact Or.inl w
          · refine Or.inr ⟨w.1, ?_, w.2.2⟩
            rcases s4 b b0 b1 (z1 b b0 b1) with u | u | ⟨b', d0, d1, -, d3⟩
            · omega
            · omega
            · have := h1 b' d0 d1; omega
        · rw [(s8 D h4).1 b b0 b1 hb]
          exact h4 b b0 b1 hb
        · by_cases ha : a' = a
          · exact Or.inl ⟨c, c0, c1, by rw [ha]; exact c3⟩
          · rcases h5 a' d0 (by omega) with ⟨b, b0, b1, b2⟩ | w
            · obtain ⟨b', p0, p1, -, p3⟩ := s6 b b0 b1 (z1 b b0 b1) (by omega)
              exact Or.inl ⟨b', p0, p1, p3.trans b2⟩
            · exact Or.inr w) (fun b b1 b2 hn8 _ N1 f1 z1 => by
      have fM : FrX P145 M N1 := fN.tr (f1.mono (fun c k h => Or.inr h))
      refine bX12_byMatching_46 ⟨i32 (by omega), by rw [(gl N1 fM).2]; exact i32 (by omega), fun z => absurd b2 (by rw [(gl N1 fM).2] at z; exact z), fun _ => ⟨b1, by omega, hn8 (by omega) _ (f1.wr rfl _) (fun x x0 x1 => ?_)⟩⟩
      by_cases hx : x = b
      · rw [hx, wr_at]
      · rw [wr_nk hx]; exact z1 x x0 (by omega))
    exact inner (Int.le_refl _) N FrX.rf (fun x x0 x1 => by omega))
  have init := loop_up (E := fun t => 0 ≤ t → ∀ N : Mem, FrX P145 M N → (∀ x, 0 ≤ x → x < t → N 8 0 14 x = -1) → eX12_byMatching G K X 7 [(0, rr G 8 0 0), (1, iv (actv L)), (2, iv t)] [] N) (a := 0) (b := n) nt.1 (fun _ N fN zN => by
    refine bX12_byMatching_7 ⟨i32 (by omega), by rw [(gl N fN).2]; exact i32 (by omega), fun _ => ?_, fun z => absurd z (by rw [(gl N fN).2]; omega)⟩
    have := outer (Int.le_refl _) N 0 fN ⟨fun b b0 b1 => Or.inl (zN b b0 b1), fun b b' b0 b1 _ _ _ hz => absurd (zN b b0 b1) hz, sumT_z nt.1 (fun b b0 b1 => if_pos (zN b b0 b1)), fun _ => false, fun b _ _ h => absurd (show false = true from h) (by decide), fun a' a0 a1 => by omega⟩
    rw [show actv L - 0 = actv L by omega] at this
    exact this) (fun t t1 t2 hn9 _ N fN zN => by
    refine bX12_byMatching_7 ⟨i32 (by omega), by rw [(gl N fN).2]; exact i32 (by omega), fun z => absurd t2 (by rw [(gl N fN).2] at z; exact z), fun _ => ⟨t1, by omega, hn9 (by omega) _ (fN.wr (Or.inl rfl) _) (fun x x0 x1 => ?_)⟩⟩
    by_cases hx : x = t
    · rw [hx, wr_at]
    · rw [wr_nk hx]; exact zN x x0 (by omega))
  exact init (Int.le_refl _) M FrX.rf (fun x x0 x1 => by omega)
end Ku
