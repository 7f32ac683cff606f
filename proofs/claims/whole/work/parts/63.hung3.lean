/-! ===== the pairing: the rows change their columns; the least value ===== -/
/-- while the columns on the way back are given on: column c wants a row -/
def HG (V : Int → Int → Int) (u v p q d : Int → Int) (n s c : Int) : Prop :=
  (0 ≤ c ∧ c ≤ n) ∧ (∀ b, 0 ≤ b → b ≤ n → b ≠ c → 0 ≤ q b ∧ q b ≤ s) ∧
  (∀ b, 1 ≤ b → b ≤ n → b ≠ c → (q b ≠ 0 → u (q b) + v b = V (q b) b) ∧ (q b = 0 → v b = 0)) ∧
  (∀ b b', 0 ≤ b → b ≤ n → 0 ≤ b' → b' ≤ n → b ≠ c → b' ≠ c → q b = q b' → q b ≠ 0 → b = b') ∧
  sumT (fun b => if b = c then 0 else if q b = 0 then 0 else 1) 0 (n + 1) = s ∧
  sumT (fun b => if b = c then 0 else if q b = 0 then 0 else u (q b)) 0 (n + 1) + sumT v 0 (n + 1) = 0 ∧
  ∀ b, 0 ≤ b → b ≤ n → d b < d c → q b = p b
section Hg3
variable {V : Int → Int → Int} {u v p q d : Int → Int} {n s c : Int}
theorem hole_sum (F F2 : Int → Int) {c b n : Int} (c0 : 0 ≤ c) (c1 : c < n) (b0 : 0 ≤ b) (b1 : b < n) (hcb : c ≠ b) (hc : F c = 0) (h1 : F2 b = 0) (h2 : F2 c = F b) (h3 : ∀ x, x ≠ b → x ≠ c → F2 x = F x) : sumT F2 0 n = sumT F 0 n := by
  have e : F2 = upI (upI F b 0) c (F b) := by
    funext x
    unfold upI
    by_cases hx : x = c
    · rw [if_pos hx, hx, h2]
    · rw [if_neg hx]
      by_cases hy : x = b
      · rw [if_pos hy, hy, h1]
      · rw [if_neg hy, h3 x hy hx]
  have e2 : upI F b 0 c = F c := if_neg hcb
  rw [e, sumT_upI _ _ c0 c1, sumT_upI _ _ b0 b1, e2, hc]
  omega
theorem hg_step (h : HG V u v p q d n s c) {b : Int} (b0 : 0 ≤ b) (b1 : b ≤ n) (hd : d b < d c) (hb : p b ≠ 0) (hc : c ≠ 0) (ht : u (p b) + v c = V (p b) c) : HG V u v p (upI q c (q b)) d n s b := by
  obtain ⟨⟨g1, g1b⟩, g2, g3, g4, g5, g6, g7⟩ := h
  have hbc : b ≠ c := fun w => by rw [w] at hd; omega
  have eb : q b = p b := g7 b b0 b1 hd
  have uc : upI q c (q b) c = q b := if_pos rfl
  have un : ∀ x, x ≠ c → upI q c (q b) x = q x := fun x hx => if_neg hx
  refine ⟨⟨b0, b1⟩, fun x x0 x1 hx => ?_, fun x x0 x1 hx => ?_, fun x y x0 x1 y0 y1 hx hy hxy hz => ?_, ?_, ?_, fun x x0 x1 hx => ?_⟩
  · by_cases hz : x = c
    · rw [hz, uc]; exact g2 b b0 b1 hbc
    · rw [un x hz]; exact g2 x x0 x1 hz
  · by_cases hz : x = c
    · rw [hz, uc, eb]
      exact ⟨fun _ => ht, fun w => absurd w hb⟩
    · rw [un x hz]; exact g3 x x0 x1 hz
  · by_cases hz1 : x = c
    · by_cases hz2 : y = c
      · omega
      · rw [hz1, uc, un y hz2] at hxy
        exact absurd (g4 b y b0 b1 y0 y1 hbc hz2 hxy (by rw [eb]; exact hb)).symm hy
    · by_cases hz2 : y = c
      · rw [hz2, uc, un x hz1] at hxy
        exact absurd (g4 x b x0 x1 b0 b1 hz1 hbc hxy (by rw [hxy, eb]; exact hb)) hx
      · rw [un x hz1, un y hz2] at hxy
        rw [un x hz1] at hz
        exact g4 x y x0 x1 y0 y1 hz1 hz2 hxy hz
  · rw [← g5]
    refine hole_sum _ _ g1 (by omega) b0 (by omega) (fun w => hbc w.symm) (if_pos rfl) (if_pos rfl) ?_ (fun x hx1 hx2 => ?_)
    · show (if c = b then 0 else if upI q c (q b) c = 0 then 0 else 1) = (if b = c then 0 else if q b = 0 then 0 else 1)
      rw [if_neg (fun w => hbc w.symm), if_neg hbc, uc]
    · show (if x = b then 0 else if upI q c (q b) x = 0 then 0 else 1) = (if x = c then 0 else if q x = 0 then 0 else 1)
      rw [if_neg hx1, if_neg hx2, un x hx2]
  · refine Eq.trans (congrArg (fun z => z + sumT v 0 (n + 1)) ?_) g6
    refine hole_sum _ _ g1 (by omega) b0 (by omega) (fun w => hbc w.symm) (if_pos rfl) (if_pos rfl) ?_ (fun x hx1 hx2 => ?_)
    · show (if c = b then 0 else if upI q c (q b) c = 0 then 0 else u (upI q c (q b) c)) = (if b = c then 0 else if q b = 0 then 0 else u (q b))
      rw [if_neg (fun w => hbc w.symm), if_neg hbc, uc]
    · show (if x = b then 0 else if upI q c (q b) x = 0 then 0 else u (upI q c (q b) x)) = (if x = c then 0 else if q x = 0 then 0 else u (q x))
      rw [if_neg hx1, if_neg hx2, un x hx2]
  · have hxc : x ≠ c := fun w => by rw [w] at hx; omega
    rw [un x hxc]
    exact g7 x x0 x1 (by omega)
/-- at the row's column: how the way back begins, and what holds behind it -/
theorem hg_start {bf sl rc : Int → Int} {col step : Int} (h : HB V u v p bf sl rc d n s col step) (hp : p col = 0) : HG V u v p p (upI d col step) n s col ∧ 1 ≤ step ∧ step ≤ n := by
  have hinj := @HB.inj _ _ _ _ _ _ _ _ _ _ _ _ h
  obtain ⟨⟨a1, a2, a3, a4, a5, a6, a7⟩, h2, h3, h4, h5, h6, ⟨h7, h7b, h7c⟩, h8, h9, h10, h11, h12⟩ := h
  have hs : 1 ≤ step := by
    refine Classical.byContradiction (fun w => ?_)
    have := (h9 (by omega)).1
    rw [this, a7] at hp
    omega
  have hc0 : col ≠ 0 := (h10 hs).1
  have c7 : sumT (fun b => if p b = 0 then 0 else 1) 0 (n + 1) = s := by
    rw [sumT_head _ (by omega)]
    show (if p 0 = 0 then 0 else 1) + sumT (fun b => if p b = 0 then 0 else 1) 1 (n + 1) = s
    rw [h7, if_neg (by omega)]
    omega
  have fc : ∀ f : Int → Int, sumT (fun b => if b = col then 0 else if p b = 0 then 0 else f b) 0 (n + 1) = sumT (fun b => if p b = 0 then 0 else f b) 0 (n + 1) := fun f => sumT_congr (fun b _ _ => by
    show (if b = col then 0 else if p b = 0 then 0 else f b) = (if p b = 0 then 0 else f b)
    by_cases hb : b = col
    · rw [if_pos hb, hb, if_pos hp]
    · rw [if_neg hb])
  refine ⟨⟨⟨a3, a4⟩, fun b b0 b1 hb => ?_, fun b b0 b1 hb => ⟨(h4 b b0 b1).2.2.1, (h4 b b0 b1).2.2.2.1⟩, fun b b' b0 b1 c0 c1 _ _ e hz => hinj b0 b1 c0 c1 e hz, ?_, ?_, fun _ _ _ _ => rfl⟩, hs, ?_⟩
  · by_cases hz : b = 0
    · rw [hz, a7]; omega
    · have := h4 b (by omega) b1; omega
  · rw [fc (fun _ => 1)]; exact c7
  · have e := sumT_add (fun c => if p c = 0 then 0 else u (p c)) v (show (0 : Int) ≤ n + 1 by omega)
    rw [fc (fun b => u (p b)), ← e]
    exact h7b
  · have := sumT_mn (f := rc) (g := fun b => if p b = 0 then 0 else 1) (show (0 : Int) ≤ n + 1 by omega) (fun b b0 b1 => by
      have q := h2 b b0 (by omega)
      show rc b ≤ (if p b = 0 then 0 else 1)
      rcases q.1 with w | w
      · rw [w]; split <;> decide
      · rw [w, if_neg (q.2 w).1]; exact Int.le_refl _)
    omega
theorem hg_end {bf sl rc d0 : Int → Int} {col step : Int} (hV : HVb V n) (h : HB V u v p bf sl rc d0 n s col step) (hp : p col = 0) (g : HG V u v p q d n s 0) : HA V u v q n s := by
  obtain ⟨⟨a1, a2, a3, a4, a5, a6, a7⟩, h2, h3, h4, h5, h6, ⟨h7, h7b, h7c⟩, h8, h9, h10, h11, h12⟩ := h
  have hs : 1 ≤ step := by
    refine Classical.byContradiction (fun w => ?_)
    have := (h9 (by omega)).1
    rw [this, a7] at hp
    omega
  have hc0 : col ≠ 0 := (h10 hs).1
  obtain ⟨-, g2, g3, g4, g5, g6, -⟩ := g
  have z0 : ∀ f : Int → Int, sumT (fun b => if b = 0 then 0 else f b) 0 (n + 1) = sumT f 1 (n + 1) := fun f => by
    rw [sumT_head _ (by omega)]
    show (if (0 : Int) = 0 then 0 else f 0) + sumT (fun b => if b = 0 then 0 else f b) 1 (n + 1) = _
    rw [if_pos rfl, Int.zero_add]
    exact sumT_congr (fun b b0 _ => if_neg (by omega))
  refine ⟨fun r c r0 r1 c0 c1 => h3 r c r0 r1 (Or.inr hs) c0 c1, fun c c0 c1 => ⟨(g2 c (by omega) c1 (by omega)).1, (g2 c (by omega) c1 (by omega)).2, (g3 c c0 c1 (by omega)).1, (g3 c c0 c1 (by omega)).2, (h4 c c0 c1).2.2.2.2⟩, fun c c' c0 c1 c2 c3 e hz => g4 c c' (by omega) c1 (by omega) c3 (by omega) (by omega) e hz, fun r r0 r1 => ?_, h6, ?_, ?_, h7c⟩
  · have q1 := h3 r col r0 r1 (Or.inr hs) (by omega) a4
    have q2 := (h4 col (by omega) a4).2.2.2.1 hp
    have q3 := hV r col r0 (by omega) (by omega) a4
    omega
  · rw [z0 (fun b => if q b = 0 then 0 else 1)] at g5
    exact g5
  · rw [z0 (fun b => if q b = 0 then 0 else u (q b))] at g6
    exact g6
/-- at the end the prices show the least value -/
theorem ha_lv (hn : 0 ≤ n) (h : HA V u v p n n) : LV V n (sumT (fun c => V (p c) c) 1 (n + 1)) := by
  obtain ⟨h1, h2, h3, h4, h5, h6, h7, h8⟩ := h
  have pn : ∀ c, 1 ≤ c → c ≤ n → p c ≠ 0 := fun c c0 c1 hz => by
    have := sum01_all (f := fun c => if p c = 0 then 0 else 1) (a := 1) (k := n + 1) (by omega) (fun x _ _ => by show (if p x = 0 then 0 else 1) ≤ 1; split <;> decide) (by omega) (j := c) c0 (by omega)
    have e : (if p c = 0 then (0 : Int) else 1) = 1 := this
    rw [if_pos hz] at e
    omega
  refine ⟨u, v, p, fun c c0 c1 => ?_, fun c c' c0 c1 c2 c3 e => h3 c c' c0 c1 c2 c3 e (pn c c0 c1), rfl, h1, h4, fun c c0 c1 => (h2 c c0 c1).2.2.2.2, ?_⟩
  · have := h2 c c0 c1
    have := pn c c0 c1
    omega
  · have e1 : sumT (fun c => V (p c) c) 1 (n + 1) = sumT (fun c => (if p c = 0 then 0 else u (p c)) + v c) 1 (n + 1) := sumT_congr (fun c c0 c1 => by
      show V (p c) c = (if p c = 0 then 0 else u (p c)) + v c
      have := (h2 c c0 (by omega)).2.2.1 (pn c c0 (by omega))
      rw [if_neg (pn c c0 (by omega))]
      omega)
    rw [e1, sumT_add _ _ (by omega)]
    have e2 := sumT_head v (show (0 : Int) < n + 1 by omega)
    have e3 : sumT v (0 + 1) (n + 1) = sumT v 1 (n + 1) := rfl
    omega
variable {G : GT} {K : List Value → Mem → Prop} {X : String → Mem → Prop} {M : Mem}
abbrev vH (M : Mem) : Int → Int → Int := fun r c => M 6 0 (2 + r) c
theorem sp_assign (en : M 6 0 0 7 = n) (hn1 : n ≤ 30) (s0 : 1 ≤ s) (s1 : s ≤ n) (hV : HVb (vH M) n) (hA : HA (vH M) (M 6 0 33) (M 6 0 34) (M 6 0 35) n (s - 1))
    (k : ∀ M', FrR 6 0 (fun c => 33 ≤ c ∧ c ≤ 38) M M' → HA (vH M) (M' 6 0 33) (M' 6 0 34) (M' 6 0 35) n s → K [] M') : Call G 2 0 zX5_assign [rr G 6 0 0, iv s] M K X := by
  have vE : ∀ N : Mem, FrR 6 0 (fun c => 33 ≤ c ∧ c ≤ 38) M N → ∀ r, r ≤ n → ∀ c, N 6 0 (2 + r) c = vH M r c := fun N hN r hr c => by rw [hN 6 0 (2 + r) (by omega)]
  -- the way back
  have back : ∀ (u v p bf sl rc d0 d : Int → Int) (col step : Int), HB (vH M) u v p bf sl rc d0 n s col step → p col = 0 → d = upI d0 col step → ∀ j : Nat, ∀ (N : Mem) (c t : Int), 0 ≤ t → t + d c ≤ step → d c ≤ j → (c = col ∨ (0 ≤ c ∧ c ≤ n ∧ rc c = 1)) → HG (vH M) u v p (N 6 0 35) d n s c → FrR 6 0 (fun c => 33 ≤ c ∧ c ≤ 38) M N → N 6 0 33 = u → N 6 0 34 = v → N 6 0 36 = bf →
      eX5_assign G K X 74 [(0, rr G 6 0 0), (2, iv c), (3, iv t)] [] N := by
    intro u v p bf sl rc d0 d col step hB hpc hd j
    have hst := (hg_start hB hpc).2
    have hend := @hg_end (vH M) u v p
    have hB9 := hB
    obtain ⟨⟨a1, a2, a3, a4, a5, a6, a7⟩, h2, h3, h4, h5, h6, ⟨h7, h7b, h7c⟩, h8, h9, h10, h11, h12⟩ := hB
    -- the column before
    have bef : ∀ c, c ≠ 0 → (c = col ∨ (0 ≤ c ∧ c ≤ n ∧ rc c = 1)) → 0 ≤ bf c ∧ bf c ≤ n ∧ rc (bf c) = 1 ∧ p (bf c) ≠ 0 ∧ u (p (bf c)) + v c = vH M (p (bf c)) c ∧ d (bf c) < d c ∧ 0 ≤ d (bf c) := by
      intro c c0 hc
      rcases hc with w | ⟨w0, w1, w⟩
      · have q := h11 hst.1 col (by omega) a4 a6
        have q9 := (h2 (bf col) q.1 q.2.1).2 q.2.2.1
        have hne : bf col ≠ col := fun y => by have := q.2.2.1; rw [y] at this; omega
        rw [w, hd]
        unfold upI
        rw [if_neg hne, if_pos rfl]
        have q5 := q.2.2.2.1
        have q6 := (h10 hst.1).2.2.1
        exact ⟨q.1, q.2.1, q.2.2.1, q9.1, by omega, q9.2.2, q9.2.1⟩
      · have q := h12 c (by omega) w1 w
        have q9 := (h2 (bf c) q.1 q.2.1).2 q.2.2.1
        have hne : bf c ≠ col := fun y => by have := q.2.2.1; rw [y] at this; omega
        have hnc : c ≠ col := fun y => by rw [y] at w; omega
        rw [hd]
        unfold upI
        rw [if_neg hne, if_neg hnc]
        exact ⟨q.1, q.2.1, q.2.2.1, q9.1, q.2.2.2.1, q.2.2.2.2, q9.2.1⟩
    induction j with
    | zero =>
      intro N c t t0 t1 hj hc hG fN e33 e34 e36
      have e0 : N 6 0 0 7 = n := by rw [fN 6 0 0 (by omega)]; exact en
      have hcz : c = 0 := Classical.byContradiction fun w => by have := bef c w hc; omega
      have hcr := hG.1
      have dc0 : 0 ≤ d c := by
        rcases hc with w | w
        · rw [hd, w]; unfold upI; rw [if_pos rfl]; exact a5
        · rw [hd]; unfold upI; have := (h2 c w.1 w.2.1).2 w.2.2; split <;> omega
      subst hcz
      have kk := k N fN (by rw [e33, e34]; exact hend hV hB9 hpc hG)
      exact bX5_assign_74 ⟨i32 (by omega), by rw [e0]; exact i32 (by omega), fun _ => kk, fun _ => ⟨i32 (by omega), fun _ => kk, fun z => absurd rfl z⟩⟩
    | succ j ih =>
      intro N c t t0 t1 hj hc hG fN e33 e34 e36
      have e0 : N 6 0 0 7 = n := by rw [fN 6 0 0 (by omega)]; exact en
      have hcr := hG.1
      have dc0 : 0 ≤ d c := by
        rcases hc with w | w
        · rw [hd, w]; unfold upI; rw [if_pos rfl]; exact a5
        · rw [hd]; unfold upI; have := (h2 c w.1 w.2.1).2 w.2.2; split <;> omega
      by_cases hcz : c = 0
      · subst hcz
        have kk := k N fN (by rw [e33, e34]; exact hend hV hB9 hpc hG)
        exact bX5_assign_74 ⟨i32 (by omega), by rw [e0]; exact i32 (by omega), fun _ => kk, fun _ => ⟨i32 (by omega), fun _ => kk, fun z => absurd rfl z⟩⟩
      · obtain ⟨q1, q2, q3, q4, q5, q6, q7⟩ := bef c hcz hc
        refine bX5_assign_74 ⟨i32 (by omega), by rw [e0]; exact i32 (by omega), fun z => absurd z (by rw [e0]; omega), fun _ => ⟨i32 (by omega), fun z => absurd z hcz, fun _ => ⟨by omega, by omega, ?_⟩⟩⟩
        rw [e36]
        refine ⟨q1, by omega, ih _ (bf c) (t + 1) (by omega) (by omega) (by omega) (Or.inr ⟨q1, q2, q3⟩) ?_ (fN.wr (by omega)) ?_ ?_ ?_⟩
        · have e : wr N 6 0 35 c (N 6 0 35 (bf c)) 6 0 35 = upI (N 6 0 35) c (N 6 0 35 (bf c)) := by
            unfold wr
            rw [wrow_at]
          rw [e]
          exact hg_step hG q1 q2 q6 q4 hcz q5
        · rw [wr_nc (by omega)]; exact e33
        · rw [wr_nc (by omega)]; exact e34
        · rw [wr_nc (by omega)]; exact e36
  -- the reaching
  have reach : ∀ j : Nat, ∀ (N : Mem) (d : Int → Int) (col step : Int), n - step ≤ j → HB (vH M) (N 6 0 33) (N 6 0 34) (N 6 0 35) (N 6 0 36) (N 6 0 37) (N 6 0 38) d n s col step → FrR 6 0 (fun c => 33 ≤ c ∧ c ≤ 38) M N →
      eX5_assign G K X 43 [(0, rr G 6 0 0), (2, iv col), (3, iv step)] [] N := by
    intro j
    induction j with
    | zero =>
      intro N d col step hj hB fN
      have e0 : N 6 0 0 7 = n := by rw [fN 6 0 0 (by omega)]; exact en
      have hB9 := hB
      obtain ⟨⟨a1, a2, a3, a4, a5, a6, a7⟩, h2, h3, h4, h5, h6, ⟨h7, h7b, h7c⟩, h8, h9, h10, h11, h12⟩ := hB
      have sb : step ≤ n + 1 := by
        have := sumT_bd (f := N 6 0 38) (a := 0) (lo := 0) (hi := 1) (k := n + 1) (by omega) (fun x x0 x1 => by have := (h2 x x0 (by omega)).1; omega)
        omega
      have hpc : N 6 0 35 col = 0 := by
        refine Classical.byContradiction (fun w => ?_)
        have c7 : sumT (fun b => if N 6 0 35 b = 0 then 0 else 1) 0 (n + 1) = s := by
          rw [sumT_head _ (by omega)]
          show (if N 6 0 35 0 = 0 then 0 else 1) + sumT (fun b => if N 6 0 35 b = 0 then 0 else 1) 1 (n + 1) = s
          rw [h7, if_neg (by omega)]
          omega
        have h9' := sumT_upI (N 6 0 38) 1 a3 (show col < n + 1 by omega)
        have := sumT_mn (f := upI (N 6 0 38) col 1) (g := fun b => if N 6 0 35 b = 0 then 0 else 1) (show (0 : Int) ≤ n + 1 by omega) (fun b b0 b1 => by
          have q := h2 b b0 (by omega)
          show (if b = col then 1 else N 6 0 38 b) ≤ (if N 6 0 35 b = 0 then 0 else 1)
          by_cases hb : b = col
          · rw [if_pos hb, hb, if_neg w]; exact Int.le_refl _
          · rw [if_neg hb]
            rcases q.1 with y | y
            · rw [y]; split <;> decide
            · rw [y, if_neg (q.2 y).1]; exact Int.le_refl _)
        omega
      have st := hg_start hB9 hpc
      have go := back _ _ _ _ _ _ _ _ col step hB9 hpc rfl step.toNat N col 0 (by omega) (by unfold upI; rw [if_pos rfl]; omega) (by unfold upI; rw [if_pos rfl]; omega) (Or.inl rfl) st.1 fN rfl rfl rfl
      exact bX5_assign_43 ⟨i32 (by omega), by rw [e0]; exact i32 (by omega), fun _ => go, fun _ => ⟨a3, by omega, by rw [hpc]; exact i32 (by omega), fun _ => go, fun z => absurd hpc z⟩⟩
    | succ j ih =>
      intro N d col step hj hB fN
      have e0 : N 6 0 0 7 = n := by rw [fN 6 0 0 (by omega)]; exact en
      have hB9 := hB
      obtain ⟨⟨a1, a2, a3, a4, a5, a6, a7⟩, h2, h3, h4, h5, h6, ⟨h7, h7b, h7c⟩, h8, h9, h10, h11, h12⟩ := hB
      have sb : step ≤ n + 1 := by
        have := sumT_bd (f := N 6 0 38) (a := 0) (lo := 0) (hi := 1) (k := n + 1) (by omega) (fun x x0 x1 => by have := (h2 x x0 (by omega)).1; omega)
        omega
      by_cases hpc : N 6 0 35 col = 0
      · have st := hg_start hB9 hpc
        have go := back _ _ _ _ _ _ _ _ col step hB9 hpc rfl step.toNat N col 0 (by omega) (by unfold upI; rw [if_pos rfl]; omega) (by unfold upI; rw [if_pos rfl]; omega) (Or.inl rfl) st.1 fN rfl rfl rfl
        exact bX5_assign_43 ⟨i32 (by omega), by rw [e0]; exact i32 (by omega), fun _ => go, fun _ => ⟨a3, by omega, by rw [hpc]; exact i32 (by omega), fun _ => go, fun z => absurd hpc z⟩⟩
      · have c7 : sumT (fun b => if N 6 0 35 b = 0 then 0 else 1) 0 (n + 1) = s := by
          rw [sumT_head _ (by omega)]
          show (if N 6 0 35 0 = 0 then 0 else 1) + sumT (fun b => if N 6 0 35 b = 0 then 0 else 1) 1 (n + 1) = s
          rw [h7, if_neg (by omega)]
          omega
        have h9' := sumT_upI (N 6 0 38) 1 a3 (show col < n + 1 by omega)
        have hle := sumT_mn (f := upI (N 6 0 38) col 1) (g := fun b => if N 6 0 35 b = 0 then 0 else 1) (show (0 : Int) ≤ n + 1 by omega) (fun b b0 b1 => by
          have q := h2 b b0 (by omega)
          show (if b = col then 1 else N 6 0 38 b) ≤ (if N 6 0 35 b = 0 then 0 else 1)
          by_cases hb : b = col
          · rw [if_pos hb, hb, if_neg hpc]; exact Int.le_refl _
          · rw [if_neg hb]
            rcases q.1 with y | y
            · rw [y]; split <;> decide
            · rw [y, if_neg (q.2 y).1]; exact Int.le_refl _)
        have prg : 0 ≤ N 6 0 35 col ∧ N 6 0 35 col ≤ s := by
          by_cases hz : col = 0
          · rw [hz, a7]; omega
          · have := h4 col (by omega) a4; omega
        have bd := hB9.bd hV
        have ew : ∀ c, wayH N (N 6 0 35 col) c = vH M (N 6 0 35 col) c - N 6 0 33 (N 6 0 35 col) - N 6 0 34 c := fun c => by
          unfold wayH
          rw [vE N fN _ (by omega) c]
        refine bX5_assign_43 ⟨i32 (by omega), by rw [e0]; exact i32 (by omega), fun z => absurd z (by rw [e0]; omega), fun _ => ⟨a3, by omega, i32 (by omega), fun z => absurd z hpc, fun _ => ?_⟩⟩
        have ub : -1000 ≤ N 6 0 33 (N 6 0 35 col) ∧ N 6 0 33 (N 6 0 35 col) ≤ 0 := bd.1 _ (by omega) prg.2 (fun hl => ⟨col, by
          by_cases hz : col = 0
          · rw [hz, a7] at hl; omega
          · omega, a4, rfl⟩)
        refine sp_reachFrom e0 (by omega) hn1 a3 a4 rfl prg.1 (by omega) (fun c c0 c1 => (h2 c c0 c1).1) (fun c c0 c1 hr hc => ?_) (fun N1 ne f1 e38 eA eB eC => ?_)
        · rw [ew]
          have q1 := hV (N 6 0 35 col) c (by omega) (by omega) c0 c1
          have q2 := bd.2 c c0 c1
          refine ⟨by omega, by omega, ?_⟩
          by_cases hs : step = 0
          · rw [(h9 hs).2.2.2 c c0 c1]; omega
          · have q := h11 (by omega) c c0 c1 hr
            have q4 := (h2 (N 6 0 36 c) q.1 q.2.1).2 q.2.2.1
            have q5 : 1 ≤ N 6 0 35 (N 6 0 36 c) ∧ N 6 0 35 (N 6 0 36 c) ≤ s := by
              by_cases hz : N 6 0 36 c = 0
              · rw [hz, a7]; omega
              · have := h4 (N 6 0 36 c) (by omega) q.2.1; omega
            have q6 := hV (N 6 0 35 (N 6 0 36 c)) c (by omega) (by omega) c0 c1
            have q7 := bd.1 (N 6 0 35 (N 6 0 36 c)) q5.1 q5.2 (fun hl => ⟨N 6 0 36 c, by
              by_cases hz : N 6 0 36 c = 0
              · rw [hz, a7] at hl; omega
              · have := q.1; omega, q.2.1, rfl⟩)
            have := q.2.2.2.1
            omega
        · have g0 : N1 6 0 0 7 = n := by rw [f1 6 0 0 (by omega)]; exact e0
          have g33 : N1 6 0 33 = N 6 0 33 := f1 6 0 33 (by omega)
          have g34 : N1 6 0 34 = N 6 0 34 := f1 6 0 34 (by omega)
          have g35 : N1 6 0 35 = N 6 0 35 := f1 6 0 35 (by omega)
          have r01 : ∀ c, 0 ≤ c → c ≤ n → N1 6 0 38 c = 0 ∨ N1 6 0 38 c = 1 := fun c c0 c1 => by
            rw [e38]
            unfold upI
            split
            · exact Or.inr rfl
            · exact (h2 c c0 c1).1
          refine sp_changePrices g0 (by omega) hn1 r01 (fun c c0 c1 hc => ?_) (fun N2 f2 eU eV eS eT => kV_mk ?_)
          · rw [g35]
            rw [e38] at hc
            unfold upI at hc
            by_cases hz : c = 0
            · rw [hz, a7]; omega
            · have q := h4 c (by omega) c1
              by_cases hy : c = col
              · rw [hy] at q ⊢
                omega
              · rw [if_neg hy] at hc
                have := ((h2 c c0 c1).2 hc).1
                omega
          · have f12 : FrR 6 0 (fun c => 33 ≤ c ∧ c ≤ 38) N N2 := (f1.mono (fun c hc => by omega)).trans (f2.mono (fun c hc => by omega))
            refine kI_mk (ih N2 (upI d col step) ne (step + 1) (by omega) ?_ (fN.trans f12))
            rw [g33, g35] at eU
            rw [g34] at eV
            rw [g33, g34] at eT
            rw [f2 6 0 35 (by omega), g35, f2 6 0 36 (by omega), f2 6 0 38 (by omega)]
            refine hb_step hV hB9 hpc e38 (fun c c0 c1 hc => ?_) eB eC rfl eU eV eS eT
            have q := eA c c0 c1 hc
            rw [ew] at q
            exact q
  -- the beginning
  refine bX5_assign (sp_fill dm6_37 ar6_37 (by decide) (kV_mk ?_))
  have f1 : FrR 6 0 (fun c => 33 ≤ c ∧ c ≤ 38) M (wrow M 6 0 37 (filF (M 6 0 37) (31 : Nat) 1000000)) := FrR.rf.row (by omega)
  have e37 : ∀ c, 0 ≤ c → c ≤ n → wrow M 6 0 37 (filF (M 6 0 37) (31 : Nat) 1000000) 6 0 37 c = 1000000 := fun c c0 c1 => by
    rw [wrow_at]
    exact if_pos ⟨c0, by omega⟩
  have o33 : ∀ c, c ≠ 37 → wrow M 6 0 37 (filF (M 6 0 37) (31 : Nat) 1000000) 6 0 c = M 6 0 c := fun c hc => wrow_nc hc
  generalize wrow M 6 0 37 (filF (M 6 0 37) (31 : Nat) 1000000) = M1 at f1 e37 o33 ⊢
  have gen := loop_up (E := fun q => 0 ≤ q → ∀ N : Mem, FrR 6 0 (fun c => c = 38) M1 N → (∀ c, 0 ≤ c → c < q → N 6 0 38 c = 0) → eX5_assign G K X 11 [(0, rr G 6 0 0), (1, iv s), (2, iv q)] [] N) (a := 0) (b := n + 1) (by omega) (fun _ N fN eN => by
    have e0 : N 6 0 0 7 = n := by rw [fN 6 0 0 (by omega), f1 6 0 0 (by omega)]; exact en
    refine bX5_assign_11 ⟨i32 (by omega), by rw [e0]; exact i32 (by omega), fun _ => ?_, fun z => absurd z (by rw [e0]; omega)⟩
    have fN2 : FrR 6 0 (fun c => 33 ≤ c ∧ c ≤ 38) M (wr N 6 0 35 0 s) := (f1.trans (fN.mono (fun c hc => by omega))).wr (by omega)
    have w33 : wr N 6 0 35 0 s 6 0 33 = M 6 0 33 := by rw [wr_nc (by omega), fN 6 0 33 (by omega), o33 _ (by omega)]
    have w34 : wr N 6 0 35 0 s 6 0 34 = M 6 0 34 := by rw [wr_nc (by omega), fN 6 0 34 (by omega), o33 _ (by omega)]
    have w35 : wr N 6 0 35 0 s 6 0 35 = upI (M 6 0 35) 0 s := by
      unfold wr
      rw [wrow_at, fN 6 0 35 (by omega), o33 _ (by omega)]
    have w37 : wr N 6 0 35 0 s 6 0 37 = M1 6 0 37 := by rw [wr_nc (by omega), fN 6 0 37 (by omega)]
    have w38 : wr N 6 0 35 0 s 6 0 38 = N 6 0 38 := by rw [wr_nc (by omega)]
    refine reach n.toNat _ (fun _ => 0) 0 0 (by omega) ?_ fN2
    rw [w33, w34, w35, w37, w38]
    obtain ⟨h1, h2, h3, h4, h5, h6, h7, h8⟩ := hA
    have p0 : upI (M 6 0 35) 0 s 0 = s := if_pos rfl
    have pe : ∀ c, 1 ≤ c → upI (M 6 0 35) 0 s c = M 6 0 35 c := fun c hc => if_neg (by omega)
    have us : M 6 0 33 s = 0 := h5 s (by omega) s1
    refine ⟨⟨s0, s1, by omega, by omega, by omega, eN 0 (by omega) (by omega), p0⟩, fun c c0 c1 => ⟨Or.inl (eN c c0 (by omega)), fun w => by have := eN c c0 (by omega); omega⟩, fun r c r0 r1 hz c0 c1 => h1 r c r0 (by omega) c0 c1, fun c c0 c1 => ?_, fun c c' c0 c1 c2 c3 e hz => ?_, fun r r0 r1 => h5 r (by omega) r1, ⟨?_, ?_, h8⟩, ?_, fun _ => ⟨rfl, us, fun c c0 c1 => eN c c0 (by omega), fun c c0 c1 => e37 c (by omega) c1⟩, fun w => by omega, fun w => by omega, fun c c0 c1 w => by have := eN c (by omega) (by omega); omega⟩
    · rw [pe c c0]
      have := h2 c c0 c1
      exact ⟨this.1, by omega, this.2.2.1, this.2.2.2.1, this.2.2.2.2⟩
    · rw [pe c c0, pe c' c2] at e
      rw [pe c c0] at hz
      exact h3 c c' c0 c1 c2 c3 e hz
    · rw [← h6]
      exact sumT_congr (fun c c0 _ => by
        show (if upI (M 6 0 35) 0 s c = 0 then 0 else 1) = (if M 6 0 35 c = 0 then (0 : Int) else 1)
        rw [pe c c0])
    · have e1 := sumT_head (fun c => if upI (M 6 0 35) 0 s c = 0 then 0 else M 6 0 33 (upI (M 6 0 35) 0 s c)) (show (0 : Int) < n + 1 by omega)
      have e2 : (if upI (M 6 0 35) 0 s 0 = 0 then 0 else M 6 0 33 (upI (M 6 0 35) 0 s 0)) = 0 := by
        rw [p0, if_neg (by omega), us]
      have e3 : sumT (fun c => if upI (M 6 0 35) 0 s c = 0 then 0 else M 6 0 33 (upI (M 6 0 35) 0 s c)) (0 + 1) (n + 1) = sumT (fun c => if M 6 0 35 c = 0 then 0 else M 6 0 33 (M 6 0 35 c)) 1 (n + 1) := sumT_congr (fun c c0 _ => by
        show (if upI (M 6 0 35) 0 s c = 0 then 0 else M 6 0 33 (upI (M 6 0 35) 0 s c)) = (if M 6 0 35 c = 0 then 0 else M 6 0 33 (M 6 0 35 c))
        rw [pe c (by omega)])
      rw [e2, e3] at e1
      rw [sumT_add _ _ (by omega), e1]
      omega
    · exact sumT_z (by omega) (fun c c0 c1 => eN c c0 c1)) (fun q q1 q2 hn9 _ N fN eN => by
    have e0 : N 6 0 0 7 = n := by rw [fN 6 0 0 (by omega), f1 6 0 0 (by omega)]; exact en
    refine bX5_assign_11 ⟨i32 (by omega), by rw [e0]; exact i32 (by omega), fun z => absurd z (by rw [e0]; omega), fun _ => ⟨q1, by omega, hn9 (by omega) _ (fN.wr rfl) (fun c c0 c1 => ?_)⟩⟩
    by_cases hc : c = q
    · rw [hc, wr_at]
    · rw [wr_nk hc]; exact eN c c0 (by omega))
  exact gen (Int.le_refl _) M1 FrR.rf (fun c c0 c1 => by omega)
theorem sp_leastValue (en : M 6 0 0 7 = n) (hn0 : 0 ≤ n) (hn1 : n ≤ 30) (hV : HVb (vH M) n) (k : ∀ M' x, FrR 6 0 (fun c => 33 ≤ c ∧ c ≤ 38) M M' → LV (vH M) n x → K [iv x] M') : Call G 3 0 zX5_leastValue [rr G 6 0 0] M K X := by
  refine bX5_leastValue (sp_fill dm6_33 ar6_33 (by decide) (kV_mk (sp_fill dm6_34 ar6_34 (by decide) (kV_mk (sp_fill dm6_35 ar6_35 (by decide) (kV_mk ?_))))))
  have f0 : FrR 6 0 (fun c => 33 ≤ c ∧ c ≤ 38) M (wrow (wrow (wrow M 6 0 33 (filF (M 6 0 33) (31 : Nat) 0)) 6 0 34 (filF (wrow M 6 0 33 (filF (M 6 0 33) (31 : Nat) 0) 6 0 34) (31 : Nat) 0)) 6 0 35 (filF (wrow (wrow M 6 0 33 (filF (M 6 0 33) (31 : Nat) 0)) 6 0 34 (filF (wrow M 6 0 33 (filF (M 6 0 33) (31 : Nat) 0) 6 0 34) (31 : Nat) 0) 6 0 35) (31 : Nat) 0)) := ((FrR.rf.row (by omega)).row (by omega)).row (by omega)
  have z33 : ∀ c, 0 ≤ c → c ≤ n → (wrow (wrow (wrow M 6 0 33 (filF (M 6 0 33) (31 : Nat) 0)) 6 0 34 (filF (wrow M 6 0 33 (filF (M 6 0 33) (31 : Nat) 0) 6 0 34) (31 : Nat) 0)) 6 0 35 (filF (wrow (wrow M 6 0 33 (filF (M 6 0 33) (31 : Nat) 0)) 6 0 34 (filF (wrow M 6 0 33 (filF (M 6 0 33) (31 : Nat) 0) 6 0 34) (31 : Nat) 0) 6 0 35) (31 : Nat) 0)) 6 0 33 c = 0 := fun c c0 c1 => by
    rw [wrow_nc (by omega), wrow_nc (by omega), wrow_at]
    exact if_pos ⟨c0, by omega⟩
  have z34 : ∀ c, 0 ≤ c → c ≤ n → (wrow (wrow (wrow M 6 0 33 (filF (M 6 0 33) (31 : Nat) 0)) 6 0 34 (filF (wrow M 6 0 33 (filF (M 6 0 33) (31 : Nat) 0) 6 0 34) (31 : Nat) 0)) 6 0 35 (filF (wrow (wrow M 6 0 33 (filF (M 6 0 33) (31 : Nat) 0)) 6 0 34 (filF (wrow M 6 0 33 (filF (M 6 0 33) (31 : Nat) 0) 6 0 34) (31 : Nat) 0) 6 0 35) (31 : Nat) 0)) 6 0 34 c = 0 := fun c c0 c1 => by
    rw [wrow_nc (by omega), wrow_at]
    exact if_pos ⟨c0, by omega⟩
  have z35 : ∀ c, 0 ≤ c → c ≤ n → (wrow (wrow (wrow M 6 0 33 (filF (M 6 0 33) (31 : Nat) 0)) 6 0 34 (filF (wrow M 6 0 33 (filF (M 6 0 33) (31 : Nat) 0) 6 0 34) (31 : Nat) 0)) 6 0 35 (filF (wrow (wrow M 6 0 33 (filF (M 6 0 33) (31 : Nat) 0)) 6 0 34 (filF (wrow M 6 0 33 (filF (M 6 0 33) (31 : Nat) 0) 6 0 34) (31 : Nat) 0) 6 0 35) (31 : Nat) 0)) 6 0 35 c = 0 := fun c c0 c1 => by
    rw [wrow_at]
    exact if_pos ⟨c0, by omega⟩
  generalize wrow (wrow (wrow M 6 0 33 (filF (M 6 0 33) (31 : Nat) 0)) 6 0 34 (filF (wrow M 6 0 33 (filF (M 6 0 33) (31 : Nat) 0) 6 0 34) (31 : Nat) 0)) 6 0 35 (filF (wrow (wrow M 6 0 33 (filF (M 6 0 33) (31 : Nat) 0)) 6 0 34 (filF (wrow M 6 0 33 (filF (M 6 0 33) (31 : Nat) 0) 6 0 34) (31 : Nat) 0) 6 0 35) (31 : Nat) 0) = M1 at f0 z33 z34 z35 ⊢
  have vE : ∀ N : Mem, FrR 6 0 (fun c => 33 ≤ c ∧ c ≤ 38) M N → ∀ r c, r ≤ n → vH N r c = vH M r c := fun N hN r c hr => by
    show N 6 0 (2 + r) c = M 6 0 (2 + r) c
    rw [hN 6 0 (2 + r) (by omega)]
  have hVe : ∀ N : Mem, FrR 6 0 (fun c => 33 ≤ c ∧ c ≤ 38) M N → HVb (vH N) n := fun N hN r c r0 r1 c0 c1 => by rw [vE N hN r c r1]; exact hV r c r0 r1 c0 c1
  have hAe : ∀ (N : Mem) (u v p : Int → Int) (j : Int), j ≤ n → FrR 6 0 (fun c => 33 ≤ c ∧ c ≤ 38) M N → (HA (vH N) u v p n j ↔ HA (vH M) u v p n j) := by
    intro N u v p j hj hN
    constructor
    · rintro ⟨h1, h2, h3⟩
      refine ⟨fun r c r0 r1 c0 c1 => by rw [← vE N hN r c (by omega)]; exact h1 r c r0 r1 c0 c1, fun c c0 c1 => ?_, h3⟩
      have q := h2 c c0 c1
      exact ⟨q.1, q.2.1, fun z => by rw [← vE N hN _ c (by omega)]; exact q.2.2.1 z, q.2.2.2⟩
    · rintro ⟨h1, h2, h3⟩
      refine ⟨fun r c r0 r1 c0 c1 => by rw [vE N hN r c (by omega)]; exact h1 r c r0 r1 c0 c1, fun c c0 c1 => ?_, h3⟩
      have q := h2 c c0 c1
      exact ⟨q.1, q.2.1, fun z => by rw [vE N hN _ c (by omega)]; exact q.2.2.1 z, q.2.2.2⟩
  -- the sum
  have sum : ∀ N : Mem, FrR 6 0 (fun c => 33 ≤ c ∧ c ≤ 38) M N → HA (vH M) (N 6 0 33) (N 6 0 34) (N 6 0 35) n n → eX5_leastValue G K X 49 [(0, rr G 6 0 0), (1, iv 0), (2, iv 1)] [] N := by
    intro N fN hA
    have e0 : N 6 0 0 7 = n := by rw [fN 6 0 0 (by omega)]; exact en
    have h := loop_up (E := fun q => eX5_leastValue G K X 49 [(0, rr G 6 0 0), (1, iv (sumT (fun c => vH M (N 6 0 35 c) c) 1 q)), (2, iv q)] [] N) (a := 1) (b := n + 1) (by omega)
      (bX5_leastValue_49 ⟨i32 (by omega), by rw [e0]; exact i32 (by omega), fun _ => k N _ fN (ha_lv hn0 hA), fun z => absurd z (by rw [e0]; omega)⟩)
      (fun q q1 q2 hn9 => bX5_leastValue_49 ⟨i32 (by omega), by rw [e0]; exact i32 (by omega), fun z => absurd z (by rw [e0]; omega), fun _ => by
        have hp := hA.2.1 q q1 (by omega)
        refine ⟨by omega, by omega, hp.1, by omega, ?_⟩
        rw [sumT_step _ q1] at hn9
        have e : N 6 0 (2 + N 6 0 35 q) q = vH M (N 6 0 35 q) q := vE N fN _ q (by omega)
        rw [e]
        exact hn9⟩)
    rw [sumT_same] at h
    exact h
  have gen := loop_up (E := fun q => 1 ≤ q → ∀ N : Mem, FrR 6 0 (fun c => 33 ≤ c ∧ c ≤ 38) M N → HA (vH M) (N 6 0 33) (N 6 0 34) (N 6 0 35) n (q - 1) → eX5_leastValue G K X 26 [(0, rr G 6 0 0), (1, iv q)] [] N) (a := 1) (b := n + 1) (by omega) (fun _ N fN hA => by
    have e0 : N 6 0 0 7 = n := by rw [fN 6 0 0 (by omega)]; exact en
    rw [show n + 1 - 1 = n by omega] at hA
    exact bX5_leastValue_26 ⟨i32 (by omega), by rw [e0]; exact i32 (by omega), fun _ => sum N fN hA, fun z => absurd z (by rw [e0]; omega)⟩) (fun q q1 q2 hn9 _ N fN hA => by
    have e0 : N 6 0 0 7 = n := by rw [fN 6 0 0 (by omega)]; exact en
    refine bX5_leastValue_26 ⟨i32 (by omega), by rw [e0]; exact i32 (by omega), fun z => absurd z (by rw [e0]; omega), fun _ => sp_assign e0 hn1 q1 (by omega) (hVe N fN) ((hAe N _ _ _ _ (by omega) fN).mpr hA) (fun N2 f2 hA2 => kV_mk (hn9 (by omega) N2 (fN.trans f2) ?_))⟩
    rw [show q + 1 - 1 = q by omega]
    exact (hAe N _ _ _ _ (by omega) fN).mp hA2)
  refine gen (Int.le_refl _) M1 f0 ?_
  rw [show (1 : Int) - 1 = 0 by omega]
  refine ⟨fun r c r0 r1 => by omega, fun c c0 c1 => ?_, fun c c' c0 c1 _ _ _ hz => absurd (z35 c (by omega) c1) hz, fun r r0 r1 => by omega, fun r r0 r1 => z33 r (by omega) r1, ?_, ?_, ?_⟩
  · have e := z35 c (by omega) c1
    have e2 := z34 c (by omega) c1
    rw [e, e2]
    exact ⟨by omega, by omega, fun w => absurd rfl w, fun _ => rfl, by omega⟩
  · exact sumT_z (by omega) (fun c c0 c1 => if_pos (z35 c (by omega) (by omega)))
  · rw [sumT_z (by omega) (fun c c0 c1 => if_pos (z35 c (by omega) (by omega))), sumT_z (by omega) (fun c c0 c1 => z34 c c0 (by omega))]
    rfl
  · rw [sumT_z (by omega) (fun c c0 c1 => z33 c (by omega) (by omega)), sumT_z (by omega) (fun c c0 c1 => z34 c c0 (by omega))]
    rfl
end Hg3
