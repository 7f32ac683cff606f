/-! ===== the class: most pairs, least cost ===== -/
/-- b can come behind a -/
abbrev lkL (L : LFn) (a b : Int) : Prop := L 10 a = 0 ∧ L 10 b = 0 ∧ fol L b a
def wMP (L : LFn) (a b : Int) : Int := b2i (lkL L a b)
def wLC (L : LFn) (pr a b : Int) : Int := if lkL L a b then - min (L 9 b - arr L a - pr) 0 else 0
theorem LV.congr {V V' : Int → Int → Int} {n x : Int} (h : LV V n x) (e : ∀ r c, 1 ≤ r → r ≤ n → 1 ≤ c → c ≤ n → V r c = V' r c) : LV V' n x := by
  obtain ⟨u, v, p, h1, h2, h3, h4, h5, h6, h7⟩ := h
  refine ⟨u, v, p, h1, h2, ?_, fun r c r0 r1 c0 c1 => by rw [← e r c r0 r1 c0 c1]; exact h4 r c r0 r1 c0 c1, h5, h6, h7⟩
  rw [h3]
  exact sumT_congr (fun c c0 c1 => by
    have := h1 c c0 (by omega)
    exact e (p c) c this.1 this.2 c0 (by omega))
section Hg4
variable {G : GT} {K : List Value → Mem → Prop} {X : String → Mem → Prop} {M : Mem} {L : LFn} {j : Int}
theorem sp_isPair (hj0 : 0 ≤ j) (hj1 : j < 12) (hL : M 1 j = L) (ht : WFt L) (hm : WFm L) {a b : Int} (a0 : 0 ≤ a) (a1 : a < L 6 4) (b0 : 0 ≤ b) (b1 : b < L 6 4) (k : K [iv (b2i (lkL L a b))] M) : Call G 3 0 zX5_isPair [rr G 1 j 0, iv a, iv b] M K X := by
  have hn := ht.1
  have ha := ht.2 a a0 a1
  have hb := ht.2 b b0 b1
  refine bX5_isPair hj0 hj1 ?_
  rw [hL]
  refine ⟨a0, by omega, i32 (by omega), fun z => ?_, fun z => ⟨b0, by omega, i32 (by omega), fun y => ?_, fun y => sp_canFollow hj0 hj1 (by rw [hL]; exact ht) (by rw [hL]; exact hm) b0 (by rw [hL]; exact b1) a0 (by rw [hL]; exact a1) (kI_mk ?_)⟩⟩
  · rw [b2i_f (fun w => z w.1)] at k; exact k
  · rw [b2i_f (fun w => y w.2.1)] at k; exact k
  · rw [hL]
    refine ⟨b2i_i32 _, fun w => ?_, fun w => ?_⟩
    · rw [b2i_f (fun u => b2i_0.mp w u.2.2)] at k; exact k
    · have w' : fol L b a := Classical.byContradiction fun u => w (b2i_0.mpr u)
      rw [b2i_t ⟨z, y, w'⟩] at k; exact k
theorem sp_mostPairs (hj0 : 0 ≤ j) (hj1 : j < 12) (hL : M 1 j = L) (ht : WFt L) (hm : WFm L) (k : ∀ M' x, FrR 6 0 (fun _ => True) M M' → LV (fun r c => - wMP L (r - 1) (c - 1)) (L 6 4) x → K [iv (-x)] M') : Call G 4 0 zX5_mostPairs [rr G 6 0 0, rr G 1 j 0] M K X := by
  have hn := ht.1
  refine bX5_mostPairs hj0 hj1 ?_
  rw [hL]
  generalize hnn : L 6 4 = n at hn k
  have f0 : FrR 6 0 (fun _ => True) M (wr M 6 0 0 7 n) := FrR.rf.wr trivial
  have e07 : wr M 6 0 0 7 n 6 0 0 7 = n := wr_at _ _ _ _ _ _
  generalize wr M 6 0 0 7 n = M0 at f0 e07
  have rows := loop_up (E := fun row => 1 ≤ row → ∀ N : Mem, FrR 6 0 (fun c => 3 ≤ c ∧ c ≤ 32) M0 N → (∀ r c, 1 ≤ r → r < row → 1 ≤ c → c ≤ n → N 6 0 (2 + r) c = - wMP L (r - 1) (c - 1)) → eX5_mostPairs G K X 13 [(0, rr G 6 0 0), (1, rr G 1 j 0), (2, iv row)] [] N) (a := 1) (b := n + 1) (by omega) (fun _ N fN eN => by
    have e0 : N 6 0 0 7 = n := by rw [fN 6 0 0 (by omega)]; exact e07
    refine bX5_mostPairs_13 hj0 hj1 ⟨i32 (by omega), by rw [e0]; exact i32 (by omega), fun _ => sp_leastValue e0 hn.1 hn.2 (fun r c r0 r1 c0 c1 => ?_) (fun N2 x f2 lv => kI_mk (k N2 x ((f0.trans (fN.mono (fun _ _ => trivial))).trans (f2.mono (fun _ _ => trivial))) (lv.congr (fun r c r0 r1 c0 c1 => eN r c r0 (by omega) c0 c1)))), fun z => absurd z (by rw [e0]; omega)⟩
    show -1000 ≤ N 6 0 (2 + r) c ∧ N 6 0 (2 + r) c ≤ 0
    rw [eN r c r0 (by omega) c0 c1]
    have := b2i_01 (lkL L (r - 1) (c - 1))
    unfold wMP
    omega) (fun row q1 q2 hn9 _ N fN eN => by
    have e0 : N 6 0 0 7 = n := by rw [fN 6 0 0 (by omega)]; exact e07
    refine bX5_mostPairs_13 hj0 hj1 ⟨i32 (by omega), by rw [e0]; exact i32 (by omega), fun z => absurd z (by rw [e0]; omega), fun _ => ?_⟩
    refine loop_up (E := fun col => 1 ≤ col → ∀ N : Mem, FrR 6 0 (fun c => 3 ≤ c ∧ c ≤ 32) M0 N → (∀ r c, 1 ≤ r → r ≤ row → 1 ≤ c → c ≤ n → (r < row ∨ c < col) → N 6 0 (2 + r) c = - wMP L (r - 1) (c - 1)) → eX5_mostPairs G K X 23 [(0, rr G 6 0 0), (1, rr G 1 j 0), (2, iv row), (3, iv col)] [] N) (a := 1) (b := n + 1) (by omega) (fun _ N fN eN => ?_) (fun col c1 c2 hn8 _ N fN eN => ?_) (Int.le_refl _) N fN (fun r c r0 r1 c0 c1 h => eN r c r0 (by omega) c0 c1)
    · have e0 : N 6 0 0 7 = n := by rw [fN 6 0 0 (by omega)]; exact e07
      exact bX5_mostPairs_23 hj0 hj1 ⟨i32 (by omega), by rw [e0]; exact i32 (by omega), fun _ => hn9 (by omega) N fN (fun r c r0 r1 c0 c1 => eN r c r0 (by omega) c0 c1 (Or.inr (by omega))), fun z => absurd z (by rw [e0]; omega)⟩
    · have e0 : N 6 0 0 7 = n := by rw [fN 6 0 0 (by omega)]; exact e07
      have eL : N 1 j = L := (funext fun c => (fN 1 j c (fun w => absurd w.1 (by decide))).trans (f0 1 j c (fun w => absurd w.1 (by decide)))).trans hL
      have nx : ∀ x, x = - wMP L (row - 1) (col - 1) → eX5_mostPairs G K X 23 [(0, rr G 6 0 0), (1, rr G 1 j 0), (2, iv row), (3, iv (col + 1))] [] (wr N 6 0 (2 + row) col x) := fun x hx => by
        refine hn8 (by omega) _ (fN.wr (by omega)) (fun r c r0 r1 c0 c1' h => ?_)
        by_cases hr : r = row
        · rw [hr]
          by_cases hc : c = col
          · rw [hc, wr_at, hx]
          · rw [wr_nk hc]
            exact eN row c (by omega) (Int.le_refl _) c0 c1' (Or.inr (by omega))
        · rw [wr_nc (by omega)]
          exact eN r c r0 (by omega) c0 c1' (Or.inl (by omega))
      refine bX5_mostPairs_23 hj0 hj1 ⟨i32 (by omega), by rw [e0]; exact i32 (by omega), fun z => absurd z (by rw [e0]; omega), fun _ => ⟨by omega, by omega, sp_isPair hj0 hj1 eL ht hm (by omega) (by omega) (by omega) (by omega) (kI_mk ⟨b2i_i32 _, fun z => ⟨by omega, by omega, nx _ ?_⟩, fun z => ⟨by omega, by omega, nx _ ?_⟩⟩)⟩⟩
      · unfold wMP
        rw [z]
        rfl
      · unfold wMP
        have := b2i_01 (lkL L (row - 1) (col - 1))
        omega)
  exact rows (Int.le_refl _) M0 FrR.rf (fun r c r0 r1 => by omega)
theorem sp_leastCostAt (hj0 : 0 ≤ j) (hj1 : j < 12) (hL : M 1 j = L) (ht : WFt L) (hm : WFm L) {pr : Int} (p0 : 0 ≤ pr) (p1 : pr ≤ 1000) (k : ∀ M' x, FrR 6 0 (fun _ => True) M M' → LV (fun r c => - wLC L pr (r - 1) (c - 1)) (L 6 4) x → K [iv (pr * actv L + x)] M') : Call G 4 0 zX5_leastCostAt [rr G 6 0 0, iv pr, rr G 1 j 0] M K X := by
  have hn := ht.1
  have hs := hm.2.2.2.2
  have wbd : ∀ a b, 0 ≤ a → a < L 6 4 → 0 ≤ b → b < L 6 4 → 0 ≤ wLC L pr a b ∧ wLC L pr a b ≤ 1000 := fun a b a0 a1 b0 b1 => by
    unfold wLC
    by_cases h : lkL L a b
    · rw [if_pos h]
      have := h.2.2.2
      omega
    · rw [if_neg h]; omega
  refine bX5_leastCostAt hj0 hj1 ?_
  rw [hL]
  generalize hnn : L 6 4 = n at hn k wbd
  have f0 : FrR 6 0 (fun _ => True) M (wr M 6 0 0 7 n) := FrR.rf.wr trivial
  have e07 : wr M 6 0 0 7 n 6 0 0 7 = n := wr_at _ _ _ _ _ _
  generalize wr M 6 0 0 7 n = M0 at f0 e07
  have lin : ∀ N : Mem, FrR 6 0 (fun c => 3 ≤ c ∧ c ≤ 32) M0 N → N 1 j = L := fun N fN => (funext fun c => (fN 1 j c (fun w => absurd w.1 (by decide))).trans (f0 1 j c (fun w => absurd w.1 (by decide)))).trans hL
  have rows := loop_up (E := fun row => 1 ≤ row → ∀ N : Mem, FrR 6 0 (fun c => 3 ≤ c ∧ c ≤ 32) M0 N → (∀ r c, 1 ≤ r → r < row → 1 ≤ c → c ≤ n → N 6 0 (2 + r) c = - wLC L pr (r - 1) (c - 1)) → eX5_leastCostAt G K X 13 [(0, rr G 6 0 0), (1, iv pr), (2, rr G 1 j 0), (3, iv row)] [] N) (a := 1) (b := n + 1) (by omega) (fun _ N fN eN => by
    have e0 : N 6 0 0 7 = n := by rw [fN 6 0 0 (by omega)]; exact e07
    refine bX5_leastCostAt_13 hj0 hj1 ⟨i32 (by omega), by rw [e0]; exact i32 (by omega), fun _ => sp_activeCount hj0 hj1 (by rw [lin N fN]; exact ht) (kI_mk (sp_leastValue e0 hn.1 hn.2 (fun r c r0 r1 c0 c1 => ?_) (fun N2 x f2 lv => kI_mk ?_))), fun z => absurd z (by rw [e0]; omega)⟩
    · show -1000 ≤ N 6 0 (2 + r) c ∧ N 6 0 (2 + r) c ≤ 0
      rw [eN r c r0 (by omega) c0 c1]
      have := wbd (r - 1) (c - 1) (by omega) (by omega) (by omega) (by omega)
      omega
    · rw [lin N fN]
      exact k N2 x ((f0.trans (fN.mono (fun _ _ => trivial))).trans (f2.mono (fun _ _ => trivial))) (lv.congr (fun r c r0 r1 c0 c1 => eN r c r0 (by omega) c0 c1))) (fun row q1 q2 hn9 _ N fN eN => by
    have e0 : N 6 0 0 7 = n := by rw [fN 6 0 0 (by omega)]; exact e07
    refine bX5_leastCostAt_13 hj0 hj1 ⟨i32 (by omega), by rw [e0]; exact i32 (by omega), fun z => absurd z (by rw [e0]; omega), fun _ => ?_⟩
    refine loop_up (E := fun col => 1 ≤ col → ∀ N : Mem, FrR 6 0 (fun c => 3 ≤ c ∧ c ≤ 32) M0 N → (∀ r c, 1 ≤ r → r ≤ row → 1 ≤ c → c ≤ n → (r < row ∨ c < col) → N 6 0 (2 + r) c = - wLC L pr (r - 1) (c - 1)) → eX5_leastCostAt G K X 24 [(0, rr G 6 0 0), (1, iv pr), (2, rr G 1 j 0), (3, iv row), (4, iv col)] [] N) (a := 1) (b := n + 1) (by omega) (fun _ N fN eN => ?_) (fun col c1 c2 hn8 _ N fN eN => ?_) (Int.le_refl _) N fN (fun r c r0 r1 c0 c1 h => eN r c r0 (by omega) c0 c1)
    · have e0 : N 6 0 0 7 = n := by rw [fN 6 0 0 (by omega)]; exact e07
      exact bX5_leastCostAt_24 hj0 hj1 ⟨i32 (by omega), by rw [e0]; exact i32 (by omega), fun _ => hn9 (by omega) N fN (fun r c r0 r1 c0 c1 => eN r c r0 (by omega) c0 c1 (Or.inr (by omega))), fun z => absurd z (by rw [e0]; omega)⟩
    · have e0 : N 6 0 0 7 = n := by rw [fN 6 0 0 (by omega)]; exact e07
      have eL := lin N fN
      have hta := ht.2 (col - 1) (by omega) (by omega)
      have har := arr_bd hm ht (t := row - 1) (by omega) (by omega)
      have nx : ∀ x, x = - wLC L pr (row - 1) (col - 1) → eX5_leastCostAt G K X 24 [(0, rr G 6 0 0), (1, iv pr), (2, rr G 1 j 0), (3, iv row), (4, iv (col + 1))] [] (wr N 6 0 (2 + row) col x) := fun x hx => by
        refine hn8 (by omega) _ (fN.wr (by omega)) (fun r c r0 r1 c0 c1' h => ?_)
        by_cases hr : r = row
        · rw [hr]
          by_cases hc : c = col
          · rw [hc, wr_at, hx]
          · rw [wr_nk hc]
            exact eN row c (by omega) (Int.le_refl _) c0 c1' (Or.inr (by omega))
        · rw [wr_nc (by omega)]
          exact eN r c r0 (by omega) c0 c1' (Or.inl (by omega))
      refine bX5_leastCostAt_24 hj0 hj1 ⟨i32 (by omega), by rw [e0]; exact i32 (by omega), fun z => absurd z (by rw [e0]; omega), fun _ => ⟨by omega, by omega, sp_arrivalOf hj0 hj1 (by rw [eL]; exact ht) (by omega) (by rw [eL]; omega) (kI_mk ⟨by omega, by omega, sp_isPair hj0 hj1 eL ht hm (by omega) (by omega) (by omega) (by omega) (kI_mk ⟨b2i_i32 _, fun z => ⟨by omega, by omega, nx _ ?_⟩, fun z => ?_⟩)⟩)⟩⟩
      · unfold wLC
        rw [if_neg (b2i_0.mp z)]
        rfl
      · have z' : lkL L (row - 1) (col - 1) := Classical.byContradiction fun u => z (b2i_0.mpr u)
        rw [eL]
        refine ⟨i32 (by omega), by omega, by omega, fun M36 e36 => ?_⟩
        rw [e36]
        refine nx _ ?_
        unfold wLC
        rw [if_pos z']
        omega)
  exact rows (Int.le_refl _) M0 FrR.rf (fun r c r0 r1 => by omega)
end Hg4
