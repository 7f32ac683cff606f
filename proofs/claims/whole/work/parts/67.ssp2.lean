/-! ===== the reference: least cost ===== -/
abbrev P19 (c _k : Int) : Prop := c = 19 ∨ c = 20 ∨ c = 21
abbrev P148 (c _k : Int) : Prop := c = 14 ∨ c = 18
abbrev PLC (c _k : Int) : Prop := c = 14 ∨ c = 18 ∨ c = 19 ∨ c = 20 ∨ c = 21
section Ss2
variable {G : GT} {K : List Value → Mem → Prop} {X : String → Mem → Prop} {M : Mem} {L : LFn} {pr n : Int}
theorem m_pairCost (hR : RG (M 8 0 1) L) (ht : WFt L) {a b : Int} (a0 : 0 ≤ a) (a1 : a < L 6 4) (b0 : 0 ≤ b) (b1 : b < L 6 4) (k : K [iv (pcL L pr a b)] M) : Call G 2 0 zX12_pairCost [rr G 8 0 0, iv a, iv b, iv pr] M K X :=
  bX12_pairCost (m_departs hR ht b0 b1 (kI_mk (m_arrives hR ht a0 a1 (kI_mk k))))
theorem m_waysBy (hR : RG (M 8 0 1) L) (ht : WFt L) (hm : WFm L) (p0 : 0 ≤ pr) (p1 : pr ≤ 1000) (hA : Mat L (L 6 4) (M 8 0 14) (M 8 0 18))
    (k : ∀ M' d, FrX P19 M M' → WI L pr (L 6 4) (M 8 0 14) (M 8 0 18) (M' 8 0 19) (M' 8 0 20) (M' 8 0 21) d → WF1 L pr (L 6 4) (M 8 0 18) (M' 8 0 19) (M' 8 0 20) → K [] M') : Call G 4 0 zX12_waysBy [rr G 8 0 0, iv pr] M K X := by
  have nt := ht.1
  have hdep : ∀ b, 0 ≤ b → b < L 6 4 → 0 ≤ L 9 b ∧ L 9 b ≤ 1439 := fun b b0 b1 => by have := ht.2 b b0 b1; omega
  have harr : ∀ a, 0 ≤ a → a < L 6 4 → 1 ≤ arr L a ∧ arr L a ≤ 1538 := fun a a0 a1 => (arr_bd hm ht a0 a1).2.2
  have hAr := hA
  obtain ⟨m1, m2⟩ := hA
  generalize hn : L 6 4 = n at *
  have gl : ∀ N : Mem, FrX P19 M N → RG (N 8 0 1) L ∧ N 8 0 1 37 = n ∧ N 8 0 14 = M 8 0 14 ∧ N 8 0 18 = M 8 0 18 := fun N fN => by
    have eg : N 8 0 1 = M 8 0 1 := fN.row (fun k => by show ¬ (_ ∨ _); omega)
    rw [eg]
    exact ⟨hR, by rw [hR.2.2.2.1]; exact hn, fN.row (fun k => by show ¬ (_ ∨ _); omega), fN.row (fun k => by show ¬ (_ ∨ _); omega)⟩
  have qlow : ∀ (A B p q cf d : Int → Int), WI L pr n A B p q cf d → 0 ≤ sumT q 0 n + 2600 * n := fun A B p q cf d hw => by
    have := sumT_mn (f := fun _ => -2600) (g := q) nt.1 (fun x x0 x1 => by
      show (-2600 : Int) ≤ q x
      have := hw.2.1 x x0 x1
      have := hdep x x0 x1
      omega)
    have c := sumT_bd (f := fun _ => (-2600 : Int)) (a := 0) (lo := -2600) (hi := -2600) (k := n) nt.1 (fun _ _ _ => ⟨Int.le_refl _, Int.le_refl _⟩)
    omega
  -- one pass over all
  have pass : ∀ (S : Int) (go : ∀ N d, FrX P19 M N → WI L pr n (M 8 0 14) (M 8 0 18) (N 8 0 19) (N 8 0 20) (N 8 0 21) d → sumT (N 8 0 20) 0 n < S → eX12_waysBy G K X 60 [(0, rr G 8 0 0), (1, iv pr), (2, iv 1)] [] N),
      ∀ N d, FrX P19 M N → WI L pr n (M 8 0 14) (M 8 0 18) (N 8 0 19) (N 8 0 20) (N 8 0 21) d → sumT (N 8 0 20) 0 n = S → eX12_waysBy G K X 68 [(0, rr G 8 0 0), (1, iv pr), (2, iv 0), (3, iv 0)] [] N := by
    intro S go
    have rows := loop_up (E := fun a => 0 ≤ a → ∀ (N : Mem) (d : Int → Int) (g : Int), (g = 0 ∨ g = 1) → FrX P19 M N → WI L pr n (M 8 0 14) (M 8 0 18) (N 8 0 19) (N 8 0 20) (N 8 0 21) d → (g = 0 → sumT (N 8 0 20) 0 n = S ∧ ∀ a' b', 0 ≤ a' → a' < a → 0 ≤ b' → b' < n → lkL L a' b' → N 8 0 19 a' ≠ 1000000 → M 8 0 18 a' ≠ b' → N 8 0 20 b' ≤ N 8 0 19 a' + pcL L pr a' b') → (g = 1 → sumT (N 8 0 20) 0 n < S) →
        eX12_waysBy G K X 68 [(0, rr G 8 0 0), (1, iv pr), (2, iv g), (3, iv a)] [] N) (a := 0) (b := n) nt.1 (fun _ N d g hg fN hW h0 h1 => by
      refine bX12_waysBy_68 ⟨i32 (by omega), by rw [(gl N fN).2.1]; exact i32 (by omega), fun _ => ?_, fun z => absurd z (by rw [(gl N fN).2.1]; omega)⟩
      rcases hg with rfl | rfl
      · refine bX12_waysBy_60 ⟨i32 (by omega), fun _ => k N d fN hW (fun a b a0 a1 b0 b1 => (h0 rfl).2 a b a0 a1 b0 b1), fun z => absurd rfl z⟩
      · exact go N d fN hW (h1 rfl)) (fun a a0 a1 hn9 _ N d g hg fN hW h0 h1 => by
      refine bX12_waysBy_68 ⟨i32 (by omega), by rw [(gl N fN).2.1]; exact i32 (by omega), fun z => absurd a1 (by rw [(gl N fN).2.1] at z; exact z), fun _ => ?_⟩
      -- over the seconds
      refine loop_up (E := fun b => 0 ≤ b → ∀ (N : Mem) (d : Int → Int) (g : Int), (g = 0 ∨ g = 1) → FrX P19 M N → WI L pr n (M 8 0 14) (M 8 0 18) (N 8 0 19) (N 8 0 20) (N 8 0 21) d → (g = 0 → sumT (N 8 0 20) 0 n = S ∧ ∀ a' b', 0 ≤ a' → a' ≤ a → 0 ≤ b' → b' < n → (a' < a ∨ b' < b) → lkL L a' b' → N 8 0 19 a' ≠ 1000000 → M 8 0 18 a' ≠ b' → N 8 0 20 b' ≤ N 8 0 19 a' + pcL L pr a' b') → (g = 1 → sumT (N 8 0 20) 0 n < S) →
        eX12_waysBy G K X 82 [(0, rr G 8 0 0), (1, iv pr), (2, iv g), (3, iv a), (4, iv b)] [] N) (a := 0) (b := n) nt.1 (fun _ N d g hg fN hW h0 h1 => ?_) (fun b b0 b1 hn8 _ N d g hg fN hW h0 h1 => ?_) (Int.le_refl _) N d g hg fN hW (fun hz => ⟨(h0 hz).1, fun a' b' c0 c1 e0 e1 h => (h0 hz).2 a' b' c0 (by omega) e0 e1⟩) h1
      · exact bX12_waysBy_82 ⟨i32 (by omega), by rw [(gl N fN).2.1]; exact i32 (by omega), fun _ => hn9 (by omega) N d g hg fN hW (fun hz => ⟨(h0 hz).1, fun a' b' c0 c1 e0 e1 => (h0 hz).2 a' b' c0 (by omega) e0 e1 (Or.inr e1)⟩) h1, fun z => absurd z (by rw [(gl N fN).2.1]; omega)⟩
      · obtain ⟨gR, g37, g14, g18⟩ := gl N fN
        have pa := hW.1 a a0 a1
        have qb := hW.2.1 b b0 b1
        have da := hdep b b0 b1
        have ra := harr a a0 a1
        have ma := m2 a a0 a1
        have mb := m1 b b0 b1
        -- nothing to do at b
        have skip : (lkL L a b → N 8 0 19 a ≠ 1000000 → M 8 0 18 a ≠ b → N 8 0 20 b ≤ N 8 0 19 a + pcL L pr a b) → eX12_waysBy G K X 82 [(0, rr G 8 0 0), (1, iv pr), (2, iv g), (3, iv a), (4, iv (b + 1))] [] N := fun hs => hn8 (by omega) N d g hg fN hW (fun hz => ⟨(h0 hz).1, fun a' b' c0 c1 e0 e1 hab hl hp hB => by
          by_cases hq : a' = a ∧ b' = b
          · rw [hq.1, hq.2] at hl hB
            rw [hq.1] at hp
            rw [hq.1, hq.2]
            exact hs hl hp hB
          · exact (h0 hz).2 a' b' c0 c1 e0 e1 (by omega) hl hp hB⟩) h1
        refine bX12_waysBy_82 ⟨i32 (by omega), by rw [g37]; exact i32 (by omega), fun z => absurd b1 (by rw [g37] at z; exact z), fun _ => ⟨a0, by omega, i32 (by omega), fun z => ?_, fun z => m_links gR ht hm a0 (by omega) b0 (by omega) (kI_mk ⟨b2i_i32 _, fun y => skip (fun hl => absurd hl (b2i_0.mp y)), fun y => ?_⟩)⟩⟩
        · refine hn9 (by omega) N d g hg fN hW (fun hz => ⟨(h0 hz).1, fun a' b' c0 c1 e0 e1 hl hp hB => ?_⟩) h1
          by_cases hq : a' = a
          · rw [hq] at hp; omega
          · exact (h0 hz).2 a' b' c0 (by omega) e0 e1 (Or.inl (by omega)) hl hp hB
        · have hl : lkL L a b := Classical.byContradiction fun u => y (b2i_0.mpr u)
          rw [g18]
          refine ⟨i32 (by omega), fun w => skip (fun _ _ hB => absurd w hB), fun w => m_pairCost gR ht a0 (by omega) b0 (by omega) (kI_mk ?_)⟩
          have hp : N 8 0 19 a ≠ 1000000 := by omega
          have cbd : -3000 ≤ pcL L pr a b ∧ pcL L pr a b ≤ 3000 := by unfold pcL; omega
          refine ⟨b0, by omega, i32 (by omega), i32 (by omega), fun u => m_pairCost gR ht a0 (by omega) b0 (by omega) (kI_mk ?_), fun u => skip (fun _ _ _ => by omega)⟩
          rw [g14]
          obtain ⟨d', hW'⟩ := wi_step (fun b b0 b1 => (hdep b b0 b1).2) p0 (fun a a0 a1 => (harr a a0 a1).2) hAr hW a0 a1 b0 b1 hl hp w u
          have sq := sumT_upI (N 8 0 20) (N 8 0 19 a + pcL L pr a b) b0 b1
          have sm : sumT (upI (N 8 0 20) b (N 8 0 19 a + pcL L pr a b)) 0 n < S := by
            rcases hg with e | e
            · have := (h0 e).1; omega
            · have := h1 e; omega
          have f2 : FrX P19 M (wr (wr N 8 0 20 b (N 8 0 19 a + pcL L pr a b)) 8 0 21 b a) := (fN.wr (Or.inr (Or.inl rfl)) _).wr (Or.inr (Or.inr rfl)) _
          have e19 : wr (wr N 8 0 20 b (N 8 0 19 a + pcL L pr a b)) 8 0 21 b a 8 0 19 = N 8 0 19 := by rw [wr_nc (by omega), wr_nc (by omega)]
          have e20 : wr (wr N 8 0 20 b (N 8 0 19 a + pcL L pr a b)) 8 0 21 b a 8 0 20 = upI (N 8 0 20) b (N 8 0 19 a + pcL L pr a b) := by rw [wr_nc (by omega), row8]
          have e21 : wr (wr N 8 0 20 b (N 8 0 19 a + pcL L pr a b)) 8 0 21 b a 8 0 21 = upI (N 8 0 21) b a := by rw [row8, wr_nc (by omega)]
          generalize wr (wr N 8 0 20 b (N 8 0 19 a + pcL L pr a b)) 8 0 21 b a = N2 at f2 e19 e20 e21 ⊢
          refine ⟨i32 (by omega), fun v => ?_, fun v => ?_⟩
          · rw [if_pos (show M 8 0 14 b = -1 by omega)] at hW'
            exact hn8 (by omega) N2 d' 1 (Or.inr rfl) f2 (by rw [e19, e20, e21]; exact hW') (fun z => by omega) (fun _ => by rw [e20]; exact sm)
          · rw [if_neg (show ¬ M 8 0 14 b = -1 by omega)] at hW'
            refine m_pairCost (gl N2 f2).1 ht (by omega) (by omega) b0 (by omega) (kI_mk ⟨by omega, by omega, fun M65 e65 => ?_⟩)
            have eb : wr N 8 0 20 b (N 8 0 19 a + pcL L pr a b) 8 0 20 b = N 8 0 19 a + pcL L pr a b := wr_at _ _ _ _ _ _
            rw [eb] at e65
            rw [e65]
            exact hn8 (by omega) _ d' 1 (Or.inr rfl) (f2.wr (Or.inl rfl) _) (by rw [row8, e19, wr_nc (by omega), wr_nc (by omega), e20, e21]; exact hW') (fun z => by omega) (fun _ => by rw [wr_nc (by omega), e20]; exact sm))
    intro N d fN hW hS
    exact rows (Int.le_refl _) N d 0 (Or.inl rfl) fN hW (fun _ => ⟨hS, fun a' b' c0 c1 => by omega⟩) (fun z => by omega)
  -- the passes
  have all : ∀ j : Nat, ∀ N d, FrX P19 M N → WI L pr n (M 8 0 14) (M 8 0 18) (N 8 0 19) (N 8 0 20) (N 8 0 21) d → sumT (N 8 0 20) 0 n + 2600 * n ≤ j → eX12_waysBy G K X 60 [(0, rr G 8 0 0), (1, iv pr), (2, iv 1)] [] N := by
    intro j
    induction j with
    | zero =>
      intro N d fN hW hj
      refine bX12_waysBy_60 ⟨i32 (by omega), fun z => absurd z (by decide), fun _ => pass _ (fun N2 d2 f2 hW2 hs => ?_) N d fN hW rfl⟩
      have := qlow _ _ _ _ _ _ hW2
      omega
    | succ j ih =>
      intro N d fN hW hj
      exact bX12_waysBy_60 ⟨i32 (by omega), fun z => absurd z (by decide), fun _ => pass _ (fun N2 d2 f2 hW2 hs => ih N2 d2 f2 hW2 (by omega)) N d fN hW rfl⟩
  have init := loop_up (E := fun t => 0 ≤ t → ∀ N : Mem, FrX P19 M N → (∀ x, 0 ≤ x → x < t → N 8 0 20 x = 1000000 ∧ N 8 0 19 x = if M 8 0 18 x = -1 ∧ L 10 x = 0 then 0 else 1000000) → eX12_waysBy G K X 2 [(0, rr G 8 0 0), (1, iv pr), (2, iv t)] [] N) (a := 0) (b := n) nt.1 (fun _ N fN zN => by
    refine bX12_waysBy_2 ⟨i32 (by omega), by rw [(gl N fN).2.1]; exact i32 (by omega), fun _ => ?_, fun z => absurd z (by rw [(gl N fN).2.1]; omega)⟩
    have hW : WI L pr n (M 8 0 14) (M 8 0 18) (N 8 0 19) (N 8 0 20) (N 8 0 21) (fun _ => 0) := by
      refine ⟨fun a a0 a1 => ?_, fun b b0 b1 => Or.inl (zN b b0 b1).1, fun b b0 b1 hb => Or.inl ⟨(zN b b0 b1).1, ?_⟩, fun a a0 a1 hB => ?_, fun b b0 b1 hq => absurd (zN b b0 b1).1 hq, fun _ => Int.le_refl _⟩
      · have := harr a a0 a1
        rw [(zN a a0 a1).2]
        split
        · exact Or.inr (by omega)
        · exact Or.inl rfl
      · have := m1 b b0 b1
        rw [(zN _ (by omega) (by omega)).2, if_neg (by omega)]
      · rw [(zN a a0 a1).2]
        by_cases h : L 10 a = 0
        · rw [if_pos ⟨hB, h⟩, if_pos h]
        · rw [if_neg (fun w => h w.2), if_neg h]
    exact all (sumT (N 8 0 20) 0 n + 2600 * n).toNat N _ fN hW (by have := qlow _ _ _ _ _ _ hW; omega)) (fun t t1 t2 hn9 _ N fN zN => by
    obtain ⟨gR, g37, g14, g18⟩ := gl N fN
    have mt := m2 t t1 t2
    have nx : ∀ v, (v = if M 8 0 18 t = -1 ∧ L 10 t = 0 then 0 else 1000000) → eX12_waysBy G K X 2 [(0, rr G 8 0 0), (1, iv pr), (2, iv (t + 1))] [] (wr (wr N 8 0 19 t v) 8 0 20 t 1000000) := fun v hv => by
      refine hn9 (by omega) _ ((fN.wr (Or.inl rfl) _).wr (Or.inr (Or.inl rfl)) _) (fun x x0 x1 => ?_)
      rw [wr_nc (c := 20) (c' := 19) (by omega)]
      by_cases hx : x = t
      · rw [hx, wr_at, wr_at, hv]; exact ⟨rfl, rfl⟩
      · rw [wr_nk hx, wr_nk hx, wr_nc (by omega)]; exact zN x x0 (by omega)
    refine bX12_waysBy_2 ⟨i32 (by omega), by rw [g37]; exact i32 (by omega), fun z => absurd t2 (by rw [g37] at z; exact z), fun _ => m_isActive gR ht t1 (by omega) (kI_mk ⟨b2i_i32 _, fun z => ⟨t1, by omega, nx _ ?_⟩, fun z => ⟨t1, by omega, ?_⟩⟩)⟩
    · rw [if_neg (fun w => b2i_0.mp z w.2)]
    · have z' : L 10 t = 0 := Classical.byContradiction fun u => z (b2i_0.mpr u)
      rw [g18]
      refine ⟨i32 (by omega), fun y => nx _ ?_, fun y => nx _ ?_⟩
      · rw [if_neg (fun w => by omega)]
      · rw [if_pos ⟨by omega, z'⟩])
  exact bX12_waysBy (init (Int.le_refl _) M FrX.rf (fun x x0 x1 => by omega))
/-- a way is turned -/
theorem m_turnsWay {A0 B0 p q cf d y z : Int → Int} {lam lam' W bs f : Int} (ht : WFt L) (hn : L 6 4 = n) (hM : M 8 0 14 = A0 ∧ M 8 0 18 = B0 ∧ M 8 0 21 = cf) (hA : Mat L n A0 B0) (hW : WI L pr n A0 B0 p q cf d) (h1 : WF1 L pr n B0 p q) (hD : DU L pr n A0 B0 y z lam) (hD' : DU L pr n A0 B0 (ydN B0 p y lam lam') (zdN q z lam') lam')
    (b0 : 0 ≤ bs) (b1 : bs < n) (hb : A0 bs = -1) (hq : q bs ≠ 1000000) (hl : lam' = - q bs) (hS : sumT (fun b => if A0 b = -1 then 0 else - pcL L pr (A0 b) b) 0 n = W) (hf : sumT (fun b => if A0 b = -1 then 1 else 0) 0 n = f)
    (k : ∀ M', FrX P148 M M' → Mat L n (M' 8 0 14) (M' 8 0 18) → DU L pr n (M' 8 0 14) (M' 8 0 18) (ydN B0 p y lam lam') (zdN q z lam') lam' → sumT (fun b => if M' 8 0 14 b = -1 then 0 else - pcL L pr (M' 8 0 14 b) b) 0 n = W - q bs → sumT (fun b => if M' 8 0 14 b = -1 then 1 else 0) 0 n = f - 1 → K [] M') : Call G 0 0 zX12_turnsWay [rr G 8 0 0, iv bs] M K X := by
  obtain ⟨hM1, hM2, hM3⟩ := hM
  have nt := ht.1
  have w5 := hW.2.2.2.2.1
  have w6 := hW.2.2.2.2.2
  obtain ⟨m1, m2⟩ := hA
  have hD9 := hD'
  obtain ⟨d1, d2, d3, d4, d5, d6⟩ := hD'
  generalize hy : ydN B0 p y lam lam' = y' at *
  generalize hz : zdN q z lam' = z' at *
  have tight := @wi_tight L pr n
  -- along the way
  have go : ∀ j : Nat, ∀ (N : Mem) (b : Int), d b ≤ j → 0 ≤ b → b < n → q b ≠ 1000000 → q b + z b + lam ≤ lam - lam' → FrX P148 M N →
      (∀ x, 0 ≤ x → x < n → x ≠ b → N 8 0 14 x = -1 ∨ (0 ≤ N 8 0 14 x ∧ N 8 0 14 x < n ∧ lkL L (N 8 0 14 x) x ∧ N 8 0 18 (N 8 0 14 x) = x ∧ - pcL L pr (N 8 0 14 x) x = y' (N 8 0 14 x) + z' x + lam')) →
      (∀ a, 0 ≤ a → a < n → N 8 0 18 a = -1 ∨ (0 ≤ N 8 0 18 a ∧ N 8 0 18 a < n ∧ N 8 0 18 a ≠ b ∧ N 8 0 14 (N 8 0 18 a) = a)) →
      (∀ a, 0 ≤ a → a < n → N 8 0 18 a ≠ B0 a → 0 ≤ B0 a ∧ B0 a < n ∧ d b ≤ d (B0 a)) →
      sumT (fun x => if x = b then 0 else if N 8 0 14 x = -1 then 0 else - pcL L pr (N 8 0 14 x) x) 0 n = W + q b - q bs →
      (∀ x, 0 ≤ x → x < n → x ≠ b → N 8 0 14 x = -1 → z' x = 0) → (∀ a, 0 ≤ a → a < n → N 8 0 18 a = -1 → y' a = 0) →
      sumT (fun x => if x = b then 0 else if N 8 0 14 x = -1 then 1 else 0) 0 n = f - 1 → eX12_turnsWay G K X 2 [(0, rr G 8 0 0), (2, iv b)] [] N := by
    intro j
    induction j with
    | zero =>
      intro N b hj c0 c1 hqb hrb fN t1 t2 t3 t4 t5 t5b t6
      have e21 : N 8 0 21 = cf := (fN.row (fun k => by show ¬ (_ ∨ _); omega)).trans hM3
      obtain ⟨a0, a1, a2, a3, a4, a5, a6⟩ := w5 b c0 c1 hqb
      have tt := tight ⟨m1, m2⟩ hW h1 hD (lam' := lam') c0 c1 hqb hrb
      rw [hy, hz] at tt
      have eB0 : B0 (cf b) = -1 := by
        rcases a6 with w | w
        · exact w
        · have := w6 (B0 (cf b)); omega
      have eB : N 8 0 18 (cf b) = -1 := Classical.byContradiction fun w => by
        have := t3 (cf b) a0 a1 (by omega); omega
      refine bX12_turnsWay_2 ⟨i32 (by omega), fun w => by omega, fun _ => ⟨c0, by omega, ?_⟩⟩
      rw [e21, eB]
      refine ⟨a0, by omega, bX12_turnsWay_2 ⟨i32 (by omega), fun _ => ?_, fun w => absurd (by decide) w⟩⟩
      have e14 : wr (wr N 8 0 18 (cf b) b) 8 0 14 b (cf b) 8 0 14 = upI (N 8 0 14) b (cf b) := by rw [row8, wr_nc (by omega)]
      have e18 : wr (wr N 8 0 18 (cf b) b) 8 0 14 b (cf b) 8 0 18 = upI (N 8 0 18) (cf b) b := by rw [wr_nc (by omega), row8]
      have ub : upI (N 8 0 14) b (cf b) b = cf b := if_pos rfl
      have un : ∀ x, x ≠ b → upI (N 8 0 14) b (cf b) x = N 8 0 14 x := fun x hx => if_neg hx
      have vb : upI (N 8 0 18) (cf b) b (cf b) = b := if_pos rfl
      have vn : ∀ a, a ≠ cf b → upI (N 8 0 18) (cf b) b a = N 8 0 18 a := fun a ha => if_neg ha
      have hne : ∀ x, 0 ≤ x → x < n → x ≠ b → N 8 0 14 x ≠ cf b := fun x x0 x1 hx w => by
        have := t1 x x0 x1 hx
        rw [w, eB] at this
        omega
      have hM' : Mat L n (upI (N 8 0 14) b (cf b)) (upI (N 8 0 18) (cf b) b) := by
        refine ⟨fun x x0 x1 => ?_, fun a a9 a8 => ?_⟩
        · by_cases hx : x = b
          · rw [hx, ub, vb]; exact Or.inr ⟨a0, a1, a2, rfl⟩
          · rw [un x hx]
            rcases t1 x x0 x1 hx with w | w
            · exact Or.inl w
            · rw [vn _ (hne x x0 x1 hx)]; exact Or.inr ⟨w.1, w.2.1, w.2.2.1, w.2.2.2.1⟩
        · by_cases ha : a = cf b
          · rw [ha, vb, ub]; exact Or.inr ⟨c0, c1, rfl⟩
          · rw [vn a ha]
            rcases t2 a a9 a8 with w | w
            · exact Or.inl w
            · rw [un _ w.2.2.1]; exact Or.inr ⟨w.1, w.2.1, w.2.2.2⟩
      refine k _ ((fN.wr (Or.inr rfl) _).wr (Or.inl rfl) _) (by rw [e14, e18]; exact hM') ?_ ?_ ?_
      · rw [e14, e18]
        refine ⟨d1, d2, d3, fun x x0 x1 hx => ?_, fun a a9 a8 ha => ?_, fun x x0 x1 hx => ?_⟩
        · by_cases hxb : x = b
          · rw [hxb, ub]; exact tt.1
          · rw [un x hxb] at hx ⊢
            rcases t1 x x0 x1 hxb with w | w
            · exact absurd w hx
            · exact w.2.2.2.2
        · by_cases hac : a = cf b
          · rw [hac, vb] at ha; omega
          · rw [vn a hac] at ha; exact t5b a a9 a8 ha
        · by_cases hxb : x = b
          · rw [hxb, ub] at hx; omega
          · rw [un x hxb] at hx; exact t5 x x0 x1 hxb hx
      · rw [e14]
        have e : sumT (fun x => if upI (N 8 0 14) b (cf b) x = -1 then 0 else - pcL L pr (upI (N 8 0 14) b (cf b) x) x) 0 n = sumT (upI (fun x => if x = b then 0 else if N 8 0 14 x = -1 then 0 else - pcL L pr (N 8 0 14 x) x) b (- pcL L pr (cf b) b)) 0 n := sumT_congr (fun x _ _ => by
          show (if upI (N 8 0 14) b (cf b) x = -1 then 0 else - pcL L pr (upI (N 8 0 14) b (cf b) x) x) = (if x = b then - pcL L pr (cf b) b else (if x = b then 0 else if N 8 0 14 x = -1 then 0 else - pcL L pr (N 8 0 14 x) x))
          by_cases hx : x = b
          · rw [hx, ub, if_neg (by omega), if_pos rfl]
          · rw [un x hx, if_neg hx, if_neg hx])
        rw [e, sumT_upI _ _ c0 c1, t4, if_pos rfl]
        have := tt.2.2 eB0
        omega
      · rw [e14]
        have e : sumT (fun x => if upI (N 8 0 14) b (cf b) x = -1 then (1 : Int) else 0) 0 n = sumT (fun x => if x = b then 0 else if N 8 0 14 x = -1 then 1 else 0) 0 n := sumT_congr (fun x _ _ => by
          show (if upI (N 8 0 14) b (cf b) x = -1 then (1 : Int) else 0) = (if x = b then 0 else if N 8 0 14 x = -1 then 1 else 0)
          by_cases hx : x = b
          · rw [hx, ub, if_neg (by omega), if_pos rfl]
          · rw [un x hx, if_neg hx])
        rw [e]; exact t6
    | succ j ih =>
      intro N b hj c0 c1 hqb hrb fN t1 t2 t3 t4 t5 t5b t6
      have e21 : N 8 0 21 = cf := (fN.row (fun k => by show ¬ (_ ∨ _); omega)).trans hM3
      obtain ⟨a0, a1, a2, a3, a4, a5, a6⟩ := w5 b c0 c1 hqb
      have tt := tight ⟨m1, m2⟩ hW h1 hD (lam' := lam') c0 c1 hqb hrb
      rw [hy, hz] at tt
      have eB : N 8 0 18 (cf b) = B0 (cf b) := Classical.byContradiction fun w => by
        have := t3 (cf b) a0 a1 w
        omega
      have e14 : wr (wr N 8 0 18 (cf b) b) 8 0 14 b (cf b) 8 0 14 = upI (N 8 0 14) b (cf b) := by rw [row8, wr_nc (by omega)]
      have e18 : wr (wr N 8 0 18 (cf b) b) 8 0 14 b (cf b) 8 0 18 = upI (N 8 0 18) (cf b) b := by rw [wr_nc (by omega), row8]
      have ub : upI (N 8 0 14) b (cf b) b = cf b := if_pos rfl
      have un : ∀ x, x ≠ b → upI (N 8 0 14) b (cf b) x = N 8 0 14 x := fun x hx => if_neg hx
      have vb : upI (N 8 0 18) (cf b) b (cf b) = b := if_pos rfl
      have vn : ∀ a, a ≠ cf b → upI (N 8 0 18) (cf b) b a = N 8 0 18 a := fun a ha => if_neg ha
      have f2 : FrX P148 M (wr (wr N 8 0 18 (cf b) b) 8 0 14 b (cf b)) := (fN.wr (Or.inr rfl) _).wr (Or.inl rfl) _
      refine bX12_turnsWay_2 ⟨i32 (by omega), fun w => by omega, fun _ => ⟨c0, by omega, ?_⟩⟩
      rw [e21]
      refine ⟨a0, by omega, ?_⟩
      by_cases hBz : N 8 0 18 (cf b) = -1
      · rw [hBz]
        refine bX12_turnsWay_2 ⟨i32 (by omega), fun _ => ?_, fun w => absurd (by decide) w⟩
        have hne : ∀ x, 0 ≤ x → x < n → x ≠ b → N 8 0 14 x ≠ cf b := fun x x0 x1 hx w => by
          have := t1 x x0 x1 hx
          rw [w, hBz] at this
          omega
        have hM' : Mat L n (upI (N 8 0 14) b (cf b)) (upI (N 8 0 18) (cf b) b) := by
          refine ⟨fun x x0 x1 => ?_, fun a a9 a8 => ?_⟩
          · by_cases hx : x = b
            · rw [hx, ub, vb]; exact Or.inr ⟨a0, a1, a2, rfl⟩
            · rw [un x hx]
              rcases t1 x x0 x1 hx with w | w
              · exact Or.inl w
              · rw [vn _ (hne x x0 x1 hx)]; exact Or.inr ⟨w.1, w.2.1, w.2.2.1, w.2.2.2.1⟩
          · by_cases ha : a = cf b
            · rw [ha, vb, ub]; exact Or.inr ⟨c0, c1, rfl⟩
            · rw [vn a ha]
              rcases t2 a a9 a8 with w | w
              · exact Or.inl w
              · rw [un _ w.2.2.1]; exact Or.inr ⟨w.1, w.2.1, w.2.2.2⟩
        refine k _ f2 (by rw [e14, e18]; exact hM') ?_ ?_ ?_
        · rw [e14, e18]
          refine ⟨d1, d2, d3, fun x x0 x1 hx => ?_, fun a a9 a8 ha => ?_, fun x x0 x1 hx => ?_⟩
          · by_cases hxb : x = b
            · rw [hxb, ub]; exact tt.1
            · rw [un x hxb] at hx ⊢
              rcases t1 x x0 x1 hxb with w | w
              · exact absurd w hx
              · exact w.2.2.2.2
          · by_cases hac : a = cf b
            · rw [hac, vb] at ha; omega
            · rw [vn a hac] at ha; exact t5b a a9 a8 ha
          · by_cases hxb : x = b
            · rw [hxb, ub] at hx; omega
            · rw [un x hxb] at hx; exact t5 x x0 x1 hxb hx
        · rw [e14]
          have e : sumT (fun x => if upI (N 8 0 14) b (cf b) x = -1 then 0 else - pcL L pr (upI (N 8 0 14) b (cf b) x) x) 0 n = sumT (upI (fun x => if x = b then 0 else if N 8 0 14 x = -1 then 0 else - pcL L pr (N 8 0 14 x) x) b (- pcL L pr (cf b) b)) 0 n := sumT_congr (fun x _ _ => by
            show (if upI (N 8 0 14) b (cf b) x = -1 then 0 else - pcL L pr (upI (N 8 0 14) b (cf b) x) x) = (if x = b then - pcL L pr (cf b) b else (if x = b then 0 else if N 8 0 14 x = -1 then 0 else - pcL L pr (N 8 0 14 x) x))
            by_cases hx : x = b
            · rw [hx, ub, if_neg (by omega), if_pos rfl]
            · rw [un x hx, if_neg hx, if_neg hx])
          rw [e, sumT_upI _ _ c0 c1, t4, if_pos rfl]
          have := tt.2.2 (by rw [← eB]; exact hBz)
          omega
        · rw [e14]
          have e : sumT (fun x => if upI (N 8 0 14) b (cf b) x = -1 then (1 : Int) else 0) 0 n = sumT (fun x => if x = b then 0 else if N 8 0 14 x = -1 then 1 else 0) 0 n := sumT_congr (fun x _ _ => by
            show (if upI (N 8 0 14) b (cf b) x = -1 then (1 : Int) else 0) = (if x = b then 0 else if N 8 0 14 x = -1 then 1 else 0)
            by_cases hx : x = b
            · rw [hx, ub, if_neg (by omega), if_pos rfl]
            · rw [un x hx, if_neg hx])
          rw [e]; exact t6
      · have hB0 : B0 (cf b) ≠ -1 := by rw [← eB]; exact hBz
        have q2 := tt.2.1 hB0
        have bb : 0 ≤ N 8 0 18 (cf b) ∧ N 8 0 18 (cf b) < n ∧ N 8 0 18 (cf b) ≠ b ∧ N 8 0 14 (N 8 0 18 (cf b)) = cf b := by
          rcases t2 (cf b) a0 a1 with w | w
          · exact absurd w hBz
          · exact w
        have dd : d (B0 (cf b)) < d b := by
          rcases a6 with w | w
          · exact absurd w hB0
          · exact w
        rw [← eB] at q2 dd
        generalize hb2 : N 8 0 18 (cf b) = b2 at *
        have hne : ∀ x, 0 ≤ x → x < n → x ≠ b → x ≠ b2 → N 8 0 14 x ≠ cf b := fun x x0 x1 hx hx2 w => by
          have := t1 x x0 x1 hx
          rw [w, hb2] at this
          omega
        refine ih _ b2 (by omega) bb.1 bb.2.1 q2.1 q2.2.1 f2 ?_ ?_ ?_ ?_ ?_ ?_ ?_
        · rw [e14, e18]
          intro x x0 x1 hx
          by_cases hxb : x = b
          · rw [hxb, ub, vb]; exact Or.inr ⟨a0, a1, a2, rfl, tt.1⟩
          · rw [un x hxb]
            rcases t1 x x0 x1 hxb with w | w
            · exact Or.inl w
            · rw [vn _ (hne x x0 x1 hxb hx)]; exact Or.inr w
        · rw [e14, e18]
          intro a a9 a8
          by_cases ha : a = cf b
          · rw [ha, vb, ub]; exact Or.inr ⟨c0, c1, fun w => bb.2.2.1 w.symm, rfl⟩
          · rw [vn a ha]
            rcases t2 a a9 a8 with w | w
            · exact Or.inl w
            · rw [un _ w.2.2.1]
              exact Or.inr ⟨w.1, w.2.1, fun u => ha (by rw [← w.2.2.2, u]; exact bb.2.2.2), w.2.2.2⟩
        · rw [e18]
          intro a a9 a8 hab
          by_cases ha : a = cf b
          · rw [ha, ← eB]; exact ⟨bb.1, bb.2.1, Int.le_refl _⟩
          · rw [vn a ha] at hab
            have := t3 a a9 a8 hab
            exact ⟨this.1, this.2.1, by omega⟩
        · rw [e14]
          have e : sumT (fun x => if x = b2 then 0 else if upI (N 8 0 14) b (cf b) x = -1 then 0 else - pcL L pr (upI (N 8 0 14) b (cf b) x) x) 0 n = sumT (upI (upI (fun x => if x = b then 0 else if N 8 0 14 x = -1 then 0 else - pcL L pr (N 8 0 14 x) x) b (- pcL L pr (cf b) b)) b2 0) 0 n := sumT_congr (fun x _ _ => by
            show (if x = b2 then 0 else if upI (N 8 0 14) b (cf b) x = -1 then 0 else - pcL L pr (upI (N 8 0 14) b (cf b) x) x) = (if x = b2 then 0 else (if x = b then - pcL L pr (cf b) b else (if x = b then 0 else if N 8 0 14 x = -1 then 0 else - pcL L pr (N 8 0 14 x) x)))
            by_cases hx2 : x = b2
            · rw [if_pos hx2, if_pos hx2]
            · rw [if_neg hx2, if_neg hx2]
              by_cases hx : x = b
              · rw [hx, ub, if_neg (by omega), if_pos rfl]
              · rw [un x hx, if_neg hx, if_neg hx])
          have u2 : (upI (fun x => if x = b then 0 else if N 8 0 14 x = -1 then 0 else - pcL L pr (N 8 0 14 x) x) b (- pcL L pr (cf b) b)) b2 = - pcL L pr (cf b) b2 := by
            show (if b2 = b then - pcL L pr (cf b) b else (if b2 = b then 0 else if N 8 0 14 b2 = -1 then 0 else - pcL L pr (N 8 0 14 b2) b2)) = _
            rw [if_neg bb.2.2.1, if_neg bb.2.2.1, bb.2.2.2, if_neg (by omega)]
          rw [e, sumT_upI _ _ bb.1 bb.2.1, u2, sumT_upI _ _ c0 c1, t4, if_pos rfl]
          have := q2.2.2
          omega
        · rw [e14]
          intro x x0 x1 hx hxn
          by_cases hxb : x = b
          · rw [hxb, ub] at hxn; omega
          · rw [un x hxb] at hxn; exact t5 x x0 x1 hxb hxn
        · rw [e18]
          intro a a9 a8 ha
          by_cases hac : a = cf b
          · rw [hac, vb] at ha; omega
          · rw [vn a hac] at ha; exact t5b a a9 a8 ha
        · rw [e14, ← t6]
          refine sumT_congr (fun x _ _ => ?_)
          show (if x = b2 then 0 else if upI (N 8 0 14) b (cf b) x = -1 then (1 : Int) else 0) = (if x = b then 0 else if N 8 0 14 x = -1 then 1 else 0)
          by_cases hxb : x = b
          · rw [hxb, if_neg (fun w => bb.2.2.1 w.symm), ub, if_neg (by omega), if_pos rfl]
          · rw [un x hxb, if_neg hxb]
            by_cases hx2 : x = b2
            · rw [if_pos hx2, hx2, bb.2.2.2, if_neg (by omega)]
            · rw [if_neg hx2]
  -- at the free one
  have zb : z bs = 0 := hD.2.2.2.2.2 bs b0 b1 hb
  have ne9 : ∀ (F : Int → Int), F bs = 0 → sumT (fun x => if x = bs then 0 else F x) 0 n = sumT F 0 n := fun F hF => sumT_congr (fun x _ _ => by
    show (if x = bs then 0 else F x) = F x
    by_cases hx : x = bs
    · rw [if_pos hx, hx, hF]
    · rw [if_neg hx])
  refine bX12_turnsWay (go (d bs).toNat M bs (by have := w6 bs; omega) b0 b1 hq (by omega) FrX.rf ?_ ?_ ?_ ?_ ?_ ?_ ?_)
  · rw [hM1, hM2]
    intro x x0 x1 hx
    rcases m1 x x0 x1 with w | w
    · exact Or.inl w
    · exact Or.inr ⟨w.1, w.2.1, w.2.2.1, w.2.2.2, d4 x x0 x1 (by omega)⟩
  · rw [hM1, hM2]
    intro a a0 a1
    rcases m2 a a0 a1 with w | w
    · exact Or.inl w
    · exact Or.inr ⟨w.1, w.2.1, fun u => by rw [u, hb] at w; omega, w.2.2⟩
  · rw [hM2]
    intro a a0 a1 h
    exact absurd rfl h
  · rw [hM1, ne9 (fun x => if A0 x = -1 then 0 else - pcL L pr (A0 x) x) (if_pos hb), hS]
    omega
  · rw [hM1]; exact fun x x0 x1 _ hx => d6 x x0 x1 hx
  · rw [hM2]; exact d5
  · rw [hM1, ← hf]
    have e : (fun x => if x = bs then (0 : Int) else if A0 x = -1 then 1 else 0) = upI (fun x => if A0 x = -1 then 1 else 0) bs 0 := rfl
    rw [e, sumT_upI _ _ b0 b1, if_pos hb]
    omega
end Ss2
