/-! ===== the sorted rows: order, and all there; relink (the reference) ===== -/
/-- among equals those first put in stand first -/
def LexS (S : S3) (af : Int → Int → Prop) : Prop := ∀ k l, 0 ≤ k → k < l → l < S.1 → S.2.1 k < S.2.1 l ∨ (S.2.1 k = S.2.1 l ∧ af (S.2.2 k) (S.2.2 l))
theorem putS_lex {S : S3} {af : Int → Int → Prop} (h : LexS S af) (hs : Srt S) (h0 : 0 ≤ S.1) {m t : Int} (ha : ∀ k, 0 ≤ k → k < S.1 → af (S.2.2 k) t) : LexS (putS S m t) af := by
  have hp := posN_hi S.2.1 m S.1.toNat
  have hb := posN_bd S.2.1 m S.1.toNat
  intro k l k0 kl l1
  have l1' : l < S.1 + 1 := l1
  show insF S.2.1 (posN S.2.1 m S.1.toNat) m k < insF S.2.1 (posN S.2.1 m S.1.toNat) m l ∨ (insF S.2.1 (posN S.2.1 m S.1.toNat) m k = insF S.2.1 (posN S.2.1 m S.1.toNat) m l ∧ af (insF S.2.2 (posN S.2.1 m S.1.toNat) t k) (insF S.2.2 (posN S.2.1 m S.1.toNat) t l))
  generalize posN S.2.1 m S.1.toNat = p at *
  unfold insF
  by_cases hl : l < p
  · simp only [if_pos hl, if_pos (show k < p by omega)]
    exact h k l k0 kl (by omega)
  · by_cases hl2 : l = p
    · simp only [if_neg hl, if_pos hl2, if_pos (show k < p by omega)]
      have h1 := hp.2 (by omega)
      have h2 := hs k (p - 1) k0 (by omega) (by omega)
      by_cases h3 : S.2.1 k < m
      · exact Or.inl h3
      · exact Or.inr ⟨by omega, ha k k0 (by omega)⟩
    · by_cases hk : k < p
      · simp only [if_neg hl, if_neg hl2, if_pos hk]
        exact h k (l - 1) k0 (by omega) (by omega)
      · by_cases hk2 : k = p
        · simp only [if_neg hl, if_neg hl2, if_neg hk, if_pos hk2]
          exact Or.inl (hp.1 (l - 1) (by omega) (by omega))
        · simp only [if_neg hl, if_neg hl2, if_neg hk, if_neg hk2]
          exact h (k - 1) (l - 1) (by omega) (by omega) (by omega)
theorem foldS_lex (p : Int → Bool) (f g : Int → Int) (af : Int → Int → Prop) (haf : ∀ x y : Nat, x < y → af (g x) (g y)) (n : Nat) : LexS (foldS p f g n) af := by
  induction n with
  | zero => intro k l k0 kl l1; exact absurd l1 (by show ¬ l < 0; omega)
  | succ n ih =>
    simp only [foldS]
    split
    · refine putS_lex ih (foldS_srt _ _ _ _) (foldS_size p f g n).1 (fun k k0 k1 => ?_)
      obtain ⟨x, x1, -, x3, -⟩ := foldS_mem (p := p) (f := f) (g := g) n k k0 k1
      rw [x3]
      exact haf x n x1
    · exact ih
theorem foldS_has (p : Int → Bool) (f g : Int → Int) (n : Nat) : ∀ x : Nat, x < n → p (g x) = true → ∃ k, 0 ≤ k ∧ k < (foldS p f g n).1 ∧ (foldS p f g n).2.2 k = g x := by
  induction n with
  | zero => intro x hx; omega
  | succ n ih =>
    intro x hx hp
    have hs := foldS_size p f g n
    simp only [foldS]
    by_cases hn : p (g n) = true
    · rw [if_pos hn]
      have hb := posN_bd (foldS p f g n).2.1 (f (g n)) (foldS p f g n).1.toNat
      by_cases e : x = n
      · subst e
        refine ⟨posN (foldS p f g x).2.1 (f (g x)) (foldS p f g x).1.toNat, hb.1, ?_, ?_⟩
        · show _ < (foldS p f g x).1 + 1
          omega
        · show insF _ _ _ _ = _
          unfold insF
          rw [if_neg (by omega), if_pos rfl]
      · obtain ⟨k, k0, k1, k2⟩ := ih x (by omega) hp
        by_cases hk : k < posN (foldS p f g n).2.1 (f (g n)) (foldS p f g n).1.toNat
        · refine ⟨k, k0, ?_, ?_⟩
          · show _ < (foldS p f g n).1 + 1
            omega
          · show insF _ _ _ _ = _
            unfold insF
            rw [if_pos hk]
            exact k2
        · refine ⟨k + 1, by omega, ?_, ?_⟩
          · show _ < (foldS p f g n).1 + 1
            omega
          · show insF _ _ _ _ = _
            unfold insF
            rw [if_neg (by omega), if_neg (by omega), show k + 1 - 1 = k by omega]
            exact k2
    · rw [if_neg hn]
      by_cases e : x = n
      · rw [e] at hp; exact absurd hp hn
      · exact ih x (by omega) hp
theorem best_sp (p : Int → Bool) (f : Int → Int) (n : Nat) : (best p f n = -1 ∧ ∀ x : Int, 0 ≤ x → x < n → p x = false) ∨ ((0 ≤ best p f n ∧ best p f n < n ∧ p (best p f n) = true) ∧ ∀ x : Int, 0 ≤ x → x < n → p x = true → f (best p f n) < f x ∨ (f (best p f n) = f x ∧ best p f n ≤ x)) := by
  induction n with
  | zero => exact Or.inl ⟨best_0 p f, fun x x0 x1 => by omega⟩
  | succ n ih =>
    have st := best_step p f (k := (n : Int)) (by omega)
    rw [show ((n + 1 : Nat) : Int) = (n : Int) + 1 by omega, st]
    by_cases hp : p n = true
    · rw [if_pos hp]
      rcases ih with ⟨h1, h2⟩ | ⟨⟨h1, h2, h3⟩, h4⟩
      · rw [if_pos h1]
        refine Or.inr ⟨⟨by omega, by omega, hp⟩, fun x x0 x1 hx => ?_⟩
        by_cases e : x = n
        · rw [e]; exact Or.inr ⟨rfl, Int.le_refl _⟩
        · have := h2 x x0 (by omega)
          rw [this] at hx
          cases hx
      · rw [if_neg (by omega)]
        by_cases hf : f n < f (best p f n)
        · rw [if_pos hf]
          refine Or.inr ⟨⟨by omega, by omega, hp⟩, fun x x0 x1 hx => ?_⟩
          by_cases e : x = n
          · rw [e]; exact Or.inr ⟨rfl, Int.le_refl _⟩
          · rcases h4 x x0 (by omega) hx with q | q
            · exact Or.inl (by omega)
            · exact Or.inl (by omega)
        · rw [if_neg hf]
          refine Or.inr ⟨⟨h1, by omega, h3⟩, fun x x0 x1 hx => ?_⟩
          by_cases e : x = n
          · rw [e]
            by_cases q : f (best p f n) < f n
            · exact Or.inl q
            · exact Or.inr ⟨by omega, by omega⟩
          · exact h4 x x0 (by omega) hx
    · rw [if_neg hp]
      rcases ih with ⟨h1, h2⟩ | ⟨⟨h1, h2, h3⟩, h4⟩
      · refine Or.inl ⟨h1, fun x x0 x1 => ?_⟩
        by_cases e : x = n
        · rw [e]; simpa using hp
        · exact h2 x x0 (by omega)
      · refine Or.inr ⟨⟨h1, by omega, h3⟩, fun x x0 x1 hx => ?_⟩
        by_cases e : x = n
        · rw [e] at hx; exact absurd hx hp
        · exact h4 x x0 (by omega) hx
abbrev endD9 (L : LFn) (v : Int) : Int := arr L (L (15 + v) (L 13 v - 1))
abbrev fitD (L : LFn) (t v : Int) : Bool := decide (0 < L 13 v ∧ rsn L t t v = 0)
theorem hasC_best {L : LFn} (hv : WFv L) (t : Int) : (hasC L t = -1 → best (fitD L t) (endD9 L) (L 11 3) = -1) ∧ (hasC L t ≠ -1 → (canS L).2.2 (hasC L t) = best (fitD L t) (endD9 L) (L 11 3) ∧ best (fitD L t) (endD9 L) (L 11 3) ≠ -1) := by
  have nv := hv.1
  have hN : ((L 11 3).toNat : Int) = L 11 3 := by omega
  have hb := best_sp (fitD L t) (endD9 L) (L 11 3).toNat
  rw [hN] at hb
  have has : ∀ v, 0 ≤ v → v < L 11 3 → 0 < L 13 v → ∃ k, 0 ≤ k ∧ k < (canS L).1 ∧ (canS L).2.2 k = v := fun v v0 v1 hl => by
    obtain ⟨k, k0, k1, k2⟩ := foldS_has (fun v => decide (0 < L 13 v)) (fun v => arr L (L (15 + v) (L 13 v - 1))) (fun v => v) (L 11 3).toNat v.toNat (by omega) (by
      show decide (0 < L 13 ((v.toNat : Nat) : Int)) = true
      rw [show ((v.toNat : Nat) : Int) = v by omega]
      simpa using hl)
    exact ⟨k, k0, k1, by rw [show (v : Int) = ((v.toNat : Nat) : Int) by omega]; exact k2⟩
  have lex : LexS (canS L) (fun a b => a < b) := foldS_lex _ _ _ _ (fun x y hxy => by show (x : Int) < (y : Int); omega) _
  have tim : ∀ k, 0 ≤ k → k < (canS L).1 → (canS L).2.1 k = endD9 L ((canS L).2.2 k) := fun k k0 k1 => by
    obtain ⟨x, x1, x2, x3, x4⟩ := foldS_mem (p := fun v => decide (0 < L 13 v)) (f := fun v => arr L (L (15 + v) (L 13 v - 1))) (g := fun v => v) (L 11 3).toNat k k0 k1
    have e3 : (canS L).2.2 k = x := x3
    have e4 : (canS L).2.1 k = endD9 L x := x4
    rw [e3, e4]
  rcases srch_spec (p := fun x => decide (rsn L t t ((canS L).2.2 x) = 0)) (k := 0) (b := (canS L).1) with ⟨a1, a2⟩ | ⟨a1, a2, a3, a4⟩
  · have e1 : hasC L t = -1 := a1
    refine ⟨fun _ => ?_, fun q => absurd e1 q⟩
    rcases hb with ⟨h1, -⟩ | ⟨⟨h1, h2, h3⟩, -⟩
    · exact h1
    · simp only [fitD, decide_eq_true_eq] at h3
      obtain ⟨k, k0, k1, k2⟩ := has _ h1 h2 h3.1
      have := a2 k k0 k1
      rw [k2] at this
      simp only [decide_eq_false_iff_not] at this
      exact absurd h3.2 this
  · have e1 : hasC L t ≠ -1 := by
      show srch (fun x => decide (rsn L t t ((canS L).2.2 x) = 0)) 0 (canS L).1 ≠ -1
      omega
    refine ⟨fun q => absurd q e1, fun _ => ?_⟩
    have hq : 0 ≤ hasC L t ∧ hasC L t < (canS L).1 := ⟨a1, a2⟩
    have hr : rsn L t t ((canS L).2.2 (hasC L t)) = 0 := of_decide_eq_true a3
    have hbe : ∀ x, 0 ≤ x → x < hasC L t → rsn L t t ((canS L).2.2 x) ≠ 0 := fun x x0 x1 => of_decide_eq_false (a4 x x0 x1)
    have hu := canS_ok hv hq.1 hq.2
    rcases hb with ⟨-, h2⟩ | ⟨⟨h1, h2, h3⟩, h4⟩
    · have := h2 _ hu.1 hu.2.1
      simp only [fitD, decide_eq_false_iff_not] at this
      exact absurd ⟨hu.2.2, hr⟩ this
    · refine ⟨?_, by omega⟩
      simp only [fitD, decide_eq_true_eq] at h3
      obtain ⟨k, k0, k1, k2⟩ := has _ h1 h2 h3.1
      have hk : ¬ k < hasC L t := fun q => hbe k k0 q (by rw [k2]; exact h3.2)
      by_cases e : k = hasC L t
      · rw [← e]; exact k2
      · have hx := lex (hasC L t) k hq.1 (by omega) k1
        have hm := h4 _ hu.1 hu.2.1 (by simp only [fitD, decide_eq_true_eq]; exact ⟨hu.2.2, hr⟩)
        rw [tim _ hq.1 hq.2, tim _ k0 k1, k2] at hx
        rcases hx with y | ⟨y1, y2⟩ <;> rcases hm with w | ⟨w1, w2⟩ <;> omega
theorem rsn_empty {L : LFn} {t v : Int} (h : L 13 v = 0) : rsn L t t v = 0 ↔ L 7 t = hst L v := by
  have e : tbf L (L 9 t) v = 0 := by
    have := tbf_bd (L := L) (m := L 9 t) (v := v) (by omega)
    omega
  unfold rsn
  rw [e, if_neg (by omega), if_neg (by omega), if_neg (by omega)]
  by_cases q : L 7 t = hst L v
  · rw [if_neg (fun w => w.2 q)]
    exact ⟨fun _ => q, fun _ => rfl⟩
  · rw [if_pos ⟨rfl, q⟩]
    exact ⟨fun w => absurd w (by decide), fun w => absurd w q⟩
section Vq
variable {G : GT} {K : List Value → Mem → Prop} {X : String → Mem → Prop} {M : Mem} {L : LFn} {n : Int} {H : Int → LFn}
theorem m_endOf (hR : RG (M 8 0 1) L) (hw : WFn L) {v : Int} (v0 : 0 ≤ v) (v1 : v < L 11 3) (hl : 0 < L 13 v) (k : K [iv (endD9 L v)] M) : Call G 2 0 zX12_endOf [rr G 8 0 0, iv v] M K X := by
  obtain ⟨ht, hm, hv, hb⟩ := hw
  have nv := hv.1
  have h7 := hR.2.2.2.2.2.2.1 v v0 v1
  have hd := (hv.2 v v0 v1).2.2.2.2 (L 13 v - 1) (by omega) (by omega)
  refine bX12_endOf ?_
  rw [h7.2.1]
  exact ⟨by omega, by omega, m_dutyAt hR hv v0 v1 (by omega) (by omega) (kI_mk (m_arrives hR ht hd.1 hd.2 (kI_mk k)))⟩
theorem m_vehicleFor (hR : RG (M 8 0 1) L) (hw : WFn L) {t : Int} (t0 : 0 ≤ t) (t1 : t < L 6 4) (ha : L 10 t = 0) (hf : vehOf L t = -1) (k : K [iv (vF L t)] M) : Call G 4 0 zX12_vehicleFor [rr G 8 0 0, iv t] M K X := by
  have hw' := hw
  obtain ⟨ht, hm, hv, hb⟩ := hw
  have nv := hv.1
  have e160 : M 8 0 1 160 = L 11 3 := hR.2.2.2.2.2.1
  have hrs : ∀ v, rsnG L t v = rsn L t t v := fun v => by
    unfold rsnG
    rw [if_neg (fun q => q ha), if_neg (fun q => q hf)]
  have hbb := best_bd (fitD L t) (endD9 L) nv.1
  have hc := hasC_best hv t
  -- the free ones
  have free : eX12_vehicleFor G K X 74 [(0, rr G 8 0 0), (1, iv t), (2, iv (best (fitD L t) (endD9 L) (L 11 3))), (3, iv (L 11 3 - 1))] [] M := by
    by_cases hz : hasC L t = -1
    · rw [hc.1 hz]
      have ek : vF L t = if freC L t = -1 then -1 else L 11 3 - 1 - freC L t := by unfold vF; rw [if_pos hz]
      rw [ek] at k
      have stp : ∀ j, 0 ≤ j → j < L 11 3 → ¬ (L 13 (L 11 3 - 1 - j) = 0 ∧ rsn L t t (L 11 3 - 1 - j) = 0) → eX12_vehicleFor G K X 74 [(0, rr G 8 0 0), (1, iv t), (2, iv (-1)), (3, iv (L 11 3 - 1 - (j + 1)))] [] M → eX12_vehicleFor G K X 74 [(0, rr G 8 0 0), (1, iv t), (2, iv (-1)), (3, iv (L 11 3 - 1 - j))] [] M := by
        intro j j0 j1 hno hn9
        have h7 := hR.2.2.2.2.2.2.1 (L 11 3 - 1 - j) (by omega) (by omega)
        have hl := (hv.2 (L 11 3 - 1 - j) (by omega) (by omega)).2.2
        have h9 := ht.2 t t0 t1
        have es : L 11 3 - 1 - j + (-1) = L 11 3 - 1 - (j + 1) := by omega
        refine bX12_vehicleFor_74 ⟨i32 (by omega), fun q => absurd q (by omega), fun _ => ⟨i32 (by omega), fun q => absurd (show (-1 : Int) < 0 by decide) q, fun _ => ⟨by omega, by omega, ?_⟩⟩⟩
        rw [h7.2.1, es]
        refine ⟨i32 (by omega), fun _ => hn9, fun y => m_homeStop hR hv (by omega) (by omega) (kI_mk (m_first hR ht t0 t1 (kI_mk ⟨?_, i32 (by omega), fun _ => hn9, fun w => ?_⟩)))⟩
        · unfold hst; split <;> exact i32 (by omega)
        · exact absurd ⟨y, (rsn_empty y).mpr w.symm⟩ hno
      rcases srch_spec (p := fun n => decide (L 13 (L 11 3 - 1 - n) = 0 ∧ rsn L t t (L 11 3 - 1 - n) = 0)) (k := 0) (b := L 11 3) with ⟨a1, a2⟩ | ⟨a1, a2, a3, a4⟩
      · have e1 : freC L t = -1 := a1
        rw [if_pos e1] at k
        have := loop_up (E := fun j => 0 ≤ j → eX12_vehicleFor G K X 74 [(0, rr G 8 0 0), (1, iv t), (2, iv (-1)), (3, iv (L 11 3 - 1 - j))] [] M) (a := 0) (b := L 11 3) nv.1 (fun _ => bX12_vehicleFor_74 ⟨i32 (by omega), fun _ => k, fun q => absurd (show L 11 3 - 1 - L 11 3 < 0 by omega) q⟩) (fun j j0 j1 hn9 _ => stp j j0 j1 (of_decide_eq_false (a2 j j0 j1)) (hn9 (by omega))) (Int.le_refl _)
        rw [show L 11 3 - 1 - 0 = L 11 3 - 1 by omega] at this
        exact this
      · have e1 : freC L t ≠ -1 := by
          show srch (fun n => decide (L 13 (L 11 3 - 1 - n) = 0 ∧ rsn L t t (L 11 3 - 1 - n) = 0)) 0 (L 11 3) ≠ -1
          omega
        rw [if_neg e1] at k
        have b1 : 0 ≤ freC L t := a1
        have b2 : freC L t < L 11 3 := a2
        have b3 : L 13 (L 11 3 - 1 - freC L t) = 0 ∧ rsn L t t (L 11 3 - 1 - freC L t) = 0 := of_decide_eq_true a3
        have b4 : ∀ j, 0 ≤ j → j < freC L t → ¬ (L 13 (L 11 3 - 1 - j) = 0 ∧ rsn L t t (L 11 3 - 1 - j) = 0) := fun j j0 j1 => of_decide_eq_false (a4 j j0 j1)
        clear a1 a2 a3 a4
        generalize freC L t = j0 at *
        have := loop_up (E := fun j => 0 ≤ j → eX12_vehicleFor G K X 74 [(0, rr G 8 0 0), (1, iv t), (2, iv (-1)), (3, iv (L 11 3 - 1 - j))] [] M) (a := 0) (b := j0) b1 (fun _ => by
          have h7 := hR.2.2.2.2.2.2.1 (L 11 3 - 1 - j0) (by omega) (by omega)
          have h9 := ht.2 t t0 t1
          refine bX12_vehicleFor_74 ⟨i32 (by omega), fun q => absurd q (by omega), fun _ => ⟨i32 (by omega), fun q => absurd (show (-1 : Int) < 0 by decide) q, fun _ => ⟨by omega, by omega, ?_⟩⟩⟩
          rw [h7.2.1]
          refine ⟨i32 (by omega), fun y => absurd b3.1 y, fun y => m_homeStop hR hv (by omega) (by omega) (kI_mk (m_first hR ht t0 t1 (kI_mk ⟨?_, i32 (by omega), fun w => ?_, fun w => ?_⟩)))⟩
          · unfold hst; split <;> exact i32 (by omega)
          · exact absurd ((rsn_empty y).mp b3.2).symm w
          · exact bX12_vehicleFor_74 ⟨i32 (by omega), fun _ => k, fun _ => ⟨i32 (by omega), fun _ => k, fun q => absurd q (by omega)⟩⟩) (fun j j0' j1 hn9 _ => stp j j0' (by omega) (b4 j j0' j1) (hn9 (by omega))) (Int.le_refl _)
        rw [show L 11 3 - 1 - 0 = L 11 3 - 1 by omega] at this
        exact this
    · obtain ⟨e1, e2⟩ := hc.2 hz
      have ek : vF L t = best (fitD L t) (endD9 L) (L 11 3) := by unfold vF; rw [if_neg hz]; exact e1
      rw [ek] at k
      exact bX12_vehicleFor_74 ⟨i32 (by omega), fun _ => k, fun _ => ⟨i32 (by omega), fun _ => k, fun q => absurd q (by omega)⟩⟩
  have main := loop_up (E := fun v => 0 ≤ v → eX12_vehicleFor G K X 4 [(0, rr G 8 0 0), (1, iv t), (2, iv (best (fitD L t) (endD9 L) v)), (3, iv v)] [] M) (a := 0) (b := L 11 3) nv.1 (fun _ => by
    refine bX12_vehicleFor_4 ?_
    rw [e160]
    exact ⟨i32 (by omega), i32 (by omega), fun _ => free, fun q => absurd q (by omega)⟩) (fun v v0 v1 hn9 _ => by
    have hb9 := best_bd (fitD L t) (endD9 L) v0
    have h7 := hR.2.2.2.2.2.2.1 v v0 v1
    have hl := (hv.2 v v0 v1).2.2
    rw [best_step _ _ v0] at hn9
    have hrb := rsn_bd L t t v
    refine bX12_vehicleFor_4 ?_
    rw [e160, h7.2.1]
    refine ⟨i32 (by omega), i32 (by omega), fun q => absurd v1 q, fun _ => ⟨by omega, by omega, i32 (by omega), fun y => ?_, fun y => m_reasonFor hR ht hm hv t0 t1 v0 v1 (kI_mk ?_)⟩⟩
    · rw [if_neg (by simp only [fitD, decide_eq_true_eq]; exact fun q => y q.1)] at hn9
      exact hn9 (by omega)
    · rw [hrs]
      refine ⟨i32 (by omega), fun w => ?_, fun w => ?_⟩
      · rw [if_neg (by simp only [fitD, decide_eq_true_eq]; exact fun q => w q.2)] at hn9
        exact hn9 (by omega)
      · rw [if_pos (by simp only [fitD, decide_eq_true_eq]; exact ⟨y, w⟩)] at hn9
        refine ⟨i32 (by omega), fun u => ?_, fun u => ?_⟩
        · rw [if_pos (by omega)] at hn9
          exact hn9 (by omega)
        · rw [if_neg (by omega)] at hn9
          obtain ⟨g1, g2, g3⟩ : 0 ≤ best (fitD L t) (endD9 L) v ∧ best (fitD L t) (endD9 L) v < v ∧ fitD L t (best (fitD L t) (endD9 L) v) = true := by rcases hb9 with q | q; omega; exact q
          simp only [fitD, decide_eq_true_eq] at g3
          have dv := (hv.2 v v0 v1).2.2.2.2 (L 13 v - 1) (by omega) (by omega)
          have db := (hv.2 _ g1 (by omega)).2.2.2.2 (L 13 (best (fitD L t) (endD9 L) v) - 1) (by omega) (by omega)
          have av : 1 ≤ endD9 L v ∧ endD9 L v ≤ 1538 := (arr_bd hm ht dv.1 dv.2).2.2
          have ab : 1 ≤ endD9 L (best (fitD L t) (endD9 L) v) ∧ endD9 L (best (fitD L t) (endD9 L) v) ≤ 1538 := (arr_bd hm ht db.1 db.2).2.2
          refine m_endOf hR hw' v0 v1 y (kI_mk (m_endOf hR hw' g1 (by omega) g3.1 (kI_mk ⟨i32 (by omega), i32 (by omega), fun r => ?_, fun r => ?_⟩)))
          · rw [if_neg r] at hn9
            exact hn9 (by omega)
          · rw [if_pos r] at hn9
            exact hn9 (by omega))
  have := main (Int.le_refl _)
  rw [best_0] at this
  exact bX12_vehicleFor this
end Vq
