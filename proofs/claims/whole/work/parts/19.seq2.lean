/-! ===== what is read of the sorted row; more rows ===== -/
def below (S : S3) (m : Int) : Int := cntT (fun x => decide (S.2.1 x - S.2.1 (x - 1) < m)) 1 S.1
def span (S : S3) : Int := if S.1 = 0 then 0 else S.2.1 (S.1 - 1) - S.2.1 0
def gapsN (f : Int → Int) (h : Int → Int → Int) (b : Int) : Nat → Int
  | 0 => b
  | n + 1 => h (gapsN f h b n) (f ((n : Int) + 1) - f n)
def gaps (f : Int → Int) (h : Int → Int → Int) (b k : Int) : Int := gapsN f h b (k - 1).toNat
theorem gaps_1 (f : Int → Int) (h : Int → Int → Int) (b : Int) : gaps f h b 1 = b := rfl
theorem gaps_step (f : Int → Int) (h : Int → Int → Int) (b : Int) {k : Int} (hk : 1 ≤ k) : gaps f h b (k + 1) = h (gaps f h b k) (f k - f (k - 1)) := by
  unfold gaps
  rw [show (k + 1 - 1).toNat = (k - 1).toNat + 1 by omega]
  simp only [gapsN]
  rw [show (((k - 1).toNat : Nat) : Int) = k - 1 by omega, show k - 1 + 1 = k by omega]
theorem gaps_bd {f : Int → Int} {h : Int → Int → Int} {b k B : Int} (hb : -B ≤ b ∧ b ≤ B) (hf : ∀ x, 1 ≤ x → x < k → -B ≤ f x - f (x - 1) ∧ f x - f (x - 1) ≤ B) (hh : ∀ x y, h x y = x ∨ h x y = y) (hk : 1 ≤ k) : -B ≤ gaps f h b k ∧ gaps f h b k ≤ B := by
  obtain ⟨n, rfl⟩ : ∃ n : Nat, k = n + 1 := ⟨(k - 1).toNat, by omega⟩
  clear hk
  induction n with
  | zero => exact hb
  | succ n ih =>
    have h1 := ih (fun x q1 q2 => hf x q1 (by omega))
    have h2 := hf ((n : Int) + 1) (by omega) (by omega)
    rw [show (((n + 1 : Nat) : Int) + 1) = ((n : Int) + 1) + 1 by omega, gaps_step _ _ _ (by omega)]
    rcases hh (gaps f h b ((n : Int) + 1)) (f ((n : Int) + 1) - f ((n : Int) + 1 - 1)) with e | e <;> rw [e]
    · exact h1
    · exact h2
def lstH (S : S3) : Int := gaps S.2.1 min (span S) S.1
def grtH (S : S3) : Int := gaps S.2.1 max 0 S.1
/-- the row's minutes are small -/
def SmS (S : S3) : Prop := ∀ k, 0 ≤ k → k < S.1 → -100000 ≤ S.2.1 k ∧ S.2.1 k ≤ 100000
section Sq2
variable {G : GT} {K : List Value → Mem → Prop} {X : String → Mem → Prop} {M : Mem} {i q : Int}
theorem sp_headwaysBelow (hq0 : 0 ≤ q) (hq1 : q < 3) {S : S3} (hS : SeqR M q S) (hm : SmS S) {m : Int} (hmi : I32 m) (k : K [iv (if S.1 = 0 then 0 else below S m)] M) : Call G 0 0 zX7_headwaysBelow [rr G 5 q 0, iv m] M K X := by
  obtain ⟨⟨s0, s1, s2⟩, s4⟩ := hS
  by_cases hz : S.1 = 0
  · rw [if_pos hz] at k
    exact bX7_headwaysBelow hq0 hq1 (bX7_headwaysBelow_4 hq0 hq1 ⟨i32 (by omega), i32 (by omega), fun _ => k, fun z => absurd z (by omega)⟩)
  · rw [if_neg hz] at k
    have h := loop_up (E := fun x => eX7_headwaysBelow G K X 4 [(0, rr G 5 q 0), (1, iv m), (2, iv (cntT (fun x => decide (S.2.1 x - S.2.1 (x - 1) < m)) 1 x)), (3, iv x)] [] M) (a := 1) (b := S.1) (by omega)
      (bX7_headwaysBelow_4 hq0 hq1 ⟨i32 (by omega), i32 (by omega), fun _ => k, fun z => absurd z (by omega)⟩)
      (fun x q1 q2 hn => by
        have e1 := (s4 x (by omega) q2).1
        have e2 := (s4 (x - 1) (by omega) (by omega)).1
        have b1 := hm x (by omega) q2
        have b2 := hm (x - 1) (by omega) (by omega)
        refine bX7_headwaysBelow_4 hq0 hq1 ⟨i32 (by omega), i32 (by omega), fun z => absurd (show x < M 5 q 0 2 by omega) z, fun _ => ⟨by omega, by omega, by omega, by omega, by rw [e1, e2]; exact i32 (by omega), hmi, fun z => ?_, fun z => ?_⟩⟩
        · rw [e1, e2] at z
          rw [cntT_f q1 (by simpa using z)] at hn
          exact hn
        · rw [e1, e2] at z
          rw [cntT_t q1 (by simpa using z)] at hn
          exact hn)
    rw [cntT_same] at h
    exact bX7_headwaysBelow hq0 hq1 h
theorem sp_span (hq0 : 0 ≤ q) (hq1 : q < 3) {S : S3} (hS : SeqR M q S) (k : K [iv (span S)] M) : Call G 0 0 zX7_span [rr G 5 q 0] M K X := by
  obtain ⟨⟨s0, s1, s2⟩, s4⟩ := hS
  unfold span at k
  refine bX7_span hq0 hq1 ⟨i32 (by omega), fun z => ⟨by omega, by omega, ?_⟩, fun z => ?_⟩
  · rw [if_neg (by omega)] at k
    rw [s2, (s4 (S.1 - 1) (by omega) (by omega)).1, (s4 0 (by omega) (by omega)).1]
    exact k
  · rw [if_pos (by omega)] at k
    exact k
theorem sp_leastHeadway (hq0 : 0 ≤ q) (hq1 : q < 3) {S : S3} (hS : SeqR M q S) (hm : SmS S) (hn : 1 ≤ S.1) (k : K [iv (lstH S)] M) : Call G 1 0 zX7_leastHeadway [rr G 5 q 0] M K X := by
  obtain ⟨⟨s0, s1, s2⟩, s4⟩ := hS
  have hb0 : -200000 ≤ span S ∧ span S ≤ 200000 := by
    unfold span
    rw [if_neg (by omega)]
    have b1 := hm (S.1 - 1) (by omega) (by omega)
    have b2 := hm 0 (by omega) (by omega)
    omega
  have hd : ∀ x, 1 ≤ x → x < S.1 → -200000 ≤ S.2.1 x - S.2.1 (x - 1) ∧ S.2.1 x - S.2.1 (x - 1) ≤ 200000 := fun x q1 q2 => by
    have b1 := hm x (by omega) q2
    have b2 := hm (x - 1) (by omega) (by omega)
    omega
  have hmn : ∀ x y : Int, min x y = x ∨ min x y = y := fun x y => by omega
  refine bX7_leastHeadway hq0 hq1 (sp_span hq0 hq1 ⟨⟨s0, s1, s2⟩, s4⟩ (kI_mk ?_))
  have h := loop_up (E := fun x => eX7_leastHeadway G K X 7 [(0, rr G 5 q 0), (1, iv (gaps S.2.1 min (span S) x)), (2, iv x)] [] M) (a := 1) (b := S.1) hn
    (bX7_leastHeadway_7 hq0 hq1 ⟨i32 (by omega), i32 (by omega), fun _ => k, fun z => absurd z (by omega)⟩)
    (fun x q1 q2 hn9 => by
      have e1 := (s4 x (by omega) q2).1
      have e2 := (s4 (x - 1) (by omega) (by omega)).1
      have b1 := hd x q1 q2
      have b3 := gaps_bd (k := x) hb0 (fun y z1 z2 => hd y z1 (by omega)) hmn q1
      rw [gaps_step _ _ _ q1] at hn9
      refine bX7_leastHeadway_7 hq0 hq1 ⟨i32 (by omega), i32 (by omega), fun z => absurd (show x < M 5 q 0 2 by omega) z, fun _ => ⟨by omega, by omega, by omega, by omega, i32 (by omega), by rw [e1, e2]; exact i32 (by omega), ?_⟩⟩
      rw [e1, e2]
      exact hn9)
  rw [gaps_1] at h
  exact h
theorem sp_greatestHeadway (hq0 : 0 ≤ q) (hq1 : q < 3) {S : S3} (hS : SeqR M q S) (hm : SmS S) (hn : 1 ≤ S.1) (k : K [iv (grtH S)] M) : Call G 1 0 zX7_greatestHeadway [rr G 5 q 0] M K X := by
  obtain ⟨⟨s0, s1, s2⟩, s4⟩ := hS
  have hd : ∀ x, 1 ≤ x → x < S.1 → -200000 ≤ S.2.1 x - S.2.1 (x - 1) ∧ S.2.1 x - S.2.1 (x - 1) ≤ 200000 := fun x q1 q2 => by
    have b1 := hm x (by omega) q2
    have b2 := hm (x - 1) (by omega) (by omega)
    omega
  have hmx : ∀ x y : Int, max x y = x ∨ max x y = y := fun x y => by omega
  have h := loop_up (E := fun x => eX7_greatestHeadway G K X 4 [(0, rr G 5 q 0), (1, iv (gaps S.2.1 max 0 x)), (2, iv x)] [] M) (a := 1) (b := S.1) hn
    (bX7_greatestHeadway_4 hq0 hq1 ⟨i32 (by omega), i32 (by omega), fun _ => k, fun z => absurd z (by omega)⟩)
    (fun x q1 q2 hn9 => by
      have e1 := (s4 x (by omega) q2).1
      have e2 := (s4 (x - 1) (by omega) (by omega)).1
      have b1 := hd x q1 q2
      have b3 := gaps_bd (f := S.2.1) (h := max) (b := 0) (k := x) (B := 200000) (by omega) (fun y z1 z2 => hd y z1 (by omega)) hmx q1
      rw [gaps_step _ _ _ q1] at hn9
      refine bX7_greatestHeadway_4 hq0 hq1 ⟨i32 (by omega), i32 (by omega), fun z => absurd (show x < M 5 q 0 2 by omega) z, fun _ => ⟨by omega, by omega, by omega, by omega, i32 (by omega), by rw [e1, e2]; exact i32 (by omega), ?_⟩⟩
      rw [e1, e2]
      exact hn9)
  rw [gaps_1] at h
  exact bX7_greatestHeadway hq0 hq1 h
theorem sp_emptyDuties (hi0 : 0 ≤ i) (hi1 : i < 12) (k : K [] (wrow M 1 i 13 (filF (M 1 i 13) 10 0))) : Call G 2 0 zX2_emptyDuties [rr G 1 i 11] M K X :=
  bX2_emptyDuties hi0 hi1 (sp_fill (n := 10) (dom1 hi0 hi1 (by decide) (by decide)) ar1_13 (by decide) (kV_mk k))
/-- those who leave, from the highest number down -/
theorem sp_listLeaving (hi0 : 0 ≤ i) (hi1 : i < 12) (hq0 : 0 ≤ q) (hq1 : q < 3) (ht : WFt (M 1 i)) (hv : WFv (M 1 i)) {d : Int} (hd : I32 d) (k : ∀ M', FrQ q M M' → SeqR M' q (leaS (M 1 i) d) → K [] M') : Call G 1 0 zX4_listLeaving [rr G 1 i 0, iv d, rr G 5 q 0] M K X := by
  have hn := hv.1
  generalize hL : M 1 i = L at *
  refine bX4_listLeaving hi0 hi1 hq0 hq1 (sp_clear hq0 hq1 (fun M1 f1 s1 => kV_mk ?_))
  have e1 : M1 1 i = L := (f1.ne (Or.inl (by decide))).trans hL
  have gen := loop_up (E := fun n => 0 ≤ n → ∀ N : Mem, FrQ q M N → SeqR N q (foldS (fun v => decide (L 12 v = d ∧ 0 < L 13 v)) (fun v => L 9 (L (15 + v) 0)) (fun n => L 11 3 - 1 - n) n.toNat) → eX4_listLeaving G K X 14 [(0, rr G 1 i 0), (1, iv d), (2, rr G 5 q 0), (3, iv (L 11 3 - 1 - n))] [] N) hn.1 (fun h0 N hN hs => by
    exact bX4_listLeaving_14 hi0 hi1 hq0 hq1 ⟨i32 (by omega), fun _ => k N hN hs, fun z => absurd z (by omega)⟩) (fun n q1 q2 hn9 h0 N hN hs => by
    have e : N 1 i = L := (hN.ne (Or.inl (by decide))).trans hL
    have hvN : WFv (N 1 i) := by rw [e]; exact hv
    have h := hv.2 (L 11 3 - 1 - n) (by omega) (by omega)
    have hsz := foldS_size (fun v => decide (L 12 v = d ∧ 0 < L 13 v)) (fun v => L 9 (L (15 + v) 0)) (fun n => L 11 3 - 1 - n) n.toNat
    have stp : L 11 3 - 1 - n + (-1) = L 11 3 - 1 - (n + 1) := by omega
    have skp : ¬ (L 12 (L 11 3 - 1 - n) = d ∧ 0 < L 13 (L 11 3 - 1 - n)) → eX4_listLeaving G K X 14 [(0, rr G 1 i 0), (1, iv d), (2, rr G 5 q 0), (3, iv (L 11 3 - 1 - n + (-1)))] [] N := fun z => by
      rw [stp]
      exact hn9 (by omega) N hN (by rw [foldS_step q1, if_neg (by simpa only [decide_eq_true_eq] using z)]; exact hs)
    refine bX4_listLeaving_14 hi0 hi1 hq0 hq1 ⟨i32 (by omega), fun z => absurd z (by omega), fun _ => sp_firstTripOf hi0 hi1 hvN (by omega) (by rw [e]; omega) (kI_mk ?_)⟩
    rw [e]
    refine ⟨by omega, by omega, i32 (by omega), hd, fun z => skp (fun w => z w.1), fun z => ?_⟩
    by_cases hz : 0 < L 13 (L 11 3 - 1 - n)
    · rw [if_pos hz]
      have hd0 := h.2.2.2.2 0 (by omega) hz
      have ht0 := ht.2 _ hd0.1 hd0.2
      have hn2 := ht.1
      refine ⟨i32 (by omega), fun y => by omega, fun _ => ⟨hd0.1, by omega, sp_put hq0 hq1 hs (by omega) (foldS_i32 _ (fun x hx hp => ?_)) (i32 (by omega)) (fun M2 f2 s2 => kV_mk ?_)⟩⟩
      · simp only [decide_eq_true_eq] at hp
        have h3 := hv.2 (L 11 3 - 1 - (x : Int)) (by omega) (by omega)
        have h4 := h3.2.2.2.2 0 (by omega) hp.2
        have h5 := ht.2 _ h4.1 h4.2
        exact i32 (by omega)
      · rw [stp]
        refine hn9 (by omega) M2 (FrR.trans hN f2) ?_
        rw [foldS_step q1, if_pos (by simp only [decide_eq_true_eq]; exact ⟨z, hz⟩)]
        exact s2
    · rw [if_neg hz]
      exact ⟨i32 (by omega), fun _ => skp (fun w => hz w.2), fun y => absurd rfl y⟩)
  have := gen (Int.le_refl _) M1 f1 s1
  rw [e1]
  rw [show L 11 3 - 1 - 0 = L 11 3 - 1 by omega] at this
  exact this
end Sq2
