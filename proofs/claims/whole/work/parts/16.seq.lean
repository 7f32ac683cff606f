/-! ===== the sorted row ===== -/
abbrev S3 : Type := Int × (Int → Int) × (Int → Int)
def posN (f : Int → Int) (m : Int) : Nat → Int
  | 0 => 0
  | n + 1 => if m < f n then posN f m n else (n : Int) + 1
theorem posN_bd (f : Int → Int) (m : Int) (n : Nat) : 0 ≤ posN f m n ∧ posN f m n ≤ n := by
  induction n with
  | zero => exact ⟨Int.le_refl _, Int.le_refl _⟩
  | succ n ih => simp only [posN]; split <;> omega
def insF (f : Int → Int) (p m : Int) : Int → Int := fun k => if k < p then f k else if k = p then m else f (k - 1)
def putS (S : S3) (m t : Int) : S3 := (S.1 + 1, insF S.2.1 (posN S.2.1 m S.1.toNat) m, insF S.2.2 (posN S.2.1 m S.1.toNat) t)
def emptyS : S3 := (0, fun _ => 0, fun _ => 0)
def foldS (p : Int → Bool) (f g : Int → Int) : Nat → S3
  | 0 => emptyS
  | n + 1 => if p (g n) then putS (foldS p f g n) (f (g n)) (g n) else foldS p f g n
theorem foldS_size (p : Int → Bool) (f g : Int → Int) (n : Nat) : 0 ≤ (foldS p f g n).1 ∧ (foldS p f g n).1 ≤ n := by
  induction n with
  | zero => exact ⟨Int.le_refl _, Int.le_refl _⟩
  | succ n ih =>
    simp only [foldS]
    split
    · show 0 ≤ (foldS p f g n).1 + 1 ∧ (foldS p f g n).1 + 1 ≤ ((n + 1 : Nat) : Int)
      omega
    · omega
/-- in the row q stands S -/
def SeqR (M : Mem) (q : Int) (S : S3) : Prop := (0 ≤ S.1 ∧ S.1 ≤ 30 ∧ M 5 q 0 2 = S.1) ∧ ∀ k, 0 ≤ k → k < S.1 → M 5 q 1 k = S.2.1 k ∧ M 5 q 2 k = S.2.2 k
def FrQ (q : Int) (M M' : Mem) : Prop := FrR 5 q (fun _ => True) M M'
theorem FrQ.ne {q : Int} {M M' : Mem} (h : FrQ q M M') {a : Nat} {b : Int} (hn : a ≠ 5 ∨ b ≠ q) : M' a b = M a b := funext fun c => h a b c (fun z => by rcases hn with w | w; exact w z.1; exact w z.2.1)
theorem put2a (N : Mem) (q x m t k : Int) : wr (wr N 5 q 1 x m) 5 q 2 x t 5 q 1 k = if k = x then m else N 5 q 1 k := by
  rw [wr_nc (by omega)]
  by_cases h : k = x
  · rw [if_pos h, h, wr_at]
  · rw [if_neg h, wr_nk h]
theorem put2b (N : Mem) (q x m t k : Int) : wr (wr N 5 q 1 x m) 5 q 2 x t 5 q 2 k = if k = x then t else N 5 q 2 k := by
  by_cases h : k = x
  · rw [if_pos h, h, wr_at]
  · rw [if_neg h, wr_nk h, wr_nc (by omega)]
theorem put3a (N : Mem) (q x m t w k : Int) : wr (wr (wr N 5 q 1 x m) 5 q 2 x t) 5 q 0 2 w 5 q 1 k = if k = x then m else N 5 q 1 k := by
  rw [wr_nc (by omega), put2a]
theorem put3b (N : Mem) (q x m t w k : Int) : wr (wr (wr N 5 q 1 x m) 5 q 2 x t) 5 q 0 2 w 5 q 2 k = if k = x then t else N 5 q 2 k := by
  rw [wr_nc (by omega), put2b]
section Sq
variable {G : GT} {K : List Value → Mem → Prop} {X : String → Mem → Prop} {M : Mem} {i q : Int}
theorem sp_clear (hq0 : 0 ≤ q) (hq1 : q < 3) (k : ∀ M', FrQ q M M' → SeqR M' q emptyS → K [] M') : Call G 0 0 zX7_clear [rr G 5 q 0] M K X := by
  refine bX7_clear hq0 hq1 (k _ (FrR.wr FrR.rf trivial) ⟨⟨Int.le_refl _, by show (0 : Int) ≤ 30; omega, by rw [wr_at]; rfl⟩, fun k h1 h2 => absurd h2 (by show ¬ k < 0; omega)⟩)
theorem sp_put (hq0 : 0 ≤ q) (hq1 : q < 3) {S : S3} (hS : SeqR M q S) (hn : S.1 < 30) (hi : ∀ k, 0 ≤ k → k < S.1 → I32 (S.2.1 k)) {m t : Int} (hm : I32 m) (k : ∀ M', FrQ q M M' → SeqR M' q (putS S m t) → K [] M') : Call G 0 0 zX7_put [rr G 5 q 0, iv m, iv t] M K X := by
  obtain ⟨⟨s1, s2, s3⟩, s4⟩ := hS
  have gen : ∀ n : Nat, (n : Int) ≤ S.1 → posN S.2.1 m n = posN S.2.1 m S.1.toNat → ∀ N : Mem, FrQ q M N → N 5 q 0 2 = S.1 → (∀ k : Int, 0 ≤ k → k < n → N 5 q 1 k = S.2.1 k ∧ N 5 q 2 k = S.2.2 k) → (∀ k, (n : Int) < k → k ≤ S.1 → N 5 q 1 k = S.2.1 (k - 1) ∧ N 5 q 2 k = S.2.2 (k - 1)) →
      eX7_put G K X 15 [(0, rr G 5 q 0), (1, iv m), (2, iv t), (3, iv (n : Int))] [] N := by
    intro n
    induction n with
    | zero =>
      intro h0 hp N hN h9 hlo hhi
      refine bX7_put_15 hq0 hq1 ⟨i32 (by omega), fun _ => ⟨by omega, by omega, fun M1 e1 => ?_⟩, fun z => absurd z (by omega)⟩
      subst e1
      refine k _ ((((hN.wr trivial).wr trivial)).wr trivial) ⟨⟨by show 0 ≤ S.1 + 1; omega, by show S.1 + 1 ≤ 30; omega, by rw [wr_at, h9]; rfl⟩, fun k h1 h2 => ?_⟩
      have h2' : k < S.1 + 1 := h2
      have hp0 : posN S.2.1 m S.1.toNat = 0 := hp.symm
      show _ = insF S.2.1 (posN S.2.1 m S.1.toNat) m k ∧ _ = insF S.2.2 (posN S.2.1 m S.1.toNat) t k
      rw [hp0, put3a, put3b]
      unfold insF
      rw [if_neg (show ¬ k < 0 by omega), if_neg (show ¬ k < 0 by omega)]
      by_cases hk : k = 0
      · rw [if_pos hk, if_pos hk, if_pos (show k = ((0 : Nat) : Int) from hk), if_pos (show k = ((0 : Nat) : Int) from hk)]
        exact ⟨rfl, rfl⟩
      · rw [if_neg hk, if_neg hk, if_neg (show ¬ k = ((0 : Nat) : Int) from hk), if_neg (show ¬ k = ((0 : Nat) : Int) from hk)]
        exact hhi k (by omega) (by omega)
    | succ n ih =>
      intro h0 hp N hN h9 hlo hhi
      have hlast := hlo n (by omega) (by omega)
      have hin := hi n (by omega) (by omega)
      simp only [posN] at hp
      refine bX7_put_15 hq0 hq1 ⟨i32 (by omega), fun z => absurd z (by omega), fun _ => ⟨by omega, by omega, ?_, hm, fun z => ⟨by omega, by omega, fun M1 e1 => ?_⟩, fun z => ⟨by omega, by omega, fun M1 e1 => ?_⟩⟩⟩
      · rw [show ((n + 1 : Nat) : Int) - 1 = n by omega, hlast.1]; exact hin
      · rw [show ((n + 1 : Nat) : Int) - 1 = n by omega, hlast.1] at z
        rw [if_neg z] at hp
        subst e1
        refine k _ ((((hN.wr trivial).wr trivial)).wr trivial) ⟨⟨by show 0 ≤ S.1 + 1; omega, by show S.1 + 1 ≤ 30; omega, by rw [wr_at, h9]; rfl⟩, fun k h1 h2 => ?_⟩
        have h2' : k < S.1 + 1 := h2
        show _ = insF S.2.1 (posN S.2.1 m S.1.toNat) m k ∧ _ = insF S.2.2 (posN S.2.1 m S.1.toNat) t k
        rw [← hp, put3a, put3b]
        unfold insF
        by_cases hk : k < (n : Int) + 1
        · rw [if_pos hk, if_pos hk, if_neg (show ¬ k = ((n + 1 : Nat) : Int) by omega), if_neg (show ¬ k = ((n + 1 : Nat) : Int) by omega)]
          exact hlo k h1 (by omega)
        · rw [if_neg hk, if_neg hk]
          by_cases hk2 : k = (n : Int) + 1
          · rw [if_pos hk2, if_pos hk2, if_pos (show k = ((n + 1 : Nat) : Int) by omega), if_pos (show k = ((n + 1 : Nat) : Int) by omega)]
            exact ⟨rfl, rfl⟩
          · rw [if_neg hk2, if_neg hk2, if_neg (show ¬ k = ((n + 1 : Nat) : Int) by omega), if_neg (show ¬ k = ((n + 1 : Nat) : Int) by omega)]
            exact hhi k (by omega) (by omega)
      · rw [show ((n + 1 : Nat) : Int) - 1 = n by omega, hlast.1] at z
        rw [if_pos z] at hp
        subst e1
        rw [show ((n + 1 : Nat) : Int) + (-1) = n by omega, show ((n + 1 : Nat) : Int) - 1 = n by omega]
        refine ih (by omega) hp _ ((hN.wr trivial).wr trivial) (by rw [wr_nc (by omega), wr_nc (by omega)]; exact h9) (fun k z1 z2 => ?_) (fun k z1 z2 => ?_)
        · rw [put2a, put2b, if_neg (by omega), if_neg (by omega)]
          exact hlo k z1 (by omega)
        · rw [put2a, put2b]
          by_cases hk : k = ((n + 1 : Nat) : Int)
          · rw [if_pos hk, if_pos hk, hk, show ((n + 1 : Nat) : Int) - 1 = n by omega]
            exact hlast
          · rw [if_neg hk, if_neg hk]
            exact hhi k (by omega) z2
  refine bX7_put hq0 hq1 ⟨by rw [s3]; exact i32 (by omega), fun _ => ?_, fun z => by omega⟩
  have := gen S.1.toNat (by omega) rfl M FrR.rf s3 (fun k z1 z2 => s4 k z1 (by omega)) (fun k z1 z2 => by omega)
  rw [show ((S.1.toNat : Nat) : Int) = S.1 by omega] at this
  rw [s3]
  exact this
/-- all minutes so far are ints -/
theorem insF_i32 {f : Int → Int} {p m n : Int} (hp : 0 ≤ p ∧ p ≤ n) (hf : ∀ k, 0 ≤ k → k < n → I32 (f k)) (hm : I32 m) : ∀ k, 0 ≤ k → k < n + 1 → I32 (insF f p m k) := by
  intro k h1 h2
  unfold insF
  split
  · exact hf k h1 (by omega)
  · split
    · exact hm
    · exact hf (k - 1) (by omega) (by omega)
theorem foldS_i32 {p : Int → Bool} {f g : Int → Int} (n : Nat) (hf : ∀ x : Nat, x < n → p (g x) = true → I32 (f (g x))) : ∀ k, 0 ≤ k → k < (foldS p f g n).1 → I32 ((foldS p f g n).2.1 k) := by
  induction n with
  | zero => intro k h1 h2; exact absurd h2 (by show ¬ k < 0; omega)
  | succ n ih =>
    have hs := foldS_size p f g n
    have ih' := ih (fun x hx => hf x (by omega))
    simp only [foldS]
    by_cases hp : p (g n) = true
    · rw [if_pos hp]
      have hb := posN_bd (foldS p f g n).2.1 (f (g n)) (foldS p f g n).1.toNat
      exact insF_i32 (by omega) ih' (hf n (by omega) hp)
    · rw [if_neg hp]
      exact ih'
theorem foldS_step {p : Int → Bool} {f g : Int → Int} {k : Int} (h : 0 ≤ k) : foldS p f g (k + 1).toNat = if p (g k) then putS (foldS p f g k.toNat) (f (g k)) (g k) else foldS p f g k.toNat := by
  rw [show (k + 1).toNat = k.toNat + 1 by omega]
  simp only [foldS]
  rw [show ((k.toNat : Nat) : Int) = k by omega]
-- what the rows of a line are
def actS (L : LFn) : S3 := foldS (fun t => decide (L 10 t = 0)) (L 9) (fun t => t) (L 6 4).toNat
def pasS (L : LFn) (d s : Int) : S3 := foldS (fun t => decide (L 10 t = 0 ∧ dirn L t = d ∧ onW L t s ∧ s ≠ L 8 t)) (fun t => tmA L t s) (fun t => t) (L 6 4).toNat
def leaS (L : LFn) (d : Int) : S3 := foldS (fun v => decide (L 12 v = d ∧ 0 < L 13 v)) (fun v => L 9 (L (15 + v) 0)) (fun n => L 11 3 - 1 - n) (L 11 3).toNat
theorem sp_listActive (hi0 : 0 ≤ i) (hi1 : i < 12) (hq0 : 0 ≤ q) (hq1 : q < 3) (ht : WFt (M 1 i)) (k : ∀ M', FrQ q M M' → SeqR M' q (actS (M 1 i)) → K [] M') : Call G 1 0 zX8_listActive [rr G 1 i 6, rr G 5 q 0] M K X := by
  have hn := ht.1
  generalize hL : M 1 i = L at *
  refine bX8_listActive hi0 hi1 hq0 hq1 (sp_clear hq0 hq1 (fun M1 f1 s1 => kV_mk ?_))
  have gen := loop_up (E := fun t => 0 ≤ t → ∀ N : Mem, FrQ q M N → SeqR N q (foldS (fun t => decide (L 10 t = 0)) (L 9) (fun t => t) t.toNat) → eX8_listActive G K X 6 [(0, rr G 1 i 6), (1, rr G 5 q 0), (2, iv t)] [] N) hn.1 (fun h0 N hN hs => by
    have e : N 1 i = L := (hN.ne (Or.inl (by decide))).trans hL
    refine bX8_listActive_6 hi0 hi1 hq0 hq1 ?_
    rw [e]
    exact ⟨i32 (by omega), i32 (by omega), fun _ => k N hN hs, fun z => absurd z (by omega)⟩) (fun t q1 q2 hn9 h0 N hN hs => by
    have e : N 1 i = L := (hN.ne (Or.inl (by decide))).trans hL
    have h := ht.2 t q1 q2
    have hsz := foldS_size (fun t => decide (L 10 t = 0)) (L 9) (fun t => t) t.toNat
    refine bX8_listActive_6 hi0 hi1 hq0 hq1 ?_
    rw [e]
    refine ⟨i32 (by omega), i32 (by omega), fun z => absurd q2 z, fun _ => ⟨q1, by omega, i32 (by omega), fun z => hn9 (by omega) N hN ?_, fun z => sp_put hq0 hq1 hs (by omega) (foldS_i32 _ (fun x hx _ => by have := ht.2 x (by omega) (by omega); exact i32 (by omega))) (i32 (by omega)) (fun M2 f2 s2 => kV_mk (hn9 (by omega) M2 (FrR.trans hN f2) ?_))⟩⟩
    · rw [foldS_step q1, if_neg (by simpa using z)]; exact hs
    · rw [foldS_step q1, if_pos (by simpa using z)]; exact s2)
  exact gen (Int.le_refl _) M1 f1 s1
theorem sp_listPassages (hi0 : 0 ≤ i) (hi1 : i < 12) (hq0 : 0 ≤ q) (hq1 : q < 3) (ht : WFt (M 1 i)) (hm : WFm (M 1 i)) {d s : Int} (hd : I32 d) (hs0 : 0 ≤ s) (hs1 : s ≤ 11) (k : ∀ M', FrQ q M M' → SeqR M' q (pasS (M 1 i) d s) → K [] M') : Call G 2 0 zX4_listPassages [rr G 1 i 0, iv d, iv s, rr G 5 q 0] M K X := by
  have hn := ht.1
  have ht0 := ht
  have hm0 := hm
  generalize hL : M 1 i = L at *
  refine bX4_listPassages hi0 hi1 hq0 hq1 (sp_clear hq0 hq1 (fun M1 f1 s1 => kV_mk ?_))
  have gen := loop_up (E := fun t => 0 ≤ t → ∀ N : Mem, FrQ q M N → SeqR N q (foldS (fun t => decide (L 10 t = 0 ∧ dirn L t = d ∧ onW L t s ∧ s ≠ L 8 t)) (fun t => tmA L t s) (fun t => t) t.toNat) → eX4_listPassages G K X 7 [(0, rr G 1 i 0), (1, iv d), (2, iv s), (3, rr G 5 q 0), (4, iv t)] [] N) hn.1 (fun h0 N hN hs => by
    have e : N 1 i = L := (hN.ne (Or.inl (by decide))).trans hL
    refine bX4_listPassages_7 hi0 hi1 hq0 hq1 ?_
    rw [e]
    exact ⟨i32 (by omega), i32 (by omega), fun _ => k N hN hs, fun z => absurd z (by omega)⟩) (fun t q1 q2 hn9 h0 N hN hs => by
    have e : N 1 i = L := (hN.ne (Or.inl (by decide))).trans hL
    have h := ht.2 t q1 q2
    have hbd := tmA_bd hm ht q1 q2 hs0 hs1
    have hsz := foldS_size (fun t => decide (L 10 t = 0 ∧ dirn L t = d ∧ onW L t s ∧ s ≠ L 8 t)) (fun t => tmA L t s) (fun t => t) t.toNat
    have htN : WFt (N 1 i) := by rw [e]; exact ht
    have hmN : WFm (N 1 i) := by rw [e]; exact hm
    have q2N : t < N 1 i 6 4 := by rw [e]; exact q2
    have skp : ¬ (L 10 t = 0 ∧ dirn L t = d ∧ onW L t s ∧ s ≠ L 8 t) → eX4_listPassages G K X 7 [(0, rr G 1 i 0), (1, iv d), (2, iv s), (3, rr G 5 q 0), (4, iv (t + 1))] [] N := fun z => hn9 (by omega) N hN (by rw [foldS_step q1, if_neg (by simpa only [decide_eq_true_eq] using z)]; exact hs)
    refine bX4_listPassages_7 hi0 hi1 hq0 hq1 ⟨i32 (by omega), by rw [e]; exact i32 (by omega), fun z => absurd q2N z, fun _ => ⟨q1, by omega, by rw [e]; exact i32 (by omega), fun z => skp (by rw [e] at z; exact fun w => z w.1), fun z => sp_directionOf hi0 hi1 htN q1 q2N (kI_mk ?_)⟩⟩
    rw [e] at z ⊢
    have hdd : dirn L t = 0 ∨ dirn L t = 1 := by unfold dirn; split <;> simp
    refine ⟨i32 (by omega), hd, fun y => skp (fun w => y w.2.1), fun y => sp_isOnWay hi0 hi1 htN q1 q2N (i32 (by omega)) (kI_mk ?_)⟩
    rw [e]
    refine ⟨b2i_i32 _, fun w => skp (fun u => (b2i_0.mp w) u.2.2.1), fun w => ⟨i32 (by omega), i32 (by omega), fun u => skp (fun u2 => u2.2.2.2 u), fun u => sp_timeAt hi0 hi1 htN q1 q2N hs0 hs1 (kI_mk ?_)⟩⟩
    have w' : onW L t s := Classical.byContradiction fun u => w (b2i_0.mpr u)
    rw [e]
    refine sp_put hq0 hq1 hs (by omega) (foldS_i32 _ (fun x hx _ => by have := tmA_bd hm ht (t := (x : Int)) (s := s) (by omega) (by omega) hs0 hs1; exact i32 (by omega))) (i32 (by omega)) (fun M2 f2 s2 => kV_mk (hn9 (by omega) M2 (FrR.trans hN f2) ?_))
    rw [foldS_step q1, if_pos (by simp only [decide_eq_true_eq]; exact ⟨z, y, w', u⟩)]
    exact s2)
  exact gen (Int.le_refl _) M1 f1 s1
end Sq
