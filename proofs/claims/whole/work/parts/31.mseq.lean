/-! ===== the reference: reasons, sums, the sorted row ===== -/
def posL (f h : Int → Int) (m t : Int) : Nat → Int
  | 0 => 0
  | n + 1 => if m < f n ∨ (f n = m ∧ t < h n) then posL f h m t n else (n : Int) + 1
theorem posL_bd (f h : Int → Int) (m t : Int) (n : Nat) : 0 ≤ posL f h m t n ∧ posL f h m t n ≤ n := by
  induction n with
  | zero => exact ⟨Int.le_refl _, Int.le_refl _⟩
  | succ n ih => simp only [posL]; split <;> omega
theorem posL_N (f h : Int → Int) (m t : Int) (n : Nat) (hh : ∀ k : Int, 0 ≤ k → k < n → h k < t) : posL f h m t n = posN f m n := by
  induction n with
  | zero => rfl
  | succ n ih =>
    have h2 := hh n (by omega) (by omega)
    simp only [posL, posN]
    rw [ih (fun k q0 q1 => hh k q0 (by omega))]
    by_cases hm : m < f n
    · rw [if_pos (Or.inl hm), if_pos hm]
    · rw [if_neg hm, if_neg (by omega)]
def putL (S : S3) (m t : Int) : S3 := (S.1 + 1, insF S.2.1 (posL S.2.1 S.2.2 m t S.1.toNat) m, insF S.2.2 (posL S.2.1 S.2.2 m t S.1.toNat) t)
def foldL (p : Int → Bool) (f g : Int → Int) : Nat → S3
  | 0 => emptyS
  | n + 1 => if p n then putL (foldL p f g n) (f n) (g n) else foldL p f g n
theorem foldL_step {p : Int → Bool} {f g : Int → Int} {k : Int} (h : 0 ≤ k) : foldL p f g (k + 1).toNat = if p k then putL (foldL p f g k.toNat) (f k) (g k) else foldL p f g k.toNat := by
  rw [show (k + 1).toNat = k.toNat + 1 by omega]
  simp only [foldL]
  rw [show ((k.toNat : Nat) : Int) = k by omega]
theorem foldL_size (p : Int → Bool) (f g : Int → Int) (n : Nat) : 0 ≤ (foldL p f g n).1 ∧ (foldL p f g n).1 ≤ n := by
  induction n with
  | zero => exact ⟨Int.le_refl _, Int.le_refl _⟩
  | succ n ih =>
    simp only [foldL]
    split
    · show 0 ≤ (foldL p f g n).1 + 1 ∧ (foldL p f g n).1 + 1 ≤ ((n + 1 : Nat) : Int)
      omega
    · omega
theorem foldL_mem {p : Int → Bool} {f g : Int → Int} (n : Nat) : ∀ k, 0 ≤ k → k < (foldL p f g n).1 → ∃ x : Nat, x < n ∧ p x = true ∧ (foldL p f g n).2.2 k = g x ∧ (foldL p f g n).2.1 k = f x := by
  induction n with
  | zero => intro k h1 h2; exact absurd h2 (by show ¬ k < 0; omega)
  | succ n ih =>
    have hs := foldL_size p f g n
    intro k h1
    simp only [foldL]
    by_cases hp : p n = true
    · rw [if_pos hp]
      intro h2
      have h2' : k < (foldL p f g n).1 + 1 := h2
      have hb := posL_bd (foldL p f g n).2.1 (foldL p f g n).2.2 (f n) (g n) (foldL p f g n).1.toNat
      rcases insF_mem (n := (foldL p f g n).1) hb.1 (by omega) h1 h2' with ⟨-, e⟩ | ⟨k', q1, q2, e⟩
      · exact ⟨n, by omega, hp, e _ _, e _ _⟩
      · obtain ⟨x, x1, x2, x3, x4⟩ := ih k' q1 q2
        exact ⟨x, by omega, x2, (e _ _).trans x3, (e _ _).trans x4⟩
    · rw [if_neg hp]
      intro h2
      obtain ⟨x, x1, x2, x3, x4⟩ := ih k h1 h2
      exact ⟨x, by omega, x2, x3, x4⟩
/-- put in with rising numbers: the same row -/
theorem foldL_S (p : Int → Bool) (f : Int → Int) (n : Nat) : foldL p f (fun t => t) n = foldS p f (fun t => t) n := by
  induction n with
  | zero => rfl
  | succ n ih =>
    simp only [foldL, foldS]
    rw [ih]
    by_cases hp : p n = true
    · rw [if_pos hp, if_pos hp]
      have hs := foldS_size p f (fun t => t) n
      unfold putL putS
      rw [posL_N _ _ _ _ _ (fun k k0 k1 => by
        obtain ⟨x, x1, -, x3, -⟩ := foldS_mem (p := p) (f := f) (g := fun t => t) n k k0 (by omega)
        rw [x3]
        show (x : Int) < n
        omega)]
    · rw [if_neg hp, if_neg hp]
/-- in the reference's row stands S -/
def SeqM (M : Mem) (S : S3) : Prop := (0 ≤ S.1 ∧ S.1 ≤ 30 ∧ M 8 0 0 10 = S.1) ∧ ∀ k, 0 ≤ k → k < S.1 → M 8 0 5 k = S.2.1 k ∧ M 8 0 6 k = S.2.2 k
/-- only the reference's row may have changed -/
def FrC (M M' : Mem) : Prop := ∀ a b c k, ¬ (a = 8 ∧ b = 0 ∧ (c = 5 ∨ c = 6 ∨ (c = 0 ∧ k = 10))) → M' a b c k = M a b c k
theorem FrC.rf {M : Mem} : FrC M M := fun _ _ _ _ _ => rfl
theorem FrC.tr {M M1 M2 : Mem} (h : FrC M M1) (h2 : FrC M1 M2) : FrC M M2 := fun a b c k q => (h2 a b c k q).trans (h a b c k q)
theorem FrC.row {M M' : Mem} (h : FrC M M') {c : Int} (hc : c = 5 ∨ c = 6) (k v : Int) : FrC M (wr M' 8 0 c k v) := fun a b c' k' q => by
  rw [wr_ne (fun z => q ⟨z.1, z.2.2, by rcases hc with w | w; exact Or.inl (z.2.1.trans w); exact Or.inr (Or.inl (z.2.1.trans w))⟩)]
  exact h a b c' k' q
theorem FrC.siz {M M' : Mem} (h : FrC M M') (v : Int) : FrC M (wr M' 8 0 0 10 v) := fun a b c' k' q => by
  by_cases hz : a = 8 ∧ c' = 0 ∧ b = 0
  · obtain ⟨rfl, rfl, rfl⟩ := hz
    rw [wr_nk (fun z => q ⟨rfl, rfl, Or.inr (Or.inr ⟨rfl, z⟩)⟩)]
    exact h _ _ _ _ q
  · rw [wr_ne hz]
    exact h a b c' k' q
theorem FrC.g {M M' : Mem} (h : FrC M M') {c : Int} (hc : c ≠ 5 ∧ c ≠ 6 ∧ c ≠ 0) : M' 8 0 c = M 8 0 c := funext fun k => h 8 0 c k (by omega)
theorem FrC.ot {M M' : Mem} (h : FrC M M') {a : Nat} {b : Int} (hn : a ≠ 8) : M' a b = M a b := funext fun c => funext fun k => h a b c k (fun z => hn z.1)
theorem mput2a (N : Mem) (x m t k : Int) : wr (wr N 8 0 5 x m) 8 0 6 x t 8 0 5 k = if k = x then m else N 8 0 5 k := by
  rw [wr_nc (by omega)]
  by_cases h : k = x
  · rw [if_pos h, h, wr_at]
  · rw [if_neg h, wr_nk h]
theorem mput2b (N : Mem) (x m t k : Int) : wr (wr N 8 0 5 x m) 8 0 6 x t 8 0 6 k = if k = x then t else N 8 0 6 k := by
  by_cases h : k = x
  · rw [if_pos h, h, wr_at]
  · rw [if_neg h, wr_nk h, wr_nc (by omega)]
section Ms
variable {G : GT} {K : List Value → Mem → Prop} {X : String → Mem → Prop} {M : Mem} {L : LFn}
theorem m_comes {S : S3} (hS : SeqM M S) (hn : S.1 < 30) (hi : ∀ k, 0 ≤ k → k < S.1 → I32 (S.2.1 k) ∧ I32 (S.2.2 k)) {m t : Int} (hm : I32 m) (hti : I32 t) (k : ∀ M', FrC M M' → SeqM M' (putL S m t) → K [] M') : Call G 0 0 zX12_comes [rr G 8 0 0, iv m, iv t] M K X := by
  obtain ⟨⟨s1, s2, s3⟩, s4⟩ := hS
  have ends : ∀ n : Nat, (n : Int) ≤ S.1 → (n : Int) = posL S.2.1 S.2.2 m t S.1.toNat → ∀ N : Mem, FrC M N → N 8 0 0 10 = S.1 → (∀ k : Int, 0 ≤ k → k < n → N 8 0 5 k = S.2.1 k ∧ N 8 0 6 k = S.2.2 k) → (∀ k, (n : Int) < k → k ≤ S.1 → N 8 0 5 k = S.2.1 (k - 1) ∧ N 8 0 6 k = S.2.2 (k - 1)) →
      K [] (wr (wr (wr N 8 0 5 n m) 8 0 6 n t) 8 0 0 10 (N 8 0 0 10 + 1)) := by
    intro n h0 hp N hN h9 hlo hhi
    refine k _ (((hN.row (Or.inl rfl) _ _).row (Or.inr rfl) _ _).siz _) ⟨⟨by show 0 ≤ S.1 + 1; omega, by show S.1 + 1 ≤ 30; omega, by rw [wr_at, h9]; rfl⟩, fun k h1 h2 => ?_⟩
    have h2' : k < S.1 + 1 := h2
    show _ = insF S.2.1 (posL S.2.1 S.2.2 m t S.1.toNat) m k ∧ _ = insF S.2.2 (posL S.2.1 S.2.2 m t S.1.toNat) t k
    rw [← hp, wr_nc (c' := 5) (by omega), wr_nc (c := 0) (c' := 6) (by omega), mput2a, mput2b]
    unfold insF
    by_cases hk : k < (n : Int)
    · rw [if_pos hk, if_pos hk, if_neg (by omega), if_neg (by omega)]
      exact hlo k h1 hk
    · rw [if_neg hk, if_neg hk]
      by_cases hk2 : k = (n : Int)
      · rw [if_pos hk2, if_pos hk2, if_pos hk2, if_pos hk2]
        exact ⟨rfl, rfl⟩
      · rw [if_neg hk2, if_neg hk2, if_neg hk2, if_neg hk2]
        exact hhi k (by omega) (by omega)
  have gen : ∀ n : Nat, (n : Int) ≤ S.1 → posL S.2.1 S.2.2 m t n = posL S.2.1 S.2.2 m t S.1.toNat → ∀ N : Mem, FrC M N → N 8 0 0 10 = S.1 → (∀ k : Int, 0 ≤ k → k < n → N 8 0 5 k = S.2.1 k ∧ N 8 0 6 k = S.2.2 k) → (∀ k, (n : Int) < k → k ≤ S.1 → N 8 0 5 k = S.2.1 (k - 1) ∧ N 8 0 6 k = S.2.2 (k - 1)) →
      eX12_comes G K X 5 [(0, rr G 8 0 0), (1, iv m), (2, iv t), (3, iv (n : Int))] [] N := by
    intro n
    induction n with
    | zero =>
      intro h0 hp N hN h9 hlo hhi
      refine bX12_comes_5 ⟨i32 (by omega), fun _ => ⟨by omega, by omega, fun M1 e1 => ?_⟩, fun z => absurd z (by omega)⟩
      rw [e1]
      exact ends 0 h0 hp N hN h9 hlo hhi
    | succ n ih =>
      intro h0 hp N hN h9 hlo hhi
      have hlast := hlo n (by omega) (by omega)
      have hin := hi n (by omega) (by omega)
      simp only [posL] at hp
      have e1 : ((n + 1 : Nat) : Int) - 1 = n := by omega
      have mv : (m < S.2.1 n ∨ (S.2.1 n = m ∧ t < S.2.2 n)) → ∀ M1 : Mem, M1 = wr (wr N 8 0 5 ((n + 1 : Nat) : Int) (N 8 0 5 n)) 8 0 6 ((n + 1 : Nat) : Int) (N 8 0 6 n) → eX12_comes G K X 5 [(0, rr G 8 0 0), (1, iv m), (2, iv t), (3, iv (((n + 1 : Nat) : Int) + (-1)))] [] M1 := by
        intro hc M1 eM
        rw [if_pos hc] at hp
        rw [show ((n + 1 : Nat) : Int) + (-1) = n by omega, eM]
        refine ih (by omega) hp _ ((hN.row (Or.inl rfl) _ _).row (Or.inr rfl) _ _) (by rw [wr_nc (by omega), wr_nc (by omega)]; exact h9) (fun k z1 z2 => ?_) (fun k z1 z2 => ?_)
        · rw [mput2a, mput2b, if_neg (by omega), if_neg (by omega)]
          exact hlo k z1 (by omega)
        · rw [mput2a, mput2b]
          by_cases hk : k = ((n + 1 : Nat) : Int)
          · rw [if_pos hk, if_pos hk, hk, e1]
            exact hlast
          · rw [if_neg hk, if_neg hk]
            exact hhi k (by omega) z2
      have stp : ¬ (m < S.2.1 n ∨ (S.2.1 n = m ∧ t < S.2.2 n)) → ∀ M1 : Mem, M1 = wr (wr (wr N 8 0 5 ((n + 1 : Nat) : Int) m) 8 0 6 ((n + 1 : Nat) : Int) t) 8 0 0 10 (N 8 0 0 10 + 1) → K [] M1 := by
        intro hc M1 eM
        rw [if_neg hc] at hp
        rw [eM]
        exact ends (n + 1) h0 (by omega) N hN h9 hlo hhi
      refine bX12_comes_5 ?_
      rw [e1, hlast.1, hlast.2]
      rw [hlast.1, hlast.2] at mv
      exact ⟨i32 (by omega), fun z => absurd z (by omega), fun _ => ⟨by omega, by omega, hin.1, hm, fun z => ⟨by omega, by omega, mv (Or.inl z)⟩, fun z => ⟨fun y => ⟨by omega, by omega, stp (fun w => by rcases w with w | w; exact z w; exact y w.1)⟩, fun y => ⟨hin.2, hti, fun w => ⟨by omega, by omega, stp (fun u => by rcases u with u | u; exact z u; exact w u.2)⟩, fun w => ⟨by omega, by omega, mv (Or.inr ⟨y, w⟩)⟩⟩⟩⟩⟩
  have := gen S.1.toNat (by omega) rfl M FrC.rf s3 (fun k z1 z2 => s4 k z1 (by omega)) (fun k z1 z2 => by omega)
  rw [show ((S.1.toNat : Nat) : Int) = S.1 by omega] at this
  refine bX12_comes ?_
  rw [s3]
  exact this
theorem m_clear (M : Mem) : FrC M (wr M 8 0 0 10 0) ∧ SeqM (wr M 8 0 0 10 0) emptyS := ⟨FrC.rf.siz _, ⟨Int.le_refl _, by show (0 : Int) ≤ 30; omega, by rw [wr_at]; rfl⟩, fun k h1 h2 => absurd h2 (by show ¬ k < 0; omega)⟩
theorem RG_C {M M' : Mem} (h : FrC M M') (hR : RG (M 8 0 1) L) : RG (M' 8 0 1) L := by rw [h.g (by omega)]; exact hR
theorem m_departsFrom (hR : RG (M 8 0 1) L) (ht : WFt L) {t d s : Int} (h0 : 0 ≤ t) (h1 : t < L 6 4) (hd : I32 d) (hs : I32 s) (k : K [iv (b2i (dirn L t = d ∧ onW L t s ∧ s ≠ L 8 t))] M) : Call G 2 0 zX12_departsFrom [rr G 8 0 0, iv t, iv d, iv s] M K X := by
  have h := ht.2 t h0 h1
  have hdd : dirn L t = 0 ∨ dirn L t = 1 := by unfold dirn; split <;> simp
  refine bX12_departsFrom (m_direction hR ht h0 h1 (kI_mk ⟨i32 (by omega), hd, fun z => ?_, fun z => m_isOnWay hR ht h0 h1 hs (kI_mk ⟨b2i_i32 _, fun y => ?_, fun y => m_last hR ht h0 h1 (kI_mk ⟨i32 (by omega), hs, fun w => ?_, fun w => ?_⟩)⟩)⟩))
  · rw [b2i_f (fun w => z w.1)] at k; exact k
  · rw [b2i_f (fun w => (b2i_0.mp y) w.2.1)] at k; exact k
  · rw [b2i_f (fun u => u.2.2 w.symm)] at k; exact k
  · have y' : onW L t s := Classical.byContradiction fun u => y (b2i_0.mpr u)
    rw [b2i_t ⟨z, y', fun u => w u.symm⟩] at k; exact k
theorem m_passages (hR : RG (M 8 0 1) L) (ht : WFt L) (hm : WFm L) {d s : Int} (hd : I32 d) (hs0 : 0 ≤ s) (hs1 : s ≤ 11) (k : ∀ M', FrC M M' → SeqM M' (pasS L d s) → K [] M') : Call G 3 0 zX12_passages [rr G 8 0 0, iv d, iv s] M K X := by
  have hn := ht.1
  obtain ⟨c1, c2⟩ := m_clear M
  have gen := loop_up (E := fun t => 0 ≤ t → ∀ N : Mem, FrC M N → SeqM N (foldL (fun t => decide (L 10 t = 0 ∧ dirn L t = d ∧ onW L t s ∧ s ≠ L 8 t)) (fun t => tmA L t s) (fun t => t) t.toNat) → eX12_passages G K X 7 [(0, rr G 8 0 0), (1, iv d), (2, iv s), (3, iv t)] [] N) hn.1 (fun h0 N hN hs9 => by
    refine bX12_passages_7 ?_
    rw [(RG_C hN hR).2.2.2.1]
    refine ⟨i32 (by omega), i32 (by omega), fun _ => k N hN ?_, fun z => absurd z (by omega)⟩
    rw [foldL_S] at hs9
    exact hs9) (fun t q1 q2 hn9 h0 N hN hs9 => by
    have hRN := RG_C hN hR
    have h := ht.2 t q1 q2
    have hbd := tmA_bd hm ht q1 q2 hs0 hs1
    have hsz := foldL_size (fun t => decide (L 10 t = 0 ∧ dirn L t = d ∧ onW L t s ∧ s ≠ L 8 t)) (fun t => tmA L t s) (fun t => t) t.toNat
    have skp : ¬ (L 10 t = 0 ∧ dirn L t = d ∧ onW L t s ∧ s ≠ L 8 t) → eX12_passages G K X 7 [(0, rr G 8 0 0), (1, iv d), (2, iv s), (3, iv (t + 1))] [] N := fun z => hn9 (by omega) N hN (by rw [foldL_step q1, if_neg (by simpa only [decide_eq_true_eq] using z)]; exact hs9)
    refine bX12_passages_7 ?_
    rw [hRN.2.2.2.1]
    refine ⟨i32 (by omega), i32 (by omega), fun z => absurd q2 z, fun _ => m_isActive hRN ht q1 q2 (kI_mk ⟨b2i_i32 _, fun z => skp (fun w => (b2i_0.mp z) w.1), fun z => m_departsFrom hRN ht q1 q2 hd (i32 (by omega)) (kI_mk ⟨b2i_i32 _, fun y => skp (fun w => (b2i_0.mp y) w.2), fun y => m_plannedAt hRN ht q1 q2 hs0 hs1 (kI_mk (m_comes hs9 (by omega) (fun x x0 x1 => ?_) (i32 (by omega)) (i32 (by omega)) (fun M2 f2 s2 => kV_mk (hn9 (by omega) M2 (hN.tr f2) ?_))))⟩)⟩)⟩
    · obtain ⟨u, u1, -, u3, u4⟩ := foldL_mem _ x x0 x1
      rw [u3, u4]
      have := tmA_bd hm ht (t := (u : Int)) (s := s) (by omega) (by omega) hs0 hs1
      exact ⟨i32 (by omega), i32 (by omega)⟩
    · have z' : L 10 t = 0 := Classical.byContradiction fun w => z (b2i_0.mpr w)
      have y' := Classical.byContradiction fun w => y (b2i_0.mpr w)
      rw [foldL_step q1, if_pos (by simp only [decide_eq_true_eq]; exact ⟨z', y'⟩)]
      exact s2)
  exact bX12_passages (gen (Int.le_refl _) _ c1 c2)
theorem m_orders (hR : RG (M 8 0 1) L) (ht : WFt L) (k : ∀ M', FrC M M' → SeqM M' (actS L) → K [] M') : Call G 1 0 zX12_orders [rr G 8 0 0] M K X := by
  have hn := ht.1
  obtain ⟨c1, c2⟩ := m_clear M
  have gen := loop_up (E := fun t => 0 ≤ t → ∀ N : Mem, FrC M N → SeqM N (foldL (fun t => decide (L 10 t = 0)) (L 9) (fun t => t) t.toNat) → eX12_orders G K X 7 [(0, rr G 8 0 0), (1, iv t)] [] N) hn.1 (fun h0 N hN hs9 => by
    refine bX12_orders_7 ?_
    rw [(RG_C hN hR).2.2.2.1]
    refine ⟨i32 (by omega), i32 (by omega), fun _ => k N hN ?_, fun z => absurd z (by omega)⟩
    rw [foldL_S] at hs9
    exact hs9) (fun t q1 q2 hn9 h0 N hN hs9 => by
    have hRN := RG_C hN hR
    have h := ht.2 t q1 q2
    have hsz := foldL_size (fun t => decide (L 10 t = 0)) (L 9) (fun t => t) t.toNat
    refine bX12_orders_7 ?_
    rw [hRN.2.2.2.1]
    refine ⟨i32 (by omega), i32 (by omega), fun z => absurd q2 z, fun _ => m_isActive hRN ht q1 q2 (kI_mk ⟨b2i_i32 _, fun z => hn9 (by omega) N hN ?_, fun z => m_departs hRN ht q1 q2 (kI_mk (m_comes hs9 (by omega) (fun x x0 x1 => ?_) (i32 (by omega)) (i32 (by omega)) (fun M2 f2 s2 => kV_mk (hn9 (by omega) M2 (hN.tr f2) ?_))))⟩)⟩
    · rw [foldL_step q1, if_neg (by simpa using b2i_0.mp z)]; exact hs9
    · obtain ⟨u, u1, -, u3, u4⟩ := foldL_mem _ x x0 x1
      rw [u3, u4]
      have := ht.2 (u : Int) (by omega) (by omega)
      exact ⟨i32 (by omega), i32 (by omega)⟩
    · have z' : L 10 t = 0 := Classical.byContradiction fun w => z (b2i_0.mpr w)
      rw [foldL_step q1, if_pos (by simpa using z')]
      exact s2)
  exact bX12_orders (gen (Int.le_refl _) _ c1 c2)
theorem m_close {S : S3} (hS : SeqM M S) (hm : SmS S) (hR : RG (M 8 0 1) L) (hw : WFm L) (k : K [iv (if S.1 = 0 then 0 else below S (L 5 1))] M) : Call G 0 0 zX12_close [rr G 8 0 0] M K X := by
  obtain ⟨⟨s0, s1, s2⟩, s4⟩ := hS
  have h5 := hw.2.2.2.2
  have e35 : M 8 0 1 35 = L 5 1 := hR.2.2.1.2.1
  by_cases hz : S.1 = 0
  · rw [if_pos hz] at k
    exact bX12_close (bX12_close_4 ⟨i32 (by omega), i32 (by omega), fun _ => k, fun z => absurd z (by omega)⟩)
  · rw [if_neg hz] at k
    have h := loop_up (E := fun x => eX12_close G K X 4 [(0, rr G 8 0 0), (1, iv (cntT (fun x => decide (S.2.1 x - S.2.1 (x - 1) < L 5 1)) 1 x)), (2, iv x)] [] M) (a := 1) (b := S.1) (by omega)
      (bX12_close_4 ⟨i32 (by omega), i32 (by omega), fun _ => k, fun z => absurd z (by omega)⟩)
      (fun x q1 q2 hn => by
        have e1 := (s4 x (by omega) q2).1
        have e2 := (s4 (x - 1) (by omega) (by omega)).1
        have b1 := hm x (by omega) q2
        have b2 := hm (x - 1) (by omega) (by omega)
        refine bX12_close_4 ?_
        rw [e1, e2, e35, s2]
        refine ⟨i32 (by omega), i32 (by omega), fun z => absurd q2 z, fun _ => ⟨by omega, by omega, by omega, by omega, i32 (by omega), i32 (by omega), fun z => ?_, fun z => ?_⟩⟩
        · rw [cntT_f q1 (by simpa using z)] at hn
          rw [Int.add_zero]
          exact hn
        · rw [cntT_t q1 (by simpa using z)] at hn
          exact hn)
    rw [cntT_same] at h
    exact bX12_close h
end Ms
