/-! ===== the planner ===== -/
theorem insF_mem {p n k : Int} (hp0 : 0 ≤ p) (hp1 : p ≤ n) (h0 : 0 ≤ k) (h1 : k < n + 1) : (k = p ∧ ∀ (f : Int → Int) (m : Int), insF f p m k = m) ∨ ∃ k', 0 ≤ k' ∧ k' < n ∧ ∀ (f : Int → Int) (m : Int), insF f p m k = f k' := by
  by_cases hk : k < p
  · exact Or.inr ⟨k, h0, by omega, fun f m => if_pos hk⟩
  · by_cases hk2 : k = p
    · exact Or.inl ⟨hk2, fun f m => by unfold insF; rw [if_neg hk, if_pos hk2]⟩
    · exact Or.inr ⟨k - 1, by omega, by omega, fun f m => by unfold insF; rw [if_neg hk, if_neg hk2]⟩
/-- each entry of the row comes of one of those put in -/
theorem foldS_mem {p : Int → Bool} {f g : Int → Int} (n : Nat) : ∀ k, 0 ≤ k → k < (foldS p f g n).1 → ∃ x : Nat, x < n ∧ p (g x) = true ∧ (foldS p f g n).2.2 k = g x ∧ (foldS p f g n).2.1 k = f (g x) := by
  induction n with
  | zero => intro k h1 h2; exact absurd h2 (by show ¬ k < 0; omega)
  | succ n ih =>
    have hs := foldS_size p f g n
    intro k h1
    simp only [foldS]
    by_cases hp : p (g n) = true
    · rw [if_pos hp]
      intro h2
      have h2' : k < (foldS p f g n).1 + 1 := h2
      have hb := posN_bd (foldS p f g n).2.1 (f (g n)) (foldS p f g n).1.toNat
      rcases insF_mem (n := (foldS p f g n).1) hb.1 (by omega) h1 h2' with ⟨-, e⟩ | ⟨k', q1, q2, e⟩
      · exact ⟨n, by omega, hp, e _ _, e _ _⟩
      · obtain ⟨x, x1, x2, x3, x4⟩ := ih k' q1 q2
        exact ⟨x, by omega, x2, (e _ _).trans x3, (e _ _).trans x4⟩
    · rw [if_neg hp]
      intro h2
      obtain ⟨x, x1, x2, x3, x4⟩ := ih k h1 h2
      exact ⟨x, by omega, x2, x3, x4⟩
theorem actS_ok {L : LFn} (ht : WFt L) {k : Int} (h0 : 0 ≤ k) (h1 : k < (actS L).1) : 0 ≤ (actS L).2.2 k ∧ (actS L).2.2 k < L 6 4 ∧ L 10 ((actS L).2.2 k) = 0 ∧ (actS L).2.1 k = L 9 ((actS L).2.2 k) := by
  obtain ⟨x, x1, x2, x3, x4⟩ := foldS_mem _ k h0 h1
  have e : (actS L).2.2 k = x := x3
  have e2 : (actS L).2.1 k = L 9 x := x4
  rw [e2, e]
  refine ⟨by omega, by omega, by simpa using x2, rfl⟩
theorem actS_size {L : LFn} (ht : WFt L) : 0 ≤ (actS L).1 ∧ (actS L).1 ≤ L 6 4 := by
  have := foldS_size (fun t => decide (L 10 t = 0)) (L 9) (fun t => t) (L 6 4).toNat
  have hn := ht.1
  unfold actS
  omega
-- waiting trams: how many, where, since when
def lngW (L : LFn) (W : S3) (t : Int) : Int := best (fun k => decide (W.2.1 k = L 7 t ∧ W.2.2 k ≤ L 9 t - L 5 0)) W.2.2 W.1
def wStep (L : LFn) (W : S3) (t : Int) : S3 := if lngW L W t = -1 then (W.1 + 1, upI W.2.1 W.1 (L 8 t), upI W.2.2 W.1 (arr L t)) else (W.1, upI W.2.1 (lngW L W t) (L 8 t), upI W.2.2 (lngW L W t) (arr L t))
def wN (L : LFn) (f : Int → Int) : Nat → S3
  | 0 => (0, fun _ => 0, fun _ => 0)
  | n + 1 => wStep L (wN L f n) (f n)
def byW (L : LFn) : Int := (wN L (actS L).2.2 (actS L).1.toNat).1
theorem wN_step (L : LFn) (f : Int → Int) {k : Int} (h : 0 ≤ k) : wN L f (k + 1).toNat = wStep L (wN L f k.toNat) (f k) := by
  rw [show (k + 1).toNat = k.toNat + 1 by omega]
  simp only [wN]
  rw [show ((k.toNat : Nat) : Int) = k by omega]
theorem wN_bd {L : LFn} (ht : WFt L) (hm : WFm L) {f : Int → Int} (n : Nat) (hf : ∀ x : Nat, x < n → 0 ≤ f x ∧ f x < L 6 4) : 0 ≤ (wN L f n).1 ∧ (wN L f n).1 ≤ n ∧ ∀ k, 0 ≤ k → k < (wN L f n).1 → (0 ≤ (wN L f n).2.1 k ∧ (wN L f n).2.1 k ≤ 11) ∧ 0 ≤ (wN L f n).2.2 k ∧ (wN L f n).2.2 k ≤ 1600 := by
  induction n with
  | zero => exact ⟨Int.le_refl _, Int.le_refl _, fun k h1 h2 => absurd h2 (by show ¬ k < 0; omega)⟩
  | succ n ih =>
    have ih := ih (fun x hx => hf x (by omega))
    have hft := hf n (by omega)
    have h7 := ht.2 _ hft.1 hft.2
    have ha := arr_bd hm ht hft.1 hft.2
    simp only [wN]
    unfold wStep
    have hb := best_bd (fun k => decide ((wN L f n).2.1 k = L 7 (f n) ∧ (wN L f n).2.2 k ≤ L 9 (f n) - L 5 0)) (wN L f n).2.2 ih.1
    have hl : lngW L (wN L f n) (f n) = -1 ∨ (0 ≤ lngW L (wN L f n) (f n) ∧ lngW L (wN L f n) (f n) < (wN L f n).1) := by
      rcases hb with q | q
      · exact Or.inl q
      · exact Or.inr ⟨q.1, q.2.1⟩
    split
    · refine ⟨by show 0 ≤ (wN L f n).1 + 1; omega, by show (wN L f n).1 + 1 ≤ ((n + 1 : Nat) : Int); omega, fun k h1 h2 => ?_⟩
      have h2' : k < (wN L f n).1 + 1 := h2
      show (0 ≤ upI _ _ _ k ∧ upI _ _ _ k ≤ 11) ∧ 0 ≤ upI _ _ _ k ∧ upI _ _ _ k ≤ 1600
      unfold upI
      by_cases hk : k = (wN L f n).1
      · rw [if_pos hk, if_pos hk]; omega
      · rw [if_neg hk, if_neg hk]; exact ih.2.2 k h1 (by omega)
    · refine ⟨ih.1, by show (wN L f n).1 ≤ ((n + 1 : Nat) : Int); omega, fun k h1 h2 => ?_⟩
      show (0 ≤ upI _ _ _ k ∧ upI _ _ _ k ≤ 11) ∧ 0 ≤ upI _ _ _ k ∧ upI _ _ _ k ≤ 1600
      unfold upI
      by_cases hk : k = lngW L (wN L f n) (f n)
      · rw [if_pos hk, if_pos hk]; omega
      · rw [if_neg hk, if_neg hk]; exact ih.2.2 k h1 h2
/-- in region 4 the trams W wait -/
def WtR (M : Mem) (W : S3) : Prop := M 4 0 0 4 = W.1 ∧ ∀ k, 0 ≤ k → k < W.1 → M 4 0 1 k = W.2.1 k ∧ M 4 0 2 k = W.2.2 k
section Pl
variable {G : GT} {K : List Value → Mem → Prop} {X : String → Mem → Prop} {M : Mem} {L : LFn} {i j q : Int}
theorem sp_longestWaiting {W : S3} (hW : WtR M W) (hn0 : 0 ≤ W.1) (hn1 : W.1 ≤ 30) (hb : ∀ k, 0 ≤ k → k < W.1 → (0 ≤ W.2.1 k ∧ W.2.1 k ≤ 11) ∧ 0 ≤ W.2.2 k ∧ W.2.2 k ≤ 1600) {s m : Int} (hs : I32 s) (hm : I32 m) (k : K [iv (best (fun k => decide (W.2.1 k = s ∧ W.2.2 k ≤ m)) W.2.2 W.1)] M) : Call G 0 0 zX6_longestWaiting [rr G 4 0 0, iv s, iv m] M K X := by
  obtain ⟨w1, w2⟩ := hW
  have h := loop_up (E := fun x => eX6_longestWaiting G K X 5 [(0, rr G 4 0 0), (1, iv s), (2, iv m), (3, iv (best (fun k => decide (W.2.1 k = s ∧ W.2.2 k ≤ m)) W.2.2 x)), (4, iv x)] [] M) hn0
    (bX6_longestWaiting_5 ⟨i32 (by omega), i32 (by omega), fun _ => k, fun z => absurd z (by omega)⟩)
    (fun x q1 q2 hn => by
      have e := w2 x q1 q2
      have hx := hb x q1 q2
      rw [best_step _ _ q1] at hn
      have hbb := best_bd (fun k => decide (W.2.1 k = s ∧ W.2.2 k ≤ m)) W.2.2 q1
      generalize best (fun k => decide (W.2.1 k = s ∧ W.2.2 k ≤ m)) W.2.2 x = b at hn hbb ⊢
      refine bX6_longestWaiting_5 ⟨i32 (by omega), i32 (by omega), fun z => absurd z (by omega), fun _ => ⟨fun z => absurd z (by omega), fun _ => ⟨q1, i32 (by omega), hs, fun z => ?_, fun z => ⟨i32 (by omega), hm, fun y => ?_, fun y => ⟨i32 (by omega), fun u => ?_, fun u => ?_⟩⟩⟩⟩⟩
      · rw [if_neg (by simp only [decide_eq_true_eq]; omega)] at hn
        exact hn
      · rw [if_neg (by simp only [decide_eq_true_eq]; omega)] at hn
        exact hn
      · rw [if_pos (by simp only [decide_eq_true_eq]; omega), if_pos u] at hn
        exact hn
      · have hb2 : 0 ≤ b ∧ b < x := by
          rcases hbb with v | v
          · exact absurd v u
          · exact ⟨v.1, v.2.1⟩
        have e2 := w2 b hb2.1 (by omega)
        have hx2 := hb b hb2.1 (by omega)
        rw [if_pos (by simp only [decide_eq_true_eq]; omega), if_neg u] at hn
        refine ⟨hb2.1, by omega, i32 (by omega), fun y2 => ?_, fun y2 => ?_⟩
        · rw [if_neg (by omega)] at hn
          exact hn
        · rw [if_pos (by omega)] at hn
          exact hn)
  rw [best_0] at h
  exact bX6_longestWaiting h
theorem sp_vehiclesByWaiting (hj0 : 0 ≤ j) (hj1 : j < 12) (hL : M 1 j = L) (ht : WFt L) (hm : WFm L) (k : ∀ M', (∀ a b, ¬ (a = 4 ∧ b = 0) → ¬ (a = 5 ∧ b = 1) → M' a b = M a b) → K [iv (byW L)] M') : Call G 2 0 zX6_vehiclesByWaiting [rr G 4 0 0, rr G 1 j 0] M K X := by
  have hsz := actS_size ht
  have hn := ht.1
  have hs := hm.2.2.2.2
  refine bX6_vehiclesByWaiting hj0 hj1 (sp_listActive hj0 hj1 (by omega) (by omega) (by rw [wr_rn (by omega), hL]; exact ht) (fun M1 f1 s1 => kV_mk ?_))
  rw [wr_rn (by omega), hL] at s1
  have gen := loop_up (E := fun x => 0 ≤ x → ∀ N : Mem, FrA 4 0 M1 N → WtR N (wN L (actS L).2.2 x.toNat) → eX6_vehiclesByWaiting G K X 18 [(0, rr G 4 0 0), (1, rr G 1 j 0), (2, iv x)] [] N) hsz.1 (fun _ N fN wN9 => by
    have e5 : N 5 1 = M1 5 1 := fN 5 1 (by omega)
    refine bX6_vehiclesByWaiting_18 hj0 hj1 ?_
    rw [e5, s1.1.2.2]
    refine ⟨i32 (by omega), i32 (by omega), fun _ => ?_, fun z => absurd z (by omega)⟩
    rw [wN9.1]
    exact k N (fun a b n4 n5 => (fN a b n4).trans ((f1.ne (by by_cases ha : a = 5; exact Or.inr (fun z => n5 ⟨ha, z⟩); exact Or.inl ha)).trans (wr_rn n4)))) (fun x q1 q2 hn9 _ N fN wN9 => by
    have e5 : N 5 1 = M1 5 1 := fN 5 1 (by omega)
    have e1 : N 1 j = L := (fN 1 j (by omega)).trans ((f1.ne (Or.inl (by decide))).trans ((wr_rn (by omega)).trans hL))
    have hx := actS_ok ht q1 q2
    have es := s1.2 x q1 q2
    have hbd := wN_bd ht hm (f := (actS L).2.2) x.toNat (fun y hy => by have := actS_ok ht (k := (y : Int)) (by omega) (by omega); exact ⟨this.1, this.2.1⟩)
    have h7 := ht.2 _ hx.1 hx.2.1
    have ha := arr_bd hm ht hx.1 hx.2.1
    rw [wN_step _ _ q1] at hn9
    generalize hW : wN L (actS L).2.2 x.toNat = W at hn9 hbd wN9
    generalize htt : (actS L).2.2 x = t at hx es h7 ha hn9
    have hlb : lngW L W t = -1 ∨ (0 ≤ lngW L W t ∧ lngW L W t < W.1) := by
      rcases best_bd (fun k => decide (W.2.1 k = L 7 t ∧ W.2.2 k ≤ L 9 t - L 5 0)) W.2.2 hbd.1 with w | w
      · exact Or.inl w
      · exact Or.inr ⟨w.1, w.2.1⟩
    refine bX6_vehiclesByWaiting_18 hj0 hj1 ?_
    rw [e5, e1, s1.1.2.2, es.2]
    refine ⟨i32 (by omega), i32 (by omega), fun z => absurd q2 z, fun _ => ⟨q1, by omega, hx.1, by omega, sp_longestWaiting wN9 hbd.1 (by omega) hbd.2.2 (i32 (by omega)) (i32 (by omega)) (kI_mk (x := lngW L W t) ?_)⟩⟩
    rw [e1, wN9.1]
    refine ⟨i32 (by omega), fun z => ⟨fun y => absurd y (by omega), fun _ => ⟨by omega, ?_⟩⟩, fun z => ⟨i32 (by omega), fun y => absurd y (by omega), fun _ => ⟨by omega, by omega, fun M45 e45 => ?_⟩⟩⟩
    · refine sp_arrivalOf hj0 hj1 (by rw [wr_rn (by omega), e1]; exact ht) hx.1 (by rw [wr_rn (by omega), e1]; exact hx.2.1) (kI_mk ?_)
      rw [wr_rn (by omega), e1]
      refine hn9 (by omega) _ ((fN.wr _ _ _).wr _ _ _) ?_
      unfold wStep
      rw [if_neg z]
      refine ⟨?_, fun k h0 h1 => ?_⟩
      · rw [wr_nc (by omega), wr_nc (by omega)]; exact wN9.1
      · have := wN9.2 k h0 h1
        show _ = upI _ _ _ k ∧ _ = upI _ _ _ k
        rw [wr_nc (c' := 1) (by omega)]
        unfold upI
        by_cases hk : k = lngW L W t
        · rw [if_pos hk, if_pos hk, hk, wr_at, wr_at]
          exact ⟨rfl, rfl⟩
        · rw [if_neg hk, if_neg hk, wr_nk hk, wr_nk hk, wr_nc (by omega)]
          exact this
    · have e45' : M45 1 j = L := by rw [e45, wr_rn (by omega), wr_rn (by omega), e1]
      refine sp_arrivalOf hj0 hj1 (by rw [e45']; exact ht) hx.1 (by rw [e45']; exact hx.2.1) (kI_mk ?_)
      rw [e45']
      refine hn9 (by omega) _ ?_ ?_
      · rw [e45]; exact ((fN.wr _ _ _).wr _ _ _).wr _ _ _
      · unfold wStep
        rw [if_pos z, e45]
        refine ⟨?_, fun k h0 h1 => ?_⟩
        · rw [wr_nc (by omega), wr_nc (by omega), wr_at]
        · have h1' : k < W.1 + 1 := h1
          show _ = upI _ _ _ k ∧ _ = upI _ _ _ k
          rw [wr_nc (c' := 1) (by omega)]
          unfold upI
          by_cases hk : k = W.1
          · rw [if_pos hk, if_pos hk, hk, wr_at, wr_at]
            exact ⟨rfl, rfl⟩
          · have := wN9.2 k h0 (by omega)
            rw [if_neg hk, if_neg hk, wr_nk hk, wr_nk hk, wr_nc (by omega), wr_nc (by omega), wr_nc (by omega)]
            exact this)
  refine gen (Int.le_refl _) M1 FrA.rf ⟨?_, fun k h0 h1 => absurd h1 (by show ¬ k < 0; omega)⟩
  rw [f1.ne (Or.inl (by decide)), wr_at]
  rfl
end Pl
