/-! ===== the class's run ===== -/
/-- how the run begins -/
def Beg (L D : LFn) : Prop :=
  (∀ t s, 0 ≤ t → t < 30 → 0 ≤ s → s < 12 → D (2 + t) s = -1 ∧ D (33 + t) s = -1) ∧ (∀ d s, 0 ≤ d → d < 2 → 0 ≤ s → s < 12 → D (64 + d) s = -1000) ∧ D 0 2 = 0 ∧ D 0 3 = 0 ∧ D 0 4 = 0 ∧
  ∀ v, 0 ≤ v → v < L 11 3 → (0 < L 13 v ∧ D 67 v = 0 ∧ D 66 v = L (15 + v) 0 ∧ D 68 v = L 7 (L (15 + v) 0) ∧ D 69 v = L 9 (L (15 + v) 0)) ∨ (¬ 0 < L 13 v ∧ D 66 v = -1)
theorem Beg.di {L D : LFn} (h : Beg L D) (hv : WFv L) (ht : WFt L) : DI L D := by
  obtain ⟨b1, b2, -, -, -, b6⟩ := h
  refine ⟨fun v v0 v1 => ?_, fun d s q0 q1 q2 q3 => by rw [b2 d s q0 q1 q2 q3]; omega, fun t s q0 q1 q2 q3 => by rw [(b1 t s q0 q1 q2 q3).1, (b1 t s q0 q1 q2 q3).2]; omega⟩
  rcases b6 v v0 v1 with ⟨c1, c2, c3, c4, c5⟩ | ⟨-, c⟩
  · right
    have hd := (hv.2 v v0 v1).2.2.2.2 0 (by omega) c1
    have h7 := ht.2 _ hd.1 hd.2
    unfold onTr
    rw [c2, c3, c4, c5]
    exact ⟨by omega, c1, rfl, ⟨by omega, by omega⟩, by omega, by omega, by omega⟩
  · exact Or.inl c
section Dp
variable {G : GT} {K : List Value → Mem → Prop} {X : String → Mem → Prop} {M : Mem} {L : LFn} {j : Int}
theorem sp_begin (hL : M 1 11 = L) (hv : WFv L) (ht : WFt L) (k : ∀ M', FrA 3 0 M M' → Beg L (M' 3 0) → K [] M') : Call G 2 0 zX1_begin [rr G 3 0 0] M K X := by
  have hn := hv.1
  -- the vehicles
  have l3 : ∀ N : Mem, FrA 3 0 M N → (∀ t s, 0 ≤ t → t < 30 → 0 ≤ s → s < 12 → N 3 0 (2 + t) s = -1 ∧ N 3 0 (33 + t) s = -1) → (∀ d s, 0 ≤ d → d < 2 → 0 ≤ s → s < 12 → N 3 0 (64 + d) s = -1000) → N 3 0 0 2 = 0 → N 3 0 0 3 = 0 → N 3 0 0 4 = 0 → eX1_begin G K X 76 [(0, rr G 3 0 0), (1, iv 0)] [] N := by
    intro N fN n1 n2 n3 n4 n5
    have gen := loop_up (E := fun v => 0 ≤ v → ∀ N' : Mem, FrA 3 0 M N' → (∀ c k, (c ≠ 66 ∧ c ≠ 67 ∧ c ≠ 68 ∧ c ≠ 69) → N' 3 0 c k = N 3 0 c k) → (∀ w, 0 ≤ w → w < v → (0 < L 13 w ∧ N' 3 0 67 w = 0 ∧ N' 3 0 66 w = L (15 + w) 0 ∧ N' 3 0 68 w = L 7 (L (15 + w) 0) ∧ N' 3 0 69 w = L 9 (L (15 + w) 0)) ∨ (¬ 0 < L 13 w ∧ N' 3 0 66 w = -1)) → eX1_begin G K X 76 [(0, rr G 3 0 0), (1, iv v)] [] N') hn.1 (fun _ N' f' o' b' => by
      have e1 : N' 1 11 = L := by rw [f' 1 11 (by omega), hL]
      refine bX1_begin_76 ?_
      rw [e1]
      refine ⟨i32 (by omega), i32 (by omega), fun _ => k N' f' ⟨fun t s q0 q1 q2 q3 => ?_, fun d s q0 q1 q2 q3 => ?_, ?_, ?_, ?_, b'⟩, fun z => absurd z (by omega)⟩
      · rw [o' _ _ (by omega), o' _ _ (by omega)]; exact n1 t s q0 q1 q2 q3
      · rw [o' _ _ (by omega)]; exact n2 d s q0 q1 q2 q3
      · rw [o' _ _ (by omega)]; exact n3
      · rw [o' _ _ (by omega)]; exact n4
      · rw [o' _ _ (by omega)]; exact n5) (fun v q1 q2 hn9 _ N' f' o' b' => by
      have e1 : N' 1 11 = L := by rw [f' 1 11 (by omega), hL]
      refine bX1_begin_76 ?_
      rw [e1]
      refine ⟨i32 (by omega), i32 (by omega), fun z => absurd q2 z, fun _ => sp_beginTrip e1 rfl hv ht q1 q2 (by omega) (by omega) (i32 (by omega)) (fun M2 f2 e2 => kV_mk (hn9 (by omega) M2 (f'.tr f2) (fun c k hc => ?_) (fun w w0 w1 => ?_)))⟩
      · rw [e2, begT_other (Or.inr hc)]; exact o' c k hc
      · by_cases hw : w = v
        · subst hw
          by_cases hz : 0 < L 13 w
          · left
            have hd := (hv.2 w q1 q2).2.2.2.2 0 (by omega) hz
            have h7 := ht.2 _ hd.1 hd.2
            rw [e2]
            unfold begT
            rw [if_pos hz]
            refine ⟨hz, ?_, ?_, ?_, ?_⟩
            · rw [up1_nc (by omega), up1_nc (by omega), up1_nc (by omega), up1_at]
            · rw [up1_nc (by omega), up1_nc (by omega), up1_at]
            · rw [up1_nc (by omega), up1_at]
            · rw [up1_at]; omega
          · right
            refine ⟨hz, ?_⟩
            rw [e2]
            unfold begT
            rw [if_neg hz, up1_at]
        · rw [e2, begT_other (Or.inl hw), begT_other (Or.inl hw), begT_other (Or.inl hw), begT_other (Or.inl hw)]
          exact b' w w0 (by omega))
    exact gen (Int.le_refl _) N fN (fun _ _ _ => rfl) (fun w _ _ => by omega)
  -- the directions
  have l2 : ∀ N : Mem, FrA 3 0 M N → (∀ t s, 0 ≤ t → t < 30 → 0 ≤ s → s < 12 → N 3 0 (2 + t) s = -1 ∧ N 3 0 (33 + t) s = -1) → eX1_begin G K X 36 [(0, rr G 3 0 0), (1, iv 0)] [] N := by
    intro N fN n1
    have gen := loop_up (E := fun d => 0 ≤ d → ∀ N' : Mem, FrA 3 0 M N' → (∀ t s, 0 ≤ t → t < 30 → 0 ≤ s → s < 12 → N' 3 0 (2 + t) s = -1 ∧ N' 3 0 (33 + t) s = -1) → (∀ e s, 0 ≤ e → e < d → 0 ≤ s → s < 12 → N' 3 0 (64 + e) s = -1000) → eX1_begin G K X 36 [(0, rr G 3 0 0), (1, iv d)] [] N') (a := 0) (b := 2) (by omega) (fun _ N' f' o' b' => by
      refine bX1_begin_36 ⟨i32 (by omega), fun _ => l3 _ (((f'.wr _ _ _).wr _ _ _).wr _ _ _) (fun t s q0 q1 q2 q3 => ?_) (fun d s q0 q1 q2 q3 => ?_) ?_ ?_ ?_, fun z => absurd z (by omega)⟩
      · simp only [wr_reg]
        rw [up1_nc (c' := 2 + t) (by omega), up1_nc (c' := 2 + t) (by omega), up1_nc (c' := 2 + t) (by omega), up1_nc (c' := 33 + t) (by omega), up1_nc (c' := 33 + t) (by omega), up1_nc (c' := 33 + t) (by omega)]
        exact o' t s q0 q1 q2 q3
      · simp only [wr_reg]
        rw [up1_nc (by omega), up1_nc (by omega), up1_nc (by omega)]
        exact b' d s q0 q1 q2 q3
      · simp only [wr_reg]
        rw [up1_nk (by omega), up1_nk (by omega), up1_at]
      · simp only [wr_reg]
        rw [up1_nk (by omega), up1_at]
      · simp only [wr_reg]
        rw [up1_at]) (fun d q1 q2 hn9 _ N' f' o' b' => by
      refine bX1_begin_36 ⟨i32 (by omega), fun z => absurd q2 z, fun _ => ⟨q1, sp_fill (n := 12) (dom3 (by omega) (by omega)) (row3_64 q1 q2) (by decide) (kV_mk (hn9 (by omega) _ (f'.row _ _) (fun t s p0 p1 p2 p3 => ?_) (fun e s p0 p1 p2 p3 => ?_)))⟩⟩
      · rw [wrow_nc (c' := 2 + t) (by omega), wrow_nc (c' := 33 + t) (by omega)]
        exact o' t s p0 p1 p2 p3
      · by_cases he : e = d
        · subst he
          rw [wrow_at]
          exact if_pos ⟨p2, by omega⟩
        · rw [wrow_nc (by omega)]
          exact b' e s p0 (by omega) p2 p3)
    exact gen (Int.le_refl _) N fN n1 (fun e _ _ _ => by omega)
  have gen := loop_up (E := fun x => 0 ≤ x → ∀ N' : Mem, FrA 3 0 M N' → (∀ t s, 0 ≤ t → t < x → 0 ≤ s → s < 12 → N' 3 0 (2 + t) s = -1 ∧ N' 3 0 (33 + t) s = -1) → eX1_begin G K X 2 [(0, rr G 3 0 0), (1, iv x)] [] N') (a := 0) (b := 30) (by omega) (fun _ N' f' b' => by
    exact bX1_begin_2 ⟨i32 (by omega), fun _ => l2 N' f' b', fun z => absurd z (by omega)⟩) (fun x q1 q2 hn9 _ N' f' b' => by
    refine bX1_begin_2 ⟨i32 (by omega), fun z => absurd q2 z, fun _ => ⟨q1, sp_fill (n := 12) (dom3 (by omega) (by omega)) (row3_2 q1 q2) (by decide) (kV_mk (sp_fill (n := 12) (dom3 (by omega) (by omega)) (row3_33 q1 q2) (by decide) (kV_mk (hn9 (by omega) _ ((f'.row _ _).row _ _) (fun t s p0 p1 p2 p3 => ?_)))))⟩⟩
    by_cases ht9 : t = x
    · subst ht9
      refine ⟨?_, ?_⟩
      · rw [wrow_nc (by omega), wrow_at]
        exact if_pos ⟨p2, by omega⟩
      · rw [wrow_at]
        exact if_pos ⟨p2, by omega⟩
    · rw [wrow_nc (c' := 2 + t) (by omega), wrow_nc (c' := 2 + t) (by omega), wrow_nc (c' := 33 + t) (by omega), wrow_nc (c' := 33 + t) (by omega)]
      exact b' t s p0 (by omega) p2 p3)
  exact bX1_begin (gen (Int.le_refl _) M FrA.rf (fun t _ _ _ => by omega))
/-- after a run: the day's line is the line, and its state that of the run's end -/
theorem sp_pass (hj0 : 0 ≤ j) (hj1 : j < 11) (hz : BZ (M 1 j)) (hg : ∀ N, LEq N (M 1 j) → WFv N ∧ WFt N ∧ WFm N ∧ WFb N)
    (k : ∀ M' D0, (∀ a b, ¬ (a = 1 ∧ b = 11) → ¬ (a = 3 ∧ b = 0) → M' a b = M a b) → LEq (M' 1 11) (M 1 j) → Beg (M' 1 11) D0 → M' 3 0 = endD (M' 1 11) D0 → K [] M') : Call G 4 0 zX1_pass [rr G 3 0 0, rr G 1 j 0] M K X := by
  refine bX1_pass hj0 (by omega) (sp_lineCopy (by omega) (by omega) hj0 (by omega) (by omega) hz.1 hz.2 (fun M1 f1 l1 => kV_mk ?_))
  obtain ⟨hv, ht, hm, hb⟩ := hg _ l1
  refine sp_begin (L := M1 1 11) rfl hv ht (fun M2 f2 b2 => kV_mk ?_)
  have gen : ∀ n : Nat, ∀ q : Int, ∀ N : Mem, 0 ≤ q → q + n ≤ 40000 → FrA 3 0 M1 N → DI (M1 1 11) (N 3 0) → muT (M1 1 11) (N 3 0) ≤ n → endD (M1 1 11) (N 3 0) = endD (M1 1 11) (M2 3 0) → eX1_pass G K X 14 [(0, rr G 3 0 0), (2, iv q)] [] N := by
    intro n
    induction n with
    | zero =>
      intro q N q0 q1 fN dN mN eN
      have e1 : N 1 11 = M1 1 11 := fN 1 11 (by omega)
      have hno : nextD (M1 1 11) (N 3 0) = -1 := Classical.byContradiction fun w => by
        have hx := next_ok dN hv.1 w
        have := look_ok hv ht hm hb dN hx.1 hx.2.1 hx.2.2
        have := (mu_bd this.1 hv.1).1
        omega
      refine bX1_pass_14 hj0 (by omega) ⟨i32 (by omega), fun z => absurd z (by omega), fun _ => sp_nextVehicle e1 rfl hv ht dN (kI_mk ⟨by rw [hno]; exact i32 (by omega), fun z => absurd hno z, fun _ => ?_⟩)⟩
      refine k N (M2 3 0) (fun a b n1 n3 => (fN a b n3).trans (FrL.ne f1 (by by_cases ha : a = 1; exact Or.inr (fun z => n1 ⟨ha, z⟩); exact Or.inl ha))) (by rw [e1]; exact l1) (by rw [e1]; exact b2) ?_
      rw [e1, ← eN, end_none hno]
    | succ n ih =>
      intro q N q0 q1 fN dN mN eN
      have e1 : N 1 11 = M1 1 11 := fN 1 11 (by omega)
      have hbd : -1 ≤ nextD (M1 1 11) (N 3 0) ∧ nextD (M1 1 11) (N 3 0) ≤ 10 := by
        have hn := hv.1
        rcases nxt_bd (N 3 0) (M1 1 11 11 3).toNat with w | w <;> unfold nextD <;> omega
      refine bX1_pass_14 hj0 (by omega) ⟨i32 (by omega), fun z => absurd z (by omega), fun _ => sp_nextVehicle e1 rfl hv ht dN (kI_mk ⟨i32 (by omega), fun z => ?_, fun z => ?_⟩)⟩
      · have hx := next_ok dN hv.1 z
        have hl := look_ok hv ht hm hb dN hx.1 hx.2.1 hx.2.2
        refine sp_lookAt e1 rfl hv ht hm hb dN hx.1 hx.2.1 hx.2.2 (fun M3 f3 e3 => kV_mk (ih (q + 1) M3 (by omega) (by omega) (fN.tr f3) (by rw [e3]; exact hl.1) (by rw [e3]; omega) ?_))
        rw [e3, ← eN]
        exact (end_next hv ht hm hb dN z).symm
      · refine k N (M2 3 0) (fun a b n1 n3 => (fN a b n3).trans (FrL.ne f1 (by by_cases ha : a = 1; exact Or.inr (fun z => n1 ⟨ha, z⟩); exact Or.inl ha))) (by rw [e1]; exact l1) (by rw [e1]; exact b2) ?_
        rw [e1, ← eN, end_none z]
  have hI := b2.di hv ht
  have hmu := mu_bd hI hv.1
  exact gen 31010 0 M2 (by omega) (by omega) f2 hI (by omega) rfl
end Dp
