/-! ===== the reference's whole run, and what is read of it ===== -/
theorem Beg.rd0 {L D : LFn} (h : Beg L D) : (∀ t s, 0 ≤ t → t < 30 → 0 ≤ s → s < 12 → D (2 + t) s = -1 ∧ D (33 + t) s = -1) := h.1
section Mx
variable {G : GT} {K : List Value → Mem → Prop} {X : String → Mem → Prop} {M : Mem} {L D : LFn}
theorem m_runs (hR : RG (M 8 0 1) L) (ht : WFt L) (hv : WFv L) (hm : WFm L) (hb : WFb L) {D0 : LFn} (hB : Beg L D0) (k : ∀ M', FrX PR M M' → RDp (M' 8 0) L (endD L D0) → K [] M') : Call G 4 0 zX12_runs [rr G 8 0 0] M K X := by
  have hn := hv.1
  obtain ⟨b1, b2, b3, b4, b5, b6⟩ := hB
  have hI0 : DI L D0 := Beg.di ⟨b1, b2, b3, b4, b5, b6⟩ hv ht
  -- the loop of the run
  have run : ∀ n : Nat, ∀ N : Mem, ∀ D : LFn, FrX PR M N → DI L D → muT L D ≤ n → endD L D = endD L D0 → RDp (N 8 0) L D → eX12_runs G K X 117 [(0, rr G 8 0 0), (1, iv (nextD L D))] [] N := by
    intro n
    induction n with
    | zero =>
      intro N D fN dI dm de dR
      have hno : nextD L D = -1 := Classical.byContradiction fun w => by
        have hx := next_ok dI hv.1 w
        have := look_ok hv ht hm hb dI hx.1 hx.2.1 hx.2.2
        have := (mu_bd this.1 hv.1).1
        omega
      rw [hno]
      refine bX12_runs_117 ⟨i32 (by omega), fun _ => k N fN ?_, fun z => absurd (show (-1 : Int) < 0 by omega) z⟩
      rw [← de, end_none hno]
      exact dR
    | succ n ih =>
      intro N D fN dI dm de dR
      by_cases z : nextD L D = -1
      · rw [z]
        refine bX12_runs_117 ⟨i32 (by omega), fun _ => k N fN ?_, fun z => absurd (show (-1 : Int) < 0 by omega) z⟩
        rw [← de, end_none z]
        exact dR
      · have hx := next_ok dI hv.1 z
        have hl := look_ok hv ht hm hb dI hx.1 hx.2.1 hx.2.2
        have hRN : RG (N 8 0 1) L := by rw [fN.g]; exact hR
        refine bX12_runs_117 ⟨i32 (by omega), fun y => absurd y (by omega), fun _ => m_looks hRN ht hv hm hb dI dR hx.1 hx.2.1 hx.2.2 (fun M' f' r' => kV_mk ?_)⟩
        have f2 := fN.tr f'
        refine m_earliest (by rw [f2.g]; exact hR) hv ht hl.1 r' (kI_mk (ih M' _ f2 hl.1 (by omega) ?_ r'))
        rw [← de]
        exact (end_next hv ht hm hb dI z).symm
  -- the vehicles begin
  have veh : ∀ N : Mem, FrX PR M N → (∀ x, 0 ≤ x → x < 24 → N 8 0 11 x = -1) → (∀ x, 0 ≤ x → x < 360 → N 8 0 12 x = -1 ∧ N 8 0 13 x = -1) → N 8 0 0 18 = 0 → N 8 0 0 19 = 0 → N 8 0 0 20 = 0 → eX12_runs G K X 67 [(0, rr G 8 0 0), (1, iv 0)] [] N := by
    intro N fN n1 n2 n3 n4 n5
    have gen := loop_up (E := fun v => 0 ≤ v → ∀ N' : Mem, FrX PR M N' → (∀ c, c = 11 ∨ c = 12 ∨ c = 13 ∨ c = 0 → N' 8 0 c = N 8 0 c) → (∀ w, 0 ≤ w → w < v → (N' 8 0 8 w = -1 ∧ D0 66 w = -1) ∨ (D0 66 w ≠ -1 ∧ N' 8 0 8 w = D0 67 w ∧ N' 8 0 9 w = D0 68 w ∧ N' 8 0 10 w = D0 69 w)) → eX12_runs G K X 67 [(0, rr G 8 0 0), (1, iv v)] [] N') hn.1 (fun _ N' f' o' r' => by
      have hRN : RG (N' 8 0 1) L := by rw [f'.g]; exact hR
      have rd : RDp (N' 8 0) L D0 := by
        refine ⟨r', fun d s q0 q1 q2 q3 => ?_, fun t s q0 q1 q2 q3 => ?_, ?_, ?_, ?_⟩
        · left
          rw [o' 11 (by omega)]
          exact ⟨n1 _ (by omega) (by omega), b2 d s q0 q1 q2 q3⟩
        · rw [o' 12 (by omega), o' 13 (by omega), (b1 t s q0 q1 q2 q3).1, (b1 t s q0 q1 q2 q3).2]
          exact n2 _ (by omega) (by omega)
        · rw [o' 0 (by omega), n3, b3]
        · rw [o' 0 (by omega), n4, b4]
        · rw [o' 0 (by omega), n5, b5]
      refine bX12_runs_67 ?_
      rw [hRN.2.2.2.2.2.1]
      have hmu := mu_bd hI0 hv.1
      exact ⟨i32 (by omega), i32 (by omega), fun _ => m_earliest hRN hv ht hI0 rd (kI_mk (run (muT L D0).toNat N' D0 f' hI0 (by omega) rfl rd)), fun z => absurd z (by omega)⟩) (fun v q1 q2 hn9 _ N' f' o' r' => by
      have hRN : RG (N' 8 0 1) L := by rw [f'.g]; exact hR
      have hl := (hv.2 v q1 q2).2.2
      have f2 : FrX PR M (wr N' 8 0 8 v (-1)) := f'.wr (Or.inl (by omega)) _
      refine bX12_runs_67 ?_
      rw [hRN.2.2.2.2.2.1, (hRN.2.2.2.2.2.2.1 v q1 q2).2.1]
      refine ⟨i32 (by omega), i32 (by omega), fun z => absurd q2 z, fun _ => ⟨q1, by omega, by omega, by omega, i32 (by omega), fun z => hn9 (by omega) _ f2 (fun c hc => ?_) (fun w w0 w1 => ?_), fun z => m_startsTrip (by rw [f2.g]; exact hR) ht hv q1 q2 (by omega) z (i32 (by omega)) (fun M' f3 e3 => kV_mk (hn9 (by omega) M' (f2.tr f3) (fun c hc => ?_) (fun w w0 w1 => ?_)))⟩⟩
      · rw [wr_nc (by omega)]; exact o' c hc
      · by_cases hw : w = v
        · left
          subst hw
          rw [wr_at]
          rcases b6 w q1 q2 with q | q
          · exact absurd q.1 z
          · exact ⟨rfl, q.2⟩
        · rw [wr_nk hw, wr_nc (c' := 9) (by omega), wr_nc (c' := 10) (by omega)]
          exact r' w w0 (by omega)
      · rw [e3]
        unfold stE
        rw [up1_nc (by omega), up1_nc (by omega), up1_nc (by omega), wr_nc (by omega)]
        exact o' c hc
      · rw [e3]
        unfold stE
        rw [up1_nc (c := 10) (c' := 8) (by omega), up1_nc (c := 9) (c' := 8) (by omega), up1_nc (c := 10) (c' := 9) (by omega)]
        by_cases hw : w = v
        · right
          subst hw
          rw [up1_at, up1_at, up1_at]
          rcases b6 w q1 q2 with q | q
          · have hd := (hv.2 w q1 q2).2.2.2.2 0 (by omega) z
            have h9 := ht.2 _ hd.1 hd.2
            exact ⟨by omega, by omega, by omega, by omega⟩
          · exact absurd z q.1
        · rw [up1_nk hw, up1_nk hw, up1_nk hw, up1_nc (c' := 9) (by omega), up1_nc (c' := 10) (by omega), up1_nc (c' := 10) (by omega), wr_nk hw, wr_nc (c' := 9) (by omega), wr_nc (c' := 10) (by omega)]
          exact r' w w0 (by omega))
    exact gen (Int.le_refl _) N fN (fun _ _ => rfl) (fun w _ _ => by omega)
  -- the rows are emptied
  have row2 : ∀ N : Mem, FrX PR M N → (∀ x, 0 ≤ x → x < 24 → N 8 0 11 x = -1) → eX12_runs G K X 23 [(0, rr G 8 0 0), (1, iv 0)] [] N := by
    intro N fN n1
    have gen := loop_up (E := fun x => 0 ≤ x → ∀ N' : Mem, FrX PR M N' → N' 8 0 11 = N 8 0 11 → (∀ y, 0 ≤ y → y < x → N' 8 0 12 y = -1 ∧ N' 8 0 13 y = -1) → eX12_runs G K X 23 [(0, rr G 8 0 0), (1, iv x)] [] N') (a := 0) (b := 360) (by omega) (fun _ N' f' o' r' => by
      refine bX12_runs_23 ⟨i32 (by omega), fun _ => veh _ (((f'.wr (Or.inr (by omega)) _).wr (Or.inr (by omega)) _).wr (Or.inr (by omega)) _) (fun x x0 x1 => ?_) (fun x x0 x1 => ?_) ?_ ?_ (wr_at _ _ _ _ _ _), fun z => absurd z (by omega)⟩
      · rw [wr_nc (by omega), wr_nc (by omega), wr_nc (by omega), o']; exact n1 x x0 x1
      · rw [wr_nc (c' := 12) (by omega), wr_nc (c' := 12) (by omega), wr_nc (c' := 12) (by omega), wr_nc (c' := 13) (by omega), wr_nc (c' := 13) (by omega), wr_nc (c' := 13) (by omega)]; exact r' x x0 x1
      · rw [wr_nk (by omega), wr_nk (by omega), wr_at]
      · rw [wr_nk (by omega), wr_at]) (fun x q1 q2 hn9 _ N' f' o' r' => by
      refine bX12_runs_23 ⟨i32 (by omega), fun z => absurd q2 z, fun _ => ⟨q1, hn9 (by omega) _ ((f'.wr (Or.inl (by omega)) _).wr (Or.inl (by omega)) _) ?_ (fun y y0 y1 => ?_)⟩⟩
      · rw [wr_nc (by omega), wr_nc (by omega)]; exact o'
      · rw [wr_nc (c' := 12) (by omega)]
        by_cases hy : y = x
        · rw [hy, wr_at, wr_at]; exact ⟨rfl, rfl⟩
        · rw [wr_nk hy, wr_nk hy, wr_nc (c' := 13) (by omega)]; exact r' y y0 (by omega))
    exact gen (Int.le_refl _) N fN rfl (fun y _ _ => by omega)
  have gen := loop_up (E := fun x => 0 ≤ x → ∀ N' : Mem, FrX PR M N' → (∀ y, 0 ≤ y → y < x → N' 8 0 11 y = -1) → eX12_runs G K X 2 [(0, rr G 8 0 0), (1, iv x)] [] N') (a := 0) (b := 24) (by omega) (fun _ N' f' r' => by
    exact bX12_runs_2 ⟨i32 (by omega), fun _ => row2 N' f' r', fun z => absurd z (by omega)⟩) (fun x q1 q2 hn9 _ N' f' r' => by
    refine bX12_runs_2 ⟨i32 (by omega), fun z => absurd q2 z, fun _ => ⟨q1, hn9 (by omega) _ (f'.wr (Or.inl (by omega)) _) (fun y y0 y1 => ?_)⟩⟩
    by_cases hy : y = x
    · rw [hy, wr_at]
    · rw [wr_nk hy]; exact r' y y0 (by omega))
  exact bX12_runs (gen (Int.le_refl _) M FrX.rf (fun y _ _ => by omega))
theorem m_hasArrived (hR : RG (M 8 0 1) L) (ht : WFt L) (hI : DI L D) (hE : RDp (M 8 0) L D) {t : Int} (h0 : 0 ≤ t) (h1 : t < L 6 4) (k : K [iv (b2i (arrD L D t ≠ -1))] M) : Call G 1 0 zX12_hasArrived [rr G 8 0 0, iv t] M K X := by
  have h := ht.2 t h0 h1
  have hn := ht.1
  have hb := arrD_bd hI ht h0 h1
  have e := (hE.2.2.1 t (L 8 t) h0 (by omega) (by omega) (by omega)).1
  have e' : M 8 0 12 (12 * t + L 8 t) = arrD L D t := e
  refine bX12_hasArrived (m_last hR ht h0 h1 (kI_mk ?_))
  rw [e']
  refine ⟨by omega, by omega, i32 (by omega), fun z => ?_, fun z => ?_⟩
  · rw [b2i_f (by omega)] at k; exact k
  · rw [b2i_t (by omega)] at k; exact k
theorem m_delayOf (hR : RG (M 8 0 1) L) (ht : WFt L) (hE : RDp (M 8 0) L D) {t : Int} (h0 : 0 ≤ t) (h1 : t < L 6 4) (k : K [iv (dlyD L D t)] M) : Call G 2 0 zX12_delayOf [rr G 8 0 0, iv t] M K X := by
  have h := ht.2 t h0 h1
  have hn := ht.1
  have e : M 8 0 12 (12 * t + L 8 t) = arrD L D t := (hE.2.2.1 t (L 8 t) h0 (by omega) (by omega) (by omega)).1
  refine bX12_delayOf (m_last hR ht h0 h1 (kI_mk ⟨by omega, by omega, m_arrives hR ht h0 h1 (kI_mk ?_)⟩))
  rw [e]
  exact k
end Mx
