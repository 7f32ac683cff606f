/-! ===== the reference's waiting trams ===== -/
def WtM (M : Mem) (W : S3) : Prop := ∀ k, 0 ≤ k → k < W.1 → M 8 0 16 k = W.2.1 k ∧ M 8 0 17 k = W.2.2 k
abbrev PW (c _k : Int) : Prop := c = 16 ∨ c = 17
theorem fw16 {M M' : Mem} (h : FrX PW M M') (k v : Int) : FrX PW M (wr M' 8 0 16 k v) := FrX.wr h (show PW 16 k from Or.inl rfl) v
theorem fw17 {M M' : Mem} (h : FrX PW M M') (k v : Int) : FrX PW M (wr M' 8 0 17 k v) := FrX.wr h (show PW 17 k from Or.inr rfl) v
theorem fwg {M M' : Mem} (h : FrX PW M M') {c : Int} (hc : c ≠ 16 ∧ c ≠ 17) : M' 8 0 c = M 8 0 c := h.row (fun k => by show ¬ (_ ∨ _); omega)
section Mu
variable {G : GT} {K : List Value → Mem → Prop} {X : String → Mem → Prop} {M : Mem} {L : LFn}
theorem m_byWaiting (hR : RG (M 8 0 1) L) (ht : WFt L) (hm : WFm L) (k : ∀ M1 M', FrC M M1 → FrX PW M1 M' → K [iv (byW L)] M') : Call G 2 0 zX12_byWaiting [rr G 8 0 0] M K X := by
  have hsz := actS_size ht
  have hn := ht.1
  have hs := hm.2.2.2.2
  refine bX12_byWaiting (m_orders hR ht (fun M1 f1 s1 => kV_mk ?_))
  have hR1 := RG_C f1 hR
  have gen := loop_up (E := fun x => 0 ≤ x → ∀ N : Mem, FrX PW M1 N → WtM N (wN L (actS L).2.2 x.toNat) → eX12_byWaiting G K X 8 [(0, rr G 8 0 0), (1, iv (wN L (actS L).2.2 x.toNat).1), (2, iv x)] [] N) hsz.1 (fun _ N fN wN9 => by
    refine bX12_byWaiting_8 ?_
    rw [fwg fN (by omega), s1.1.2.2]
    exact ⟨i32 (by omega), i32 (by omega), fun _ => k M1 N f1 fN, fun z => absurd z (by omega)⟩) (fun x q1 q2 hn9 _ N fN wN9 => by
    have hx := actS_ok ht q1 q2
    have es := s1.2 x q1 q2
    have hbd := wN_bd ht hm (f := (actS L).2.2) x.toNat (fun y hy => by have := actS_ok ht (k := (y : Int)) (by omega) (by omega); exact ⟨this.1, this.2.1⟩)
    have h7 := ht.2 _ hx.1 hx.2.1
    have ha := arr_bd hm ht hx.1 hx.2.1
    have hRN : RG (N 8 0 1) L := by rw [fwg fN (by omega)]; exact hR1
    rw [wN_step _ _ q1] at hn9
    generalize hW : wN L (actS L).2.2 x.toNat = W at hn9 hbd wN9
    generalize htt : (actS L).2.2 x = t at hx es h7 ha hn9
    refine bX12_byWaiting_8 ?_
    rw [fwg fN (by omega), fwg fN (by omega), s1.1.2.2, es.2]
    refine ⟨i32 (by omega), i32 (by omega), fun z => absurd q2 z, fun _ => ⟨q1, by omega, ?_⟩⟩
    -- the search
    have srch9 := loop_up (E := fun y => eX12_byWaiting G K X 29 [(0, rr G 8 0 0), (1, iv W.1), (2, iv x), (3, iv t), (4, iv (best (fun k => decide (W.2.1 k = L 7 t ∧ W.2.2 k ≤ L 9 t - L 5 0)) W.2.2 y)), (5, iv y)] [] N) hbd.1
      (by
        have hlb := best_bd (fun k => decide (W.2.1 k = L 7 t ∧ W.2.2 k ≤ L 9 t - L 5 0)) W.2.2 hbd.1
        have el : best (fun k => decide (W.2.1 k = L 7 t ∧ W.2.2 k ≤ L 9 t - L 5 0)) W.2.2 W.1 = lngW L W t := rfl
        rw [el] at hlb ⊢
        refine bX12_byWaiting_29 ⟨i32 (by omega), i32 (by omega), fun _ => ⟨i32 (by omega), fun z => m_last hRN ht hx.1 hx.2.1 (kI_mk ⟨by omega, by omega, ?_⟩), fun z => m_last hRN ht hx.1 hx.2.1 (kI_mk ⟨by omega, by omega, ?_⟩)⟩, fun z => absurd z (by omega)⟩
        · have f2 := fw16 fN (lngW L W t) (L 8 t)
          refine m_arrives (by rw [fwg f2 (by omega)]; exact hR1) ht hx.1 hx.2.1 (kI_mk ?_)
          have := hn9 (by omega) _ (fw17 f2 (lngW L W t) (arr L t))
          unfold wStep at this
          rw [if_neg (by omega)] at this
          refine this (fun k h0 h1 => ?_)
          have hk9 := wN9 k h0 h1
          show _ = upI _ _ _ k ∧ _ = upI _ _ _ k
          rw [wr_nc (c' := 16) (by omega)]
          unfold upI
          by_cases hk : k = lngW L W t
          · rw [if_pos hk, if_pos hk, hk, wr_at, wr_at]
            exact ⟨rfl, rfl⟩
          · rw [if_neg hk, if_neg hk, wr_nk hk, wr_nk hk, wr_nc (by omega)]
            exact hk9
        · have f2 := fw16 fN W.1 (L 8 t)
          refine m_arrives (by rw [fwg f2 (by omega)]; exact hR1) ht hx.1 hx.2.1 (kI_mk ?_)
          have := hn9 (by omega) _ (fw17 f2 W.1 (arr L t))
          unfold wStep at this
          rw [if_pos (by omega)] at this
          refine this (fun k h0 h1 => ?_)
          have h1' : k < W.1 + 1 := h1
          show _ = upI _ _ _ k ∧ _ = upI _ _ _ k
          rw [wr_nc (c' := 16) (by omega)]
          unfold upI
          by_cases hk : k = W.1
          · rw [if_pos hk, if_pos hk, hk, wr_at, wr_at]
            exact ⟨rfl, rfl⟩
          · have hk9 := wN9 k h0 (by omega)
            rw [if_neg hk, if_neg hk, wr_nk hk, wr_nk hk, wr_nc (by omega)]
            exact hk9)
      (fun y y0 y1 hy9 => by
        have e := wN9 y y0 y1
        have hb := hbd.2.2 y y0 y1
        rw [best_step _ _ y0] at hy9
        have hbb := best_bd (fun k => decide (W.2.1 k = L 7 t ∧ W.2.2 k ≤ L 9 t - L 5 0)) W.2.2 y0
        generalize best (fun k => decide (W.2.1 k = L 7 t ∧ W.2.2 k ≤ L 9 t - L 5 0)) W.2.2 y = b at hy9 hbb ⊢
        refine bX12_byWaiting_29 ⟨i32 (by omega), i32 (by omega), fun z => absurd y1 z, fun _ => ⟨y0, by omega, m_first hRN ht hx.1 hx.2.1 (kI_mk ?_)⟩⟩
        rw [e.1]
        refine ⟨i32 (by omega), i32 (by omega), fun z => ?_, fun z => m_departs hRN ht hx.1 hx.2.1 (kI_mk ?_)⟩
        · rw [if_neg (by simp only [decide_eq_true_eq]; omega)] at hy9
          exact hy9
        · rw [e.2, hRN.2.2.1.1]
          refine ⟨i32 (by omega), i32 (by omega), fun u => ?_, fun u => ⟨i32 (by omega), fun r => ?_, fun r => ?_⟩⟩
          · rw [if_neg (by simp only [decide_eq_true_eq]; omega)] at hy9
            exact hy9
          · rw [if_pos (by simp only [decide_eq_true_eq]; omega), if_pos (by omega)] at hy9
            exact hy9
          · have hb2 : 0 ≤ b ∧ b < y := by omega
            have e2 := wN9 b hb2.1 (by omega)
            have hx2 := hbd.2.2 b hb2.1 (by omega)
            rw [if_pos (by simp only [decide_eq_true_eq]; omega), if_neg (by omega)] at hy9
            rw [e2.2]
            refine ⟨hb2.1, by omega, i32 (by omega), i32 (by omega), fun y2 => ?_, fun y2 => ?_⟩
            · rw [if_neg (by omega)] at hy9
              exact hy9
            · rw [if_pos (by omega)] at hy9
              exact hy9)
    rw [best_0] at srch9
    exact srch9)
  exact gen (Int.le_refl _) M1 FrX.rf (fun k h0 h1 => absurd h1 (by show ¬ k < 0; omega))
end Mu
