/-! ===== append (the reference), faultPosition ===== -/
/-- in the reference's row: the text -/
def TxM (M : Mem) (sg : Int → Int) (ln : Int) : Prop := (0 ≤ ln ∧ ln ≤ 60) ∧ M 8 0 0 33 = ln ∧ ∀ k, 0 ≤ k → k < ln → M 8 0 22 k = sg k
abbrev PT9 (c k : Int) : Prop := c = 22 ∨ (c = 0 ∧ (k = 7 ∨ k = 33))
section Tq
variable {G : GT} {K : List Value → Mem → Prop} {X : String → Mem → Prop} {M : Mem} {sg : Int → Int} {ln : Int}
theorem p_faultPosition (k : K [iv (M 7 0 0 7)] M) : Call G 0 0 zX11_faultPosition [rr G 0 0 0] M K X := bX11_faultPosition k
theorem q_faultPosition (k : K [iv (M 8 0 0 36)] (wr M 8 0 0 7 0)) : Call G 0 0 zX12_faultPosition [rr G 8 0 0] M K X := bX12_faultPosition k
theorem q_append (hT : TxM M sg ln) {c : Int} (k0 : ln < 60 → ∀ M', FrX PT9 M M' → M' 8 0 0 7 = 0 → TxM M' (upI sg ln c) (ln + 1) → K [] M') (k1 : ¬ ln < 60 → K [] (wr M 8 0 0 7 1)) : Call G 0 0 zX12_append [rr G 8 0 0, iv c] M K X := by
  obtain ⟨t1, t2, t3⟩ := hT
  refine bX12_append ?_
  rw [t2]
  refine ⟨i32 (by omega), fun z => ⟨t1.1, by omega, fun M10 e10 => ?_⟩, fun z => k1 (by omega)⟩
  refine k0 (by omega) M10 ?_ ?_ ⟨by omega, ?_, fun y y0 y1 => ?_⟩
  · rw [e10]
    exact FrX.wr (FrX.wr (FrX.wr FrX.rf (show PT9 0 7 from Or.inr ⟨rfl, Or.inl rfl⟩) _) (show PT9 22 ln from Or.inl rfl) _) (show PT9 0 33 from Or.inr ⟨rfl, Or.inr rfl⟩) _
  · rw [e10, wr_nk (by omega), wr_nc (by omega), wr_at]
  · rw [e10, wr_at]
  · rw [e10, wr_nc (by omega)]
    unfold upI
    by_cases h : y = ln
    · rw [if_pos h, h, wr_at]
    · rw [if_neg h, wr_nk h, wr_nc (by omega)]
      exact t3 y y0 (by omega)
end Tq
