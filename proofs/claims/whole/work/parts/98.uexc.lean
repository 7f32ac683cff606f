/-! ===== exchange: each trip still stands once ===== -/
theorem exc_uni {L : LFn} (hw : WFn L) (hU : Uni L) {v w m : Int} (v0 : 0 ≤ v) (v1 : v < L 11 3) (w0 : 0 ≤ w) (w1 : w < L 11 3) (hne : v ≠ w) : Uni (excL L v w m) := by
  have nv := hw.2.2.1.1
  have bv := tbf_bd (L := L) (m := m) (v := v) (hw.2.2.1.2 v v0 v1).2.2.1
  have bw := tbf_bd (L := L) (m := m) (v := w) (hw.2.2.1.2 w w0 w1).2.2.1
  have e11 : excL L v w m 11 = L 11 := by
    unfold excL exL1
    rw [joinL_nc (by omega) (by omega), joinL_nc (by omega) (by omega)]
  have e13 : ∀ x, excL L v w m 13 x = if x = w then tbf L m w + (L 13 v - tbf L m v) else if x = v then tbf L m v + (L 13 w - tbf L m w) else L 13 x := fun x => by
    unfold excL exL1
    rw [joinL_13 w0, joinL_13 v0]
  have er : ∀ x, 0 ≤ x → excL L v w m (15 + x) = if x = w then tkF (L (15 + w)) (L (15 + v)) (tbf L m w) (tbf L m v) (L 13 v - tbf L m v) else if x = v then tkF (L (15 + v)) (L (15 + w)) (tbf L m v) (tbf L m w) (L 13 w - tbf L m w) else L (15 + x) := fun x x0 => by
    unfold excL exL1
    rw [joinL_row w0 x0, joinL_row v0 w0, joinL_row v0 x0, if_neg (show ¬ w = v from fun z => hne z.symm)]
  have key : ∀ x q, 0 ≤ x → x < L 11 3 → 0 ≤ q → q < excL L v w m 13 x → ∃ x' q', 0 ≤ x' ∧ x' < L 11 3 ∧ 0 ≤ q' ∧ q' < L 13 x' ∧ excL L v w m (15 + x) q = L (15 + x') q' ∧ ((x ≠ v ∧ x ≠ w ∧ x' = x ∧ q' = q) ∨ (x = v ∧ q < tbf L m v ∧ x' = v ∧ q' = q) ∨ (x = v ∧ tbf L m v ≤ q ∧ x' = w ∧ q' = tbf L m w + (q - tbf L m v)) ∨ (x = w ∧ q < tbf L m w ∧ x' = w ∧ q' = q) ∨ (x = w ∧ tbf L m w ≤ q ∧ x' = v ∧ q' = tbf L m v + (q - tbf L m w))) := by
    intro x q x0 x1 q0 q1
    rw [e13] at q1
    rw [er x x0]
    by_cases hx : x = w
    · subst hx
      rw [if_pos rfl] at q1 ⊢
      unfold tkF
      by_cases h : tbf L m x ≤ q
      · exact ⟨v, tbf L m v + (q - tbf L m x), v0, v1, by omega, by omega, if_pos ⟨h, by omega⟩, Or.inr (Or.inr (Or.inr (Or.inr ⟨rfl, h, rfl, rfl⟩)))⟩
      · exact ⟨x, q, x0, x1, q0, by omega, if_neg (by omega), Or.inr (Or.inr (Or.inr (Or.inl ⟨rfl, by omega, rfl, rfl⟩)))⟩
    · rw [if_neg hx] at q1 ⊢
      by_cases hx2 : x = v
      · subst hx2
        rw [if_pos rfl] at q1 ⊢
        unfold tkF
        by_cases h : tbf L m x ≤ q
        · exact ⟨w, tbf L m w + (q - tbf L m x), w0, w1, by omega, by omega, if_pos ⟨h, by omega⟩, Or.inr (Or.inr (Or.inl ⟨rfl, h, rfl, rfl⟩))⟩
        · exact ⟨x, q, x0, x1, q0, by omega, if_neg (by omega), Or.inr (Or.inl ⟨rfl, by omega, rfl, rfl⟩)⟩
      · rw [if_neg hx2] at q1 ⊢
        exact ⟨x, q, x0, x1, q0, q1, rfl, Or.inl ⟨hx2, hx, rfl, rfl⟩⟩
  intro a b x y a0 a1 b0 b1 x0 x1 y0 y1 e
  rw [e11] at a1 b1
  obtain ⟨a', x', c1, c2, c3, c4, c5, c6⟩ := key a x a0 a1 x0 x1
  obtain ⟨b', y', d1, d2, d3, d4, d5, d6⟩ := key b y b0 b1 y0 y1
  rw [c5, d5] at e
  obtain ⟨u1, u2⟩ := hU a' b' x' y' c1 c2 d1 d2 c3 c4 d3 d4 e
  clear e c5 d5 key er e13
  rcases c6 with h | h | h | h | h <;> rcases d6 with g | g | g | g | g <;> omega
