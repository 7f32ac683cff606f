/-! ===== relink (the class); refusal, faultPosition ===== -/
theorem Kept.reg {M M1 M2 : Mem} {L : LFn} (h : Kept M M1 L) (hz : 0 ≤ M 2 0 0 2) (r2 : ∀ b, M2 2 b = M1 2 b) (r1 : ∀ b, b ≠ 0 → M2 1 b = M1 1 b) : Kept M M2 L := by
  obtain ⟨q1, q2, q3, q4⟩ := h
  have kk : ∀ r, 0 ≤ r → r < 8 → kp M2 r = kp M1 r := fun r r0 r1' => by
    unfold kp
    rw [r2]
    have := q1.2.1 r r0 r1'
    exact r1 _ (by omega)
  refine ⟨⟨by rw [r2]; exact q1.1, by rw [r2]; exact q1.2.1, by rw [r2]; exact q1.2.2⟩, by rw [r2]; exact q2, ?_, ?_⟩
  · rcases q3 with ⟨c1, c2, c3⟩ | ⟨c1, c2, c3⟩
    · exact Or.inl ⟨c1, by rw [r2]; exact c2, fun r r0 r1 => (kk r r0 (by omega)).trans (c3 r r0 r1)⟩
    · exact Or.inr ⟨c1, by rw [r2]; exact c2, fun r r0 r1 => (kk r r0 (by omega)).trans (c3 r r0 r1)⟩
  · rw [r2, kk _ (by rcases q3 with c | c <;> omega) (by rcases q3 with c | c <;> omega)]
    exact q4
section Pl2
variable {G : GT} {K : List Value → Mem → Prop} {X : String → Mem → Prop} {M : Mem} {L : LFn}
theorem p_relink (hL : M 1 0 = L) (hw : WFn L) (hz : BZ L) (hH : HI M) (k : ∀ M', (∀ r i, r ≠ 1 → r ≠ 2 → r ≠ 4 → r ≠ 5 → M' r i = M r i) → (∀ i, (i < 3 ∨ 10 < i) → i ≠ 0 → M' 1 i = M 1 i) → M' 1 0 = (lnk L).1 → Kept M M' L → K [iv (lnk L).2] M') : Call G 6 0 zX11_relink [rr G 0 0 0] M K X := by
  obtain ⟨ht, hm, hv, hbk⟩ := hw
  refine bX11_relink (sp_keep hH (by omega) (by omega) (by rw [hL]; exact hz) (fun M1 f1 kp1 => kV_mk ?_))
  have e1 : M1 1 0 = L := (f1.2 0 (Or.inl (by omega)) (by omega)).trans hL
  rw [hL] at kp1
  refine sp_linkAnew (by omega) (by omega) e1 hv ht hm (fun M2 a1 a2 => kI_mk ?_)
  exact k M2 (fun r i r1 r2 r4 r5 => (a1 r i (fun z => r1 z.1) r5).trans (f1.1 r i r1 r2)) (fun i hi i0 => (a1 1 i (fun z => i0 z.2) (by decide)).trans (f1.2 i hi (by omega))) a2 (kp1.reg hH.1.1 (fun b => a1 2 b (fun z => absurd z.1 (by decide)) (by decide)) (fun b hb => a1 1 b (fun z => hb z.2) (by decide)))
theorem q_refusal (k : AnsM M K (if M 8 0 0 6 = 0 then (1, 0) else (0, M 8 0 0 6))) (hi : I32 (M 8 0 0 6)) : Call G 0 0 zX12_refusal [rr G 8 0 0] M K X := by
  refine bX12_refusal ⟨hi, fun z => ?_, fun z => ?_⟩
  · rw [if_neg z] at k
    exact ans0 k
  · rw [if_pos z] at k
    have := ansE (by decide) k
    rw [z]
    exact this
end Pl2
