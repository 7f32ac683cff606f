/-! ===== undo, save, restore, append, readTrips on both sides ===== -/
theorem RelL.undo {M M1 M2 : Mem} (h : RelL M) (n0 : 0 < M 2 0 0 2) (a : ∀ i, i ≠ 0 → M1 1 i = M 1 i) (b : HI M1) (c : M1 2 0 0 2 = M 2 0 0 2 - 1) (d : M1 2 0 0 3 = M 2 0 0 3) (e : ∀ r, 0 ≤ r → r < 8 → kp M1 r = kp M r) (l : LEq (M1 1 0) (kp M (M 2 0 0 2 - 1))) (p1 : M2 1 = M1 1) (p2 : M2 2 = M1 2) (r1 : RG (M2 8 0 1) (kp M (M 2 0 0 2 - 1))) (hP2 : Pas M2 (M 2 0 0 2 - 1) (kp M)) (q2 : M2 8 0 2 = M 8 0 2) (q3 : M2 8 0 0 3 = M 8 0 0 3) : RelL M2 := by
  obtain ⟨hH, hG0, hR, ⟨hP, hK⟩, hs, hS⟩ := h
  have n := hP.2.1
  have ek : ∀ r, 0 ≤ r → r < 8 → kp M2 r = kp M r := fun r r0 r1 => by
    rw [← e r r0 r1]
    unfold kp
    rw [p1, p2]
  have g := hK (M 2 0 0 2 - 1) (by omega) (by omega)
  obtain ⟨a1, a2, a3⟩ := hP2
  refine ⟨?_, ?_, ?_, ⟨⟨?_, ?_, fun r r0 r1 => ?_⟩, fun r r0 r1 => ?_⟩, ?_, fun z => ?_⟩
  · unfold HI; rw [p2]; exact b
  · rw [p1]; exact g.leq l
  · rw [p1]; exact r1.leq g.1 l
  · rw [p2, c]; exact a1
  · rw [p2, c]; exact a2
  · rw [p2, c] at r1
    rw [ek r r0 (by omega)]
    exact a3 r r0 r1
  · rw [p2, c] at r1
    rw [ek r r0 (by omega)]
    exact hK r r0 (by omega)
  · rw [q3, p2, d]; exact hs
  · rw [p2, d] at z
    rw [q2, p1, a 2 (by omega)]
    exact hS z
theorem RelL.saved {M M1 M2 : Mem} (h : RelL M) (a : ∀ i, i ≠ 2 → M1 1 i = M 1 i) (b : ∀ b c, ¬ (b = 0 ∧ c = 0) → M1 2 b c = M 2 b c) (c : M1 2 0 0 2 = M 2 0 0 2) (d : M1 2 0 0 3 = 1) (l : LEq (M1 1 2) (M 1 0)) (p1 : M2 1 = M1 1) (p2 : M2 2 = M1 2) (r1 : M2 8 0 1 = M 8 0 1) (q2 : RG (M2 8 0 2) (M 1 0)) (q3 : M2 8 0 0 3 = 1) (q4 : M2 8 0 4 = M 8 0 4) (q5 : M2 8 0 0 5 = M 8 0 0 5) : RelL M2 := by
  obtain ⟨hH, hG0, hR, ⟨hP, hK⟩, hs, hS⟩ := h
  have n := hP.2.1
  have e1 : ∀ r, M2 2 0 1 r = M 2 0 1 r := fun r => by rw [p2, b 0 1 (by omega)]
  have ek : ∀ r, 0 ≤ r → r < 8 → kp M2 r = kp M r := fun r r0 r1 => by
    have h3 := hH.2.1 r r0 r1
    unfold kp
    rw [e1, p1]
    exact a _ (by omega)
  refine ⟨⟨?_, fun r r0 r1 => ?_, fun r r' r0 r1 s0 s1 he => ?_⟩, ?_, ?_, ⟨⟨?_, ?_, fun r r0 r1 => ?_⟩, fun r r0 r1 => ?_⟩, ?_, fun z => ?_⟩
  · rw [p2, c, d]; exact ⟨n.1, n.2, by omega, by omega⟩
  · rw [e1]; exact hH.2.1 r r0 r1
  · rw [e1, e1] at he; exact hH.2.2 r r' r0 r1 s0 s1 he
  · rw [p1, a 0 (by omega)]; exact hG0
  · rw [r1, p1, a 0 (by omega)]; exact hR
  · rw [q5, p2, c]; exact hP.1
  · rw [p2, c]; exact n
  · rw [p2, c] at r1
    rw [q4, ek r r0 (by omega)]
    exact hP.2.2 r r0 r1
  · rw [p2, c] at r1
    rw [ek r r0 (by omega)]
    exact hK r r0 r1
  · rw [q3, p2, d]
  · rw [p1]
    exact ⟨q2.leq hG0.1 l, hG0.leq l⟩
theorem RelL.restored {M M1 M2 : Mem} (h : RelL M) (z0 : M 2 0 0 3 ≠ 0) (a : ∀ i, i ≠ 0 → M1 1 i = M 1 i) (b : ∀ b c, ¬ (b = 0 ∧ c = 0) → M1 2 b c = M 2 b c) (c : M1 2 0 0 2 = 0) (d : M1 2 0 0 3 = M 2 0 0 3) (l : LEq (M1 1 0) (M 1 2)) (p1 : M2 1 = M1 1) (p2 : M2 2 = M1 2) (r1 : RG (M2 8 0 1) (M 1 2)) (q2 : M2 8 0 2 = M 8 0 2) (q3 : M2 8 0 0 3 = M 8 0 0 3) (q5 : M2 8 0 0 5 = 0) : RelL M2 := by
  obtain ⟨hH, hG0, hR, ⟨hP, hK⟩, hs, hS⟩ := h
  obtain ⟨s1, s2⟩ := hS z0
  have e1 : ∀ r, M2 2 0 1 r = M 2 0 1 r := fun r => by rw [p2, b 0 1 (by omega)]
  have h0 := hH.1
  refine ⟨⟨?_, fun r r0 r1 => ?_, fun r r' r0 r1 s0 s1 he => ?_⟩, ?_, ?_, ⟨⟨?_, ?_, fun r r0 r1 => ?_⟩, fun r r0 r1 => ?_⟩, ?_, fun z => ?_⟩
  · rw [p2, c, d]; exact ⟨by omega, by omega, h0.2.2.1, h0.2.2.2⟩
  · rw [e1]; exact hH.2.1 r r0 r1
  · rw [e1, e1] at he; exact hH.2.2 r r' r0 r1 s0 s1 he
  · rw [p1]; exact s2.leq l
  · rw [p1]; exact r1.leq s2.1 l
  · rw [q5, p2, c]
  · rw [p2, c]; exact ⟨by omega, by omega⟩
  · rw [p2, c] at r1; exact absurd r1 (by omega)
  · rw [p2, c] at r1; exact absurd r1 (by omega)
  · rw [q3, p2, d]; exact hs
  · rw [q2, p1, a 2 (by omega)]; exact ⟨s1, s2⟩
section Ou
variable {G : GT} {M : Mem}
theorem s_undo (h : Rel M) : Call G 8 1 zX11_undo [rr G 0 0 0] M (OkI G 0 zX12_undo [rr G 8 0 0]) (XkI G 0 zX12_undo [rr G 8 0 0] 1 eIS eIS eIS) := by
  have n := h.1.2.2.2.1.1.2.1
  refine p_undo (rel_H h) (fun y => (h.1.2.2.2.1.2 _ (by omega) (by omega)).2.1) (fun y M1 a b c d e l => ⟨_, rfl, fun Mx x => ?_⟩) (fun y => Or.inl ⟨rfl, fun Mx x => ?_⟩)
  · have e8 : Mx 8 0 = M 8 0 := by rw [x 8 (by omega)]; exact a 8 0 (by omega) (by omega)
    refine q_undo (X := noX) (rel_P h e8) (rel_K h) (fun _ M2 f e7 r p => ⟨⟨_, rfl, fun _ => rfl⟩, e7, frx_reg f (by omega), ?_⟩) (fun w => absurd w (by omega))
    obtain ⟨hL, hF, hT, hQ⟩ := h
    have o : ∀ a9, a9 ≠ 8 → a9 ≠ 9 → M2 a9 = M1 a9 := fun a9 h8 h9 => by rw [frx_reg f h8, x a9 h9]
    have g : ∀ c9, (∀ k, ¬ PM c9 k) → M2 8 0 c9 = M 8 0 c9 := fun c9 hc => (frx_row f hc).trans (by rw [e8])
    have g0 : ∀ k, ¬ PM 0 k → M2 8 0 0 k = M 8 0 0 k := fun k hc => (frx_at f hc).trans (by rw [e8])
    refine ⟨hL.undo y (fun i hi => a 1 i (by omega) (by omega)) b c d e l (o 1 (by omega) (by omega)) (o 2 (by omega) (by omega)) r p (g 2 (fun k => by show ¬ (_ ∨ _); omega)) (g0 3 (by show ¬ (_ ∨ _); omega)), hF.same (by rw [o 0 (by omega) (by omega), a 0 0 (by omega) (by omega)]) (g0 6 (by show ¬ (_ ∨ _); omega)), hT.same (by rw [o 7 (by omega) (by omega), a 7 0 (by omega) (by omega)]) (by rw [o 7 (by omega) (by omega), a 7 0 (by omega) (by omega)]) (g 22 (fun k => by show ¬ (_ ∨ _); omega)) (g0 33 (by show ¬ (_ ∨ _); omega)), hQ.same (by rw [o 7 (by omega) (by omega), a 7 0 (by omega) (by omega)]) (g0 36 (by show ¬ (_ ∨ _); omega))⟩
  · have e8 := sdx_8 (M := M) SD.rf x
    exact q_undo (X := noX) (rel_P h e8) (rel_K h) (fun w => absurd w (by omega)) (fun _ => ⟨⟨0, rfl, fun w => absurd w (by decide)⟩, wr_at _ _ _ _ _ _, funext fun b => funext fun c => wr_na (by decide), h.read SC.rf x (pz7 _ _)⟩)
theorem s_save (h : Rel M) : Call G 4 0 zX11_save [rr G 0 0 0] M (OkV G 1 zX12_save [rr G 8 0 0]) noX := by
  refine p_save (X := noX) (rel_z h) (fun M1 a b c d l => ⟨rfl, fun Mx x => ?_⟩)
  have e8 : Mx 8 0 = M 8 0 := by rw [x 8 (by omega)]; exact a 8 0 (by omega) (by omega)
  refine q_save (X := noX) (rgx h e8) (rel_w h) (fun M2 f e7 e3 r => ⟨rfl, e7, frx_reg f (by omega), ?_⟩)
  obtain ⟨hL, hF, hT, hQ⟩ := h
  have o : ∀ a9, a9 ≠ 8 → a9 ≠ 9 → M2 a9 = M1 a9 := fun a9 h8 h9 => by rw [frx_reg f h8, x a9 h9]
  have g : ∀ c9, (∀ k, ¬ PV c9 k) → M2 8 0 c9 = M 8 0 c9 := fun c9 hc => (frx_row f hc).trans (by rw [e8])
  have g0 : ∀ k, ¬ PV 0 k → M2 8 0 0 k = M 8 0 0 k := fun k hc => (frx_at f hc).trans (by rw [e8])
  exact ⟨hL.saved (fun i hi => a 1 i (by omega) (by omega)) b c d l (o 1 (by omega) (by omega)) (o 2 (by omega) (by omega)) (g 1 (fun k => by show ¬ (_ ∨ _); omega)) r e3 (g 4 (fun k => by show ¬ (_ ∨ _); omega)) (g0 5 (by show ¬ (_ ∨ _); omega)), hF.same (by rw [o 0 (by omega) (by omega), a 0 0 (by omega) (by omega)]) (g0 6 (by show ¬ (_ ∨ _); omega)), hT.same (by rw [o 7 (by omega) (by omega), a 7 0 (by omega) (by omega)]) (by rw [o 7 (by omega) (by omega), a 7 0 (by omega) (by omega)]) (g 22 (fun k => by show ¬ (_ ∨ _); omega)) (g0 33 (by show ¬ (_ ∨ _); omega)), hQ.same (by rw [o 7 (by omega) (by omega), a 7 0 (by omega) (by omega)]) (g0 36 (by show ¬ (_ ∨ _); omega))⟩
theorem s_restore (h : Rel M) : Call G 8 1 zX11_restore [rr G 0 0 0] M (OkV G 1 zX12_restore [rr G 8 0 0]) (XkV G 1 zX12_restore [rr G 8 0 0] eIS) := by
  have h0 := (rel_H h).1
  have h3 : M 8 0 0 3 = M 2 0 0 3 := h.1.2.2.2.2.1
  have hS := h.1.2.2.2.2.2
  have q3 : ∀ Mx : Mem, Mx 8 0 = M 8 0 → (0 ≤ Mx 8 0 0 3 ∧ Mx 8 0 0 3 ≤ 1) ∧ (Mx 8 0 0 3 ≠ 0 → RG (Mx 8 0 2) (M 1 2) ∧ WFn (M 1 2)) := fun Mx e8 => by
    rw [e8, h3]
    exact ⟨⟨h0.2.2.1, h0.2.2.2⟩, fun y => ⟨(hS y).1, (hS y).2.1⟩⟩
  refine p_restore (rel_H h) (fun y => (hS y).2.2.1) (fun y M1 a b c d l => ⟨rfl, fun Mx x => ?_⟩) (fun y => ⟨rfl, fun Mx x => ?_⟩)
  · have e8 : Mx 8 0 = M 8 0 := by rw [x 8 (by omega)]; exact a 8 0 (by omega) (by omega)
    refine q_restore (X := noX) (q3 Mx e8).1 (q3 Mx e8).2 (fun _ M2 f e7 e5 r => ⟨rfl, e7, frx_reg f (by omega), ?_⟩) (fun w => absurd w (by rw [e8, h3]; exact y))
    obtain ⟨hL, hF, hT, hQ⟩ := h
    have o : ∀ a9, a9 ≠ 8 → a9 ≠ 9 → M2 a9 = M1 a9 := fun a9 h8 h9 => by rw [frx_reg f h8, x a9 h9]
    have g : ∀ c9, (∀ k, ¬ PM c9 k) → M2 8 0 c9 = M 8 0 c9 := fun c9 hc => (frx_row f hc).trans (by rw [e8])
    have g0 : ∀ k, ¬ PM 0 k → M2 8 0 0 k = M 8 0 0 k := fun k hc => (frx_at f hc).trans (by rw [e8])
    exact ⟨hL.restored y (fun i hi => a 1 i (by omega) (by omega)) b c d l (o 1 (by omega) (by omega)) (o 2 (by omega) (by omega)) r (g 2 (fun k => by show ¬ (_ ∨ _); omega)) (g0 3 (by show ¬ (_ ∨ _); omega)) e5, hF.same (by rw [o 0 (by omega) (by omega), a 0 0 (by omega) (by omega)]) (g0 6 (by show ¬ (_ ∨ _); omega)), hT.same (by rw [o 7 (by omega) (by omega), a 7 0 (by omega) (by omega)]) (by rw [o 7 (by omega) (by omega), a 7 0 (by omega) (by omega)]) (g 22 (fun k => by show ¬ (_ ∨ _); omega)) (g0 33 (by show ¬ (_ ∨ _); omega)), hQ.same (by rw [o 7 (by omega) (by omega), a 7 0 (by omega) (by omega)]) (g0 36 (by show ¬ (_ ∨ _); omega))⟩
  · have e8 := sdx_8 (M := M) SD.rf x
    exact q_restore (X := noX) (q3 Mx e8).1 (q3 Mx e8).2 (fun w => absurd (by rw [e8, h3]; exact y) w) (fun _ => ⟨rfl, wr_at _ _ _ _ _ _, funext fun b => funext fun c => wr_na (by decide), h.read SC.rf x (pz7 _ _)⟩)
theorem s_append (h : Rel M) {c : Int} (hc : 0 ≤ c ∧ c ≤ 65535) (hnar : vp_nar .char (J c) = J c) : Call G 8 1 zX11_append [rr G 0 0 0, iv c] M (OkV G 0 zX12_append [rr G 8 0 0, iv c]) (XkV G 0 zX12_append [rr G 8 0 0, iv c] eIS) := by
  have hT := h.2.2.1
  have tx : ∀ Mx : Mem, Mx 8 0 = M 8 0 → TxM Mx (M 7 0 1) (M 7 0 0 1) := fun Mx e8 => by
    obtain ⟨b1, b2, b3⟩ := hT.2
    exact ⟨b1, by rw [e8]; exact b2, fun k k0 k1 => by rw [e8]; exact b3 k k0 k1⟩
  refine p_append hT.1 hc hnar (fun y M1 a t q => ⟨rfl, fun Mx x => ?_⟩) (fun y => ⟨rfl, fun Mx x => ?_⟩)
  · have e8 : Mx 8 0 = M 8 0 := by rw [x 8 (by omega)]; exact a 8 0 (by omega)
    refine q_append (X := noX) (tx Mx e8) (fun _ M2 f e7 t2 => ⟨rfl, e7, frx_reg f (by omega), ?_⟩) (fun w => absurd y w)
    obtain ⟨hL, hF, -, hQ⟩ := h
    have o : ∀ a9, a9 ≠ 8 → a9 ≠ 9 → M2 a9 = M1 a9 := fun a9 h8 h9 => by rw [frx_reg f h8, x a9 h9]
    have g : ∀ c9, (∀ k, ¬ PT9 c9 k) → M2 8 0 c9 = M 8 0 c9 := fun c9 hc => (frx_row f hc).trans (by rw [e8])
    have g0 : ∀ k, ¬ PT9 0 k → M2 8 0 0 k = M 8 0 0 k := fun k hc => (frx_at f hc).trans (by rw [e8])
    have o1 : M2 1 = M 1 := by rw [o 1 (by omega) (by omega)]; exact funext fun b => a 1 b (by omega)
    have o2 : M2 2 = M 2 := by rw [o 2 (by omega) (by omega)]; exact funext fun b => a 2 b (by omega)
    obtain ⟨u1, u2, u3, u4⟩ := t
    refine ⟨hL.same (fun i _ _ => by rw [o1]) o2 (by rw [g 1 (fun k => by show ¬ (_ ∨ _); omega)]; exact hL.2.2.1) (g 2 (fun k => by show ¬ (_ ∨ _); omega)) (g 4 (fun k => by show ¬ (_ ∨ _); omega)) (g0 3 (by show ¬ (_ ∨ _); omega)) (g0 5 (by show ¬ (_ ∨ _); omega)), hF.same (by rw [o 0 (by omega) (by omega), a 0 0 (by omega)]) (g0 6 (by show ¬ (_ ∨ _); omega)), ?_, hQ.same (by rw [o 7 (by omega) (by omega), q]) (g0 36 (by show ¬ (_ ∨ _); omega))⟩
    unfold RelT
    rw [o 7 (by omega) (by omega), u2, u3]
    exact ⟨⟨u1, by rw [o 7 (by omega) (by omega)]; exact u2, by rw [o 7 (by omega) (by omega)]; exact u3, u4⟩, t2⟩
  · have e8 := sdx_8 (M := M) SD.rf x
    exact q_append (X := noX) (tx Mx e8) (fun w => absurd w y) (fun _ => ⟨rfl, wr_at _ _ _ _ _ _, funext fun b => funext fun c => wr_na (by decide), h.read SC.rf x (pz7 _ _)⟩)
theorem s_faultPosition (h : Rel M) : Call G 0 0 zX11_faultPosition [rr G 0 0 0] M (OkI G 0 zX12_faultPosition [rr G 8 0 0]) noX := by
  refine p_faultPosition ⟨_, rfl, fun Mx x => q_faultPosition ?_⟩
  have e8 := sdx_8 (M := M) SD.rf x
  have hQ : M 8 0 0 36 = M 7 0 0 7 := h.2.2.2
  exact ⟨⟨_, rfl, fun _ => by rw [e8]; exact hQ⟩, wr_at _ _ _ _ _ _, funext fun b => funext fun c => wr_na (by decide), h.read SC.rf x (pz7 _ _)⟩
theorem Rel.readF {M M1 Mx M2 : Mem} {sg : Int → Int} {ft : Int} (h : Rel M) (a : FrA 7 0 M M1) (t : Tx7 M M1 sg ft) (hs : sg = M 7 0 1) (x : Ex9 M1 Mx) (f : FrX PRd Mx M2) (e33 : M2 8 0 0 33 = 0) (e36 : M2 8 0 0 36 = ft) (r : RG (M2 8 0 1) (M 1 0)) (e5 : M2 8 0 0 5 = Mx 8 0 0 5) (e4 : M2 8 0 4 = Mx 8 0 4) : Rel M2 := by
  obtain ⟨hL, hF, hT, hQ⟩ := h
  have e8 : Mx 8 0 = M 8 0 := by rw [x 8 (by omega)]; exact a 8 0 (by omega)
  have o : ∀ a9, a9 ≠ 8 → a9 ≠ 9 → M2 a9 = M1 a9 := fun a9 h8 h9 => by rw [frx_reg f h8, x a9 h9]
  have g : ∀ c9, (∀ k, ¬ PRd c9 k) → M2 8 0 c9 = M 8 0 c9 := fun c9 hc => (frx_row f hc).trans (by rw [e8])
  have g0 : ∀ k, ¬ PRd 0 k → M2 8 0 0 k = M 8 0 0 k := fun k hc => (frx_at f hc).trans (by rw [e8])
  have o1 : M2 1 = M 1 := by rw [o 1 (by omega) (by omega)]; exact funext fun b => a 1 b (by omega)
  have o2 : M2 2 = M 2 := by rw [o 2 (by omega) (by omega)]; exact funext fun b => a 2 b (by omega)
  have o7 := o 7 (by omega) (by omega)
  obtain ⟨t1, t2, t3⟩ := t
  obtain ⟨⟨u1, u2, u3, u4⟩, -⟩ := hT
  refine ⟨hL.same (fun i _ _ => by rw [o1]) o2 r (g 2 (fun k => by show ¬ (_ ∨ _); omega)) (by rw [e4, e8]) (g0 3 (by show ¬ (_ ∨ _); omega)) (by rw [e5, e8]), hF.same (by rw [o 0 (by omega) (by omega), a 0 0 (by omega)]) (g0 6 (by show ¬ (_ ∨ _); omega)), ?_, ?_⟩
  · unfold RelT
    rw [o7, t1, t2]
    exact ⟨⟨by omega, by rw [o7]; exact t1, by rw [o7]; exact t2, by rw [hs]; exact u4⟩, by omega, e33, fun k k0 k1 => by omega⟩
  · unfold RelF
    rw [e36, o7, t3]
theorem s_readTrips (h : Rel M) : Call G 8 1 zX11_readTrips [rr G 0 0 0] M (OkI G 4 zX12_readTrips [rr G 8 0 0]) (XkI G 4 zX12_readTrips [rr G 8 0 0] 2 eIA eIS eIS) := by
  have hT := h.2.2.1
  have tx : ∀ Mx : Mem, Mx 8 0 = M 8 0 → TxM Mx (M 7 0 1) (M 7 0 0 1) := fun Mx e8 => by
    obtain ⟨b1, b2, b3⟩ := hT.2
    exact ⟨b1, by rw [e8]; exact b2, fun k k0 k1 => by rw [e8]; exact b3 k k0 k1⟩
  have hS : Sgn (M 7 0 1) (M 7 0 0 1) := fun k k0 k1 => hT.1.2.2.2 k k0 (by have := hT.1.1; omega)
  obtain ⟨h01, hcc, hF3, hpp⟩ := txtN_ok (M 7 0 1) (ln := M 7 0 0 1) 10 0 0 (rowsT M) (by omega) (by omega) hT.1.1.1 (fun x x0 x1 => absurd x1 (by omega))
  refine p_readTrips rfl h.1.2.1 (rel_H h) hT.1 (fun y M1 a t => Or.inl ⟨rfl, fun Mx x => ?_⟩) (fun y y2 M1 a t => Or.inr (Or.inl ⟨by decide, rfl, fun Mx x => ?_⟩)) (fun y y2 y3 M1 M1' a t p q e k => ⟨_, rfl, fun Mx x => ?_⟩)
  · have e8 : Mx 8 0 = M 8 0 := by rw [x 8 (by omega)]; exact a 8 0 (by omega)
    refine q_readTrips (X := noX) (rowsT M) (rgx h e8) h.1.2.1 (rel_P h e8) (rel_K h) (tx Mx e8) hS (fun _ M2 f e7 e33 e36 r e5 e4 => ⟨⟨0, rfl, fun w => absurd w (by decide)⟩, e7, frx_reg f (by omega), h.readF a t rfl x f e33 e36 r e5 e4⟩) (fun w => absurd w (by omega)) (fun w => absurd w (by omega))
  · have e8 : Mx 8 0 = M 8 0 := by rw [x 8 (by omega)]; exact a 8 0 (by omega)
    refine q_readTrips (X := noX) (rowsT M) (rgx h e8) h.1.2.1 (rel_P h e8) (rel_K h) (tx Mx e8) hS (fun w => absurd w (by omega)) (fun _ _ M2 f e7 e33 e36 r e5 e4 => ⟨⟨0, rfl, fun w => absurd w (by decide)⟩, e7, frx_reg f (by omega), h.readF a t rfl x f e33 e36 r e5 e4⟩) (fun _ w1 w2 => by
      rcases y2 with z | z
      · exact absurd z w1
      · exact absurd z w2)
  · have e8 : Mx 8 0 = M 8 0 := by rw [x 8 (by omega), p 8 0 (by omega) (by omega)]; exact a 8 0 (by omega)
    refine q_readTrips (X := noX) (rowsT M) (rgx h e8) h.1.2.1 (rel_P h e8) (rel_K h) (tx Mx e8) hS (fun w => absurd w (by omega)) (fun _ w => by
      rcases w with z | z
      · exact absurd z y2
      · exact absurd z y3) (fun _ _ _ M2 f e7 e33 e36 r pp => ⟨⟨_, rfl, fun _ => rfl⟩, e7, frx_reg f (by omega), ?_⟩)
    have hn := (rel_w h).1.1
    have gN : GL (addN (M 1 0) (txtN (M 7 0 1) (M 7 0 0 1) 10 0 0 (rowsT M)).2.2.2 (txtN (M 7 0 1) (M 7 0 0 1) 10 0 0 (rowsT M)).2.1.toNat) := by
      generalize txtN (M 7 0 1) (M 7 0 0 1) 10 0 0 (rowsT M) = R at *
      have h1 : txOK (M 1 0) R.2.2.2 R.2.1 = 1 := by
        rcases allT_01 (fun x => decide (tripOK (M 1 0) (R.2.2.2.1 x) (R.2.2.2.2.1 x) (R.2.2.2.2.2 x))) 0 R.2.1 with w | w
        · exact absurd w y3
        · exact w
      have ho := (allT_iff (by omega)).mp h1
      refine gl_addN h.1.2.1 R.2.2.2 R.2.1.toNat (fun x x0 x1 => hF3 x x0 (by omega)) (fun x x0 x1 => ?_) (by omega)
      have := ho x x0 (by omega)
      simpa using this
    obtain ⟨hL, hF, -, hQ⟩ := h
    have o : ∀ a9, a9 ≠ 8 → a9 ≠ 9 → M2 a9 = M1' a9 := fun a9 h8 h9 => by rw [frx_reg f h8, x a9 h9]
    have g : ∀ c9, (∀ k, ¬ PRd c9 k) → M2 8 0 c9 = M 8 0 c9 := fun c9 hc => (frx_row f hc).trans (by rw [e8])
    have g0 : ∀ k, ¬ PRd 0 k → M2 8 0 0 k = M 8 0 0 k := fun k hc => (frx_at f hc).trans (by rw [e8])
    have o7 := o 7 (by omega) (by omega)
    obtain ⟨t1, t2, t3⟩ := t
    obtain ⟨⟨u1, u2, u3, u4⟩, -⟩ := hT
    refine ⟨hL.chg (by rw [q 2 (Or.inl (by omega)) (by omega)]; exact a 1 2 (by omega)) (by rw [e]; exact LEq.refl _) k (o 1 (by omega) (by omega)) (o 2 (by omega) (by omega)) gN r (g 2 (fun k => by show ¬ (_ ∨ _); omega)) (g0 3 (by show ¬ (_ ∨ _); omega)) pp, hF.same (by rw [o 0 (by omega) (by omega), p 0 0 (by omega) (by omega), a 0 0 (by omega)]) (g0 6 (by show ¬ (_ ∨ _); omega)), ?_, ?_⟩
    · unfold RelT
      rw [o7, t1, t2]
      exact ⟨⟨by omega, by rw [o7]; exact t1, by rw [o7]; exact t2, u4⟩, by omega, e33, fun k k0 k1 => by omega⟩
    · unfold RelF
      rw [e36, o7, t3]
end Ou
