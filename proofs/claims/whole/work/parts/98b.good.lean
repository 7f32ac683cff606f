/-! ===== good lines stay good ===== -/
theorem Uni.same {L L' : LFn} (hU : Uni L) (e11 : L' 11 3 = L 11 3) (e13 : L' 13 = L 13) (e15 : ∀ v, 0 ≤ v → v < L 11 3 → L' (15 + v) = L (15 + v)) : Uni L' := by
  intro v w p q v0 v1 w0 w1 p0 p1 q0 q1 e
  rw [e11] at v1 w1
  rw [e13] at p1 q1
  rw [e15 v v0 v1, e15 w w0 w1] at e
  exact hU v w p q v0 v1 w0 w1 p0 p1 q0 q1 e
theorem Tnd.same {L L' : LFn} (h : Tnd L) (e4 : L' 4 = L 4) (e6 : L' 6 = L 6) (e7 : L' 7 = L 7) (e8 : L' 8 = L 8) (e10 : L' 10 = L 10) : Tnd L' := by
  intro t t0 t1 ha
  rw [e6] at t1
  rw [e10] at ha
  rw [e4, e7, e8]
  exact h t t0 t1 ha
theorem GL.same {L L' : LFn} (g : GL L) (hw : WFn L') (hU : Uni L') (e4 : L' 4 = L 4) (e6 : L' 6 = L 6) (e7 : L' 7 = L 7) (e8 : L' 8 = L 8) (e10 : L' 10 = L 10) : GL L' :=
  ⟨hw, g.2.1.of e4 e10, hU, g.2.2.2.same e4 e6 e7 e8 e10⟩
theorem gl_sect {L : LFn} (g : GL L) {k a b : Int} (ha : 1 ≤ a ∧ a ≤ 9) (hb : 0 ≤ b ∧ b ≤ 30) : GL (sectL L k a b) := by
  have e : ∀ c, c ≠ 2 → c ≠ 3 → sectL L k a b c = L c := fun c h2 h3 => by
    unfold sectL
    rw [up1_nc h3, up1_nc h2]
  exact g.same (sectL_wfn g.1 ha hb) (g.2.2.1.same (by rw [e 11 (by omega) (by omega)]) (e 13 (by omega) (by omega)) (fun v v0 _ => e _ (by omega) (by omega))) (e 4 (by omega) (by omega)) (e 6 (by omega) (by omega)) (e 7 (by omega) (by omega)) (e 8 (by omega) (by omega)) (e 10 (by omega) (by omega))
theorem gl_set {L : LFn} (g : GL L) {k v : Int} (k0 : 0 ≤ k) (k1 : k ≤ 2) (h : loS k ≤ v ∧ v ≤ hiS k) : GL (up1 L 5 k v) := by
  have e : ∀ c, c ≠ 5 → up1 L 5 k v c = L c := fun c h => up1_nc h
  exact g.same (setL_wfn g.1 k0 k1 h) (g.2.2.1.same (by rw [e 11 (by omega)]) (e 13 (by omega)) (fun v v0 _ => e _ (by omega))) (e 4 (by omega)) (e 6 (by omega)) (e 7 (by omega)) (e 8 (by omega)) (e 10 (by omega))
theorem gl_turn {L : LFn} (g : GL L) {s a : Int} (ha : a = 0 ∨ a = 1) (h : qTurn L s a = 0) : GL (up1 L 4 s a) := by
  obtain ⟨hw, hz, hU, hT⟩ := g
  have e : ∀ c, c ≠ 4 → up1 L 4 s a c = L c := fun c h => up1_nc h
  unfold qTurn at h
  by_cases hs : 1 ≤ s ∧ s ≤ 10
  · rw [if_neg (fun z => z hs)] at h
    have hq : ¬ (a = 0 ∧ endA L s ≠ 0) := fun z => by rw [if_pos z] at h; omega
    obtain ⟨m1, m2, m3, m4, m5⟩ := hw.2.1
    have e4 : ∀ x, x ≠ s → up1 L 4 s a 4 x = L 4 x := fun x hx => up1_nk hx
    have es : up1 L 4 s a 4 s = a := up1_at _ _ _ _
    have r4 : ∀ x, 0 ≤ x → x < 12 → 0 ≤ up1 L 4 s a 4 x ∧ up1 L 4 s a 4 x ≤ 1 := fun x x0 x1 => by
      by_cases hx : x = s
      · rw [hx, es]; omega
      · rw [e4 x hx]; exact m2 x x0 x1
    refine ⟨hw.track (fun c hc => e c (by omega)) ⟨fun k k0 k1 => ?_, r4, ?_, ?_, ?_⟩, ⟨r4, fun t t0 t1 => ?_⟩, hU.same (by rw [e 11 (by omega)]) (e 13 (by omega)) (fun v v0 _ => e _ (by omega)), fun t t0 t1 hact => ?_⟩
    · rw [e 2 (by omega), e 3 (by omega)]; exact m1 k k0 k1
    · rw [e4 0 (by omega)]; exact m3
    · rw [e4 11 (by omega)]; exact m4
    · rw [e 5 (by omega)]; exact m5
    · rw [e 10 (by omega)]; exact hz.2 t t0 t1
    · rw [e 6 (by omega)] at t1
      rw [e 10 (by omega)] at hact
      rw [e 7 (by omega), e 8 (by omega)]
      have o := hT t t0 t1 hact
      rcases ha with rfl | rfl
      · have hend : endA L s = 0 := Classical.byContradiction fun z => hq ⟨rfl, z⟩
        unfold endA at hend
        have hn : ¬ (L 7 t = s ∨ L 8 t = s) := fun z => by
          rcases srch_spec (p := fun t => decide (L 10 t = 0 ∧ (L 7 t = s ∨ L 8 t = s))) (k := 0) (b := L 6 4) with ⟨_, b2⟩ | ⟨b1, _⟩
          · have := b2 t t0 t1
            simp only [decide_eq_false_iff_not] at this
            exact this ⟨hact, z⟩
          · rw [if_neg (by omega)] at hend
            omega
        rw [e4 _ (fun z => hn (Or.inl z)), e4 _ (fun z => hn (Or.inr z))]
        exact o
      · constructor
        · by_cases hx : L 7 t = s
          · rw [hx, es]; omega
          · rw [e4 _ hx]; exact o.1
        · by_cases hx : L 8 t = s
          · rw [hx, es]; omega
          · rw [e4 _ hx]; exact o.2
  · rw [if_pos hs] at h
    omega
theorem gl_addA {L : LFn} (g : GL L) {a b d : Int} (ha : 0 ≤ a ∧ a ≤ 11) (hb : 0 ≤ b ∧ b ≤ 11) (ho : tripOK L a b d) (hn : L 6 4 < 30) : GL (addA L a b d) := by
  obtain ⟨hw, hz, hU, hT⟩ := g
  obtain ⟨ht, hm, hv, hbk⟩ := hw
  have nt := ht.1
  have e : ∀ c, (c < 6 ∨ 10 < c) → addA L a b d c = L c := fun c hc => by
    unfold addA
    rw [up1_nc (by omega), up1_nc (by omega), up1_nc (by omega), up1_nc (by omega), up1_nc (by omega)]
  have l6 : addA L a b d 6 4 = L 6 4 + 1 := by unfold addA; rw [up1_at]
  have l7 : ∀ t, addA L a b d 7 t = if t = L 6 4 then a else L 7 t := fun t => by
    unfold addA
    rw [up1_nc (c' := 7) (by omega), up1_nc (c' := 7) (by omega), up1_nc (c' := 7) (by omega), up1_nc (c' := 7) (by omega), up1_any]
    by_cases h : t = L 6 4
    · rw [if_pos ⟨rfl, h⟩, if_pos h]
    · rw [if_neg (fun z => h z.2), if_neg h]
  have l8 : ∀ t, addA L a b d 8 t = if t = L 6 4 then b else L 8 t := fun t => by
    unfold addA
    rw [up1_nc (c' := 8) (by omega), up1_nc (c' := 8) (by omega), up1_nc (c' := 8) (by omega), up1_any, up1_nc (c' := 8) (by omega)]
    by_cases h : t = L 6 4
    · rw [if_pos ⟨rfl, h⟩, if_pos h]
    · rw [if_neg (fun z => h z.2), if_neg h]
  have l9 : ∀ t, addA L a b d 9 t = if t = L 6 4 then d else L 9 t := fun t => by
    unfold addA
    rw [up1_nc (c' := 9) (by omega), up1_nc (c' := 9) (by omega), up1_any, up1_nc (c' := 9) (by omega), up1_nc (c' := 9) (by omega)]
    by_cases h : t = L 6 4
    · rw [if_pos ⟨rfl, h⟩, if_pos h]
    · rw [if_neg (fun z => h z.2), if_neg h]
  have l10 : ∀ t, addA L a b d 10 t = if t = L 6 4 then 0 else L 10 t := fun t => by
    unfold addA
    rw [up1_nc (c' := 10) (by omega), up1_any, up1_nc (c' := 10) (by omega), up1_nc (c' := 10) (by omega), up1_nc (c' := 10) (by omega)]
    by_cases h : t = L 6 4
    · rw [if_pos ⟨rfl, h⟩, if_pos h]
    · rw [if_neg (fun z => h z.2), if_neg h]
  obtain ⟨o1, o2, o3, o4, o5⟩ := ho
  refine ⟨⟨⟨by rw [l6]; omega, fun t t0 t1 => ?_⟩, ?_, ⟨by rw [e 11 (by omega)]; exact hv.1, fun v v0 v1 => ?_⟩, ?_⟩, ⟨by rw [e 4 (by omega)]; exact hz.1, fun t t0 t1 => ?_⟩, hU.same (by rw [e 11 (by omega)]) (e 13 (by omega)) (fun v v0 _ => e _ (by omega)), fun t t0 t1 hact => ?_⟩
  · rw [l6] at t1
    rw [l7, l8, l9, l10]
    by_cases h : t = L 6 4
    · rw [if_pos h, if_pos h, if_pos h, if_pos h]
      exact ⟨ha.1, ha.2, hb.1, hb.2, o1, o4, o5, by omega, by omega⟩
    · rw [if_neg h, if_neg h, if_neg h, if_neg h]
      exact ht.2 t t0 (by omega)
  · unfold WFm
    rw [e 2 (by omega), e 3 (by omega), e 4 (by omega), e 5 (by omega)]
    exact hm
  · rw [e 11 (by omega)] at v1
    rw [e 12 (by omega), e 13 (by omega), e (15 + v) (by omega), l6]
    obtain ⟨h1, h2, h3, h4, h5⟩ := hv.2 v v0 v1
    exact ⟨h1, h2, h3, h4, fun p p0 p1 => by have := h5 p p0 p1; omega⟩
  · unfold WFb
    rw [e 25 (by omega), e 26 (by omega), e 27 (by omega), e 28 (by omega)]
    exact hbk
  · rw [l10]
    split
    · omega
    · exact hz.2 t t0 t1
  · rw [l6] at t1
    rw [e 4 (by omega), l7, l8]
    by_cases h : t = L 6 4
    · rw [if_pos h, if_pos h]; exact ⟨o2, o3⟩
    · rw [if_neg h, if_neg h]
      rw [l10, if_neg h] at hact
      exact hT t t0 (by omega) hact
theorem outF_row {L : LFn} {t c : Int} (h : c ≠ 13) : outF L t c = L c := by
  unfold outF
  split
  · rfl
  · exact up1_nc h
theorem outB_row {L : LFn} {t c : Int} (h : c ≠ 13) : outB L t c = L c := by
  unfold outB
  split
  · rfl
  · exact up1_nc h
theorem gl_outF {L : LFn} (g : GL L) (t : Int) : GL (outF L t) := g.same (out_wfn g.1 t).1 (out_uni g.2.2.1 t).1 (outF_row (by omega)) (outF_row (by omega)) (outF_row (by omega)) (outF_row (by omega)) (outF_row (by omega))
theorem gl_outB {L : LFn} (g : GL L) (t : Int) : GL (outB L t) := g.same (out_wfn g.1 t).2 (out_uni g.2.2.1 t).2 (outB_row (by omega)) (outB_row (by omega)) (outB_row (by omega)) (outB_row (by omega)) (outB_row (by omega))
theorem gl_act {L : LFn} (g : GL L) {t c : Int} (hc : c = 0 ∨ c = 1) (h : 0 ≤ t → t < L 6 4 → c = 0 → L 4 (L 7 t) ≠ 0 ∧ L 4 (L 8 t) ≠ 0) : GL (up1 L 10 t c) := by
  obtain ⟨⟨ht, hm, hv, hbk⟩, hz, hU, hT⟩ := g
  have e : ∀ x, x ≠ 10 → up1 L 10 t c x = L x := fun x h => up1_nc h
  have l10 : ∀ u, up1 L 10 t c 10 u = if u = t then c else L 10 u := fun u => by
    rw [up1_any]
    by_cases h : u = t
    · rw [if_pos ⟨rfl, h⟩, if_pos h]
    · rw [if_neg (fun z => h z.2), if_neg h]
  refine ⟨⟨⟨by rw [e 6 (by omega)]; exact ht.1, fun u u0 u1 => ?_⟩, ?_, ?_, ?_⟩, ⟨by rw [e 4 (by omega)]; exact hz.1, fun u u0 u1 => ?_⟩, hU.same (by rw [e 11 (by omega)]) (e 13 (by omega)) (fun v v0 _ => e _ (by omega)), fun u u0 u1 hact => ?_⟩
  · rw [e 6 (by omega)] at u1
    obtain ⟨h1, h2, h3, h4, h5, h6, h7, h8, h9⟩ := ht.2 u u0 u1
    rw [e 7 (by omega), e 8 (by omega), e 9 (by omega), l10]
    refine ⟨h1, h2, h3, h4, h5, h6, h7, ?_, ?_⟩
    · split <;> omega
    · split <;> omega
  · unfold WFm
    rw [e 2 (by omega), e 3 (by omega), e 4 (by omega), e 5 (by omega)]
    exact hm
  · refine ⟨by rw [e 11 (by omega)]; exact hv.1, fun v v0 v1 => ?_⟩
    rw [e 11 (by omega)] at v1
    rw [e 12 (by omega), e 13 (by omega), e (15 + v) (by omega), e 6 (by omega)]
    exact hv.2 v v0 v1
  · unfold WFb
    rw [e 25 (by omega), e 26 (by omega), e 27 (by omega), e 28 (by omega)]
    exact hbk
  · rw [l10]
    split
    · omega
    · exact hz.2 u u0 u1
  · rw [e 6 (by omega)] at u1
    rw [e 4 (by omega), e 7 (by omega), e 8 (by omega)]
    rw [l10] at hact
    by_cases hu : u = t
    · rw [if_pos hu] at hact
      subst hu
      exact h u0 u1 hact
    · rw [if_neg hu] at hact
      exact hT u u0 u1 hact
theorem tnd_trn {L : LFn} (h : Tnd L) {t : Int} (t0 : 0 ≤ t) (t1 : t < L 6 4) (ha : L 10 t = 0) : trnE L t = 1 := b2i_t (h t t0 t1 ha)
theorem gl_canc {L : LFn} (g : GL L) {t c : Int} (hc : c = 0 ∨ c = 1) (h : qCan L t c = 0) : GL (canL L t c) := by
  unfold qCan at h
  by_cases h0 : 0 ≤ t ∧ t < L 6 4
  · rw [if_neg (fun z => z h0)] at h
    have hq : ¬ (c = 0 ∧ trnE L t = 0) := fun z => by rw [if_pos z] at h; omega
    show GL (if c = 0 then up1 L 10 t c else up1 (outF L t) 10 t c)
    by_cases c0 : c = 0
    · rw [if_pos c0]
      refine gl_act g hc (fun _ _ _ => ?_)
      have h1 : ¬ trnE L t = 0 := fun z => hq ⟨c0, z⟩
      exact Classical.byContradiction fun z => h1 (b2i_f z)
    · rw [if_neg c0]
      exact gl_act (gl_outF g t) hc (fun _ _ z => absurd z c0)
  · rw [if_pos h0] at h
    omega
theorem gl_addV {L : LFn} (g : GL L) {d : Int} (h : qAddV L d = 0) : GL (addV L d) := by
  obtain ⟨⟨ht, hm, hv, hbk⟩, hz, hU, hT⟩ := g
  have nv := hv.1
  unfold qAddV at h
  by_cases hd : 0 ≤ d ∧ d < 2
  · rw [if_neg (fun z => z hd)] at h
    have hn : L 11 3 ≠ 10 := fun z => by rw [if_pos z] at h; omega
    have e : ∀ c, (c < 11 ∨ 13 < c) → addV L d c = L c := fun c hc => by
      unfold addV
      rw [up1_nc (by omega), up1_nc (by omega), up1_nc (by omega)]
    have l11 : addV L d 11 3 = L 11 3 + 1 := by unfold addV; rw [up1_at]
    have l12 : ∀ v, addV L d 12 v = if v = L 11 3 then d else L 12 v := fun v => by
      unfold addV
      rw [up1_nc (c' := 12) (by omega), up1_nc (c' := 12) (by omega), up1_any]
      by_cases h : v = L 11 3
      · rw [if_pos ⟨rfl, h⟩, if_pos h]
      · rw [if_neg (fun z => h z.2), if_neg h]
    have l13 : ∀ v, addV L d 13 v = if v = L 11 3 then 0 else L 13 v := fun v => by
      unfold addV
      rw [up1_nc (c' := 13) (by omega), up1_any, up1_nc (c' := 13) (by omega)]
      by_cases h : v = L 11 3
      · rw [if_pos ⟨rfl, h⟩, if_pos h]
      · rw [if_neg (fun z => h z.2), if_neg h]
    refine ⟨⟨?_, ?_, ⟨by rw [l11]; omega, fun v v0 v1 => ?_⟩, ?_⟩, hz.of (e 4 (by omega)) (e 10 (by omega)), ?_, hT.same (e 4 (by omega)) (e 6 (by omega)) (e 7 (by omega)) (e 8 (by omega)) (e 10 (by omega))⟩
    · unfold WFt
      rw [e 6 (by omega), e 7 (by omega), e 8 (by omega), e 9 (by omega), e 10 (by omega)]
      exact ht
    · unfold WFm
      rw [e 2 (by omega), e 3 (by omega), e 4 (by omega), e 5 (by omega)]
      exact hm
    · rw [l11] at v1
      rw [l12, l13, e (15 + v) (by omega), e 6 (by omega)]
      by_cases hq : v = L 11 3
      · rw [if_pos hq, if_pos hq]
        exact ⟨by omega, by omega, by omega, by omega, fun p p0 p1 => by omega⟩
      · rw [if_neg hq, if_neg hq]
        exact hv.2 v v0 (by omega)
    · unfold WFb
      rw [e 25 (by omega), e 26 (by omega), e 27 (by omega), e 28 (by omega)]
      exact hbk
    · intro v w p q v0 v1 w0 w1 p0 p1 q0 q1 he
      rw [l11] at v1 w1
      rw [l13] at p1 q1
      rw [e (15 + v) (by omega), e (15 + w) (by omega)] at he
      by_cases hq : v = L 11 3
      · rw [if_pos hq] at p1; omega
      · by_cases hq2 : w = L 11 3
        · rw [if_pos hq2] at q1; omega
        · rw [if_neg hq] at p1
          rw [if_neg hq2] at q1
          exact hU v w p q v0 (by omega) w0 (by omega) p0 p1 q0 q1 he
  · rw [if_pos hd] at h
    omega
theorem gl_ins {L : LFn} (g : GL L) {v p t : Int} (v0 : 0 ≤ v) (v1 : v < L 11 3) (hl : L 13 v < 30) (p0 : 0 ≤ p) (p1 : p ≤ L 13 v) (t0 : 0 ≤ t) (t1 : t < L 6 4) (h : vehOf L t = -1) : GL (insL L v p t) := by
  have nv := g.1.2.2.1.1
  have s := insL_sm (L := L) (p := p) (t := t) v0 (show v < 10 by omega)
  exact g.same (g.1.ins v0 v1 hl p0 p1 t0 t1) (g.2.2.1.ins nv.2 v0 v1 p0 p1 h) (s 4 (by omega)) (s 6 (by omega)) (s 7 (by omega)) (s 8 (by omega)) (s 10 (by omega))
theorem rsnG_free {L : LFn} {t v : Int} (h : rsnG L t v = 0) : vehOf L t = -1 := by
  unfold rsnG at h
  split at h
  · omega
  · split at h
    · omega
    · omega
theorem gl_give {L : LFn} (g : GL L) {t v : Int} (t0 : 0 ≤ t) (t1 : t < L 6 4) (v0 : 0 ≤ v) (v1 : v < L 11 3) (h : rsnG L t v = 0) : L 13 v < 30 ∧ GL (insL L v (tbf L (L 9 t) v) t) := by
  have hf := rsnG_free h
  have r := roomA g.2.2.1 g.1 v0 v1 t0 t1 hf
  have nt := g.1.1.1
  have b := tbf_bd (L := L) (m := L 9 t) (v := v) (g.1.2.2.1.2 v v0 v1).2.2.1
  exact ⟨by omega, gl_ins g v0 v1 (by omega) b.1 b.2 t0 t1 hf⟩
theorem gl_rnd {L : LFn} (g : GL L) {f s v : Int} (h : qGR L f s v = 0) : GL (rndL L f s v) := by
  unfold qGR at h
  by_cases h0 : (0 ≤ f ∧ f < L 6 4) ∧ (0 ≤ s ∧ s < L 6 4) ∧ 0 ≤ v ∧ v < L 11 3
  · rw [if_neg (fun z => z h0)] at h
    have hr : rsnR L f s v = 0 := Classical.byContradiction fun z => by rw [if_pos z] at h; omega
    obtain ⟨⟨f0, f1⟩, ⟨s0, s1⟩, v0, v1⟩ := h0
    obtain ⟨u1, u2, u3⟩ := rsnR_free hr
    have nt := g.1.1.1
    have nv := g.1.2.2.1.1
    have rb := roomB g.2.2.1 g.1 v0 v1 f0 f1 u1 s0 s1 u2 u3
    have b := tbf_bd (L := L) (m := L 9 f) (v := v) (g.1.2.2.1.2 v v0 v1).2.2.1
    have g1 : GL (insL L v (tbf L (L 9 f) v) f) := gl_ins g v0 v1 (by omega) b.1 b.2 f0 f1 u1
    have sm := insL_sm (L := L) (p := tbf L (L 9 f) v) (t := f) v0 (show v < 10 by omega)
    have e13 : insL L v (tbf L (L 9 f) v) f 13 v = L 13 v + 1 := by rw [insL_13 L v _ f v v0, if_pos rfl]
    refine gl_ins g1 v0 (by rw [sm 11 (by omega)]; exact v1) (by rw [e13]; omega) (by omega) (by rw [e13]; omega) s0 (by rw [sm 6 (by omega)]; exact s1) ?_
    refine Classical.byContradiction fun z => ?_
    obtain ⟨w0, w1, w2⟩ := vehOf_at z
    obtain ⟨q0, q1, q2, -⟩ := posOf_at w2
    rw [sm 11 (by omega)] at w1
    generalize vehOf (insL L v (tbf L (L 9 f) v) f) s = w at *
    generalize posOf (insL L v (tbf L (L 9 f) v) f) s w = q at *
    rw [insL_row L v _ f w v0 w0] at q2
    rw [insL_13 L v _ f w v0] at q1
    by_cases hw : w = v
    · rw [if_pos hw] at q1 q2
      rcases insE_cs (f := L (15 + v)) (n := L 13 v) (t := f) b.1 b.2 q0 (show q ≤ L 13 v by omega) with ⟨c1, c2⟩ | ⟨c1, c2⟩ | ⟨c1, c2⟩
      · rw [c2] at q2; exact u3 q2
      · rw [c2] at q2; exact no_duty u2 v0 v1 q0 (by omega) q2
      · rw [c2] at q2; exact no_duty u2 v0 v1 (by omega) (by omega) q2
    · rw [if_neg hw] at q1 q2
      exact no_duty u2 w0 w1 q0 q1 q2
  · rw [if_pos h0] at h
    omega
theorem gl_cut {L : LFn} (g : GL L) {v n : Int} (n0 : 0 ≤ n) (n1 : n ≤ L 13 v) : GL (up1 L 13 v n) := by
  have e : ∀ c, c ≠ 13 → up1 L 13 v n c = L c := fun c h => up1_nc h
  exact g.same (g.1.cut n0 n1) (g.2.2.1.cut n1) (e 4 (by omega)) (e 6 (by omega)) (e 7 (by omega)) (e 8 (by omega)) (e 10 (by omega))
theorem gl_exc {L : LFn} (g : GL L) {v w m : Int} (h : qExc L v w m = 0) : GL (excL L v w m) := by
  unfold qExc at h
  by_cases hv : 0 ≤ v ∧ v < L 11 3
  · by_cases hw : 0 ≤ w ∧ w < L 11 3
    · by_cases hne : v = w
      · rw [if_neg (fun z => z hv), if_neg (fun z => z hw), if_pos hne] at h; omega
      · have e : ∀ c, c < 13 → excL L v w m c = L c := fun c hc => by
          unfold excL exL1
          rw [joinL_nc (by omega) (by omega), joinL_nc (by omega) (by omega)]
        exact g.same (exc_wfn g.1 g.2.2.1 hv.1 hv.2 hw.1 hw.2 hne).2 (exc_uni g.1 g.2.2.1 hv.1 hv.2 hw.1 hw.2 hne) (e 4 (by omega)) (e 6 (by omega)) (e 7 (by omega)) (e 8 (by omega)) (e 10 (by omega))
    · rw [if_neg (fun z => z hv), if_pos hw] at h; omega
  · rw [if_pos hv] at h; omega
theorem gl_blocks {L L' : LFn} (g : GL L) (e : ∀ c, c < 25 → L' c = L c) (hb : WFb L') : GL L' := by
  obtain ⟨⟨ht, hm, hv, hbk⟩, hz, hU, hT⟩ := g
  have nv := hv.1
  refine GL.same ⟨⟨ht, hm, hv, hbk⟩, hz, hU, hT⟩ ⟨?_, ?_, ⟨by rw [e 11 (by omega)]; exact hv.1, fun v v0 v1 => ?_⟩, hb⟩ (hU.same (by rw [e 11 (by omega)]) (e 13 (by omega)) (fun v v0 v1 => e _ (by omega))) (e 4 (by omega)) (e 6 (by omega)) (e 7 (by omega)) (e 8 (by omega)) (e 10 (by omega))
  · unfold WFt
    rw [e 6 (by omega), e 7 (by omega), e 8 (by omega), e 9 (by omega), e 10 (by omega)]
    exact ht
  · unfold WFm
    rw [e 2 (by omega), e 3 (by omega), e 4 (by omega), e 5 (by omega)]
    exact hm
  · rw [e 11 (by omega)] at v1
    rw [e 12 (by omega), e 13 (by omega), e (15 + v) (by omega), e 6 (by omega)]
    exact hv.2 v v0 v1
theorem gl_addK {L : LFn} (g : GL L) {s a b : Int} (h : qBlk L s a b = 0) : GL (addK L s a b) := by
  have hbk := g.1.2.2.2
  have nb := hbk.1
  unfold qBlk at h
  by_cases h1 : 0 ≤ s ∧ s < 11
  · by_cases h2 : 0 ≤ a ∧ a ≤ 2000
    · by_cases h3 : a ≤ b ∧ b ≤ 2000
      · rw [if_neg (fun z => z h1), if_neg (fun z => z h2), if_neg (fun z => z h3)] at h
        have hn : L 25 3 ≠ 6 := fun z => by rw [if_pos z] at h; omega
        have l26 : ∀ x, addK L s a b 26 x = if x = L 25 3 then s else L 26 x := fun x => by
          unfold addK
          rw [up1_nc (c' := 26) (by omega), up1_nc (c' := 26) (by omega), up1_nc (c' := 26) (by omega), up1_any]
          by_cases h : x = L 25 3
          · rw [if_pos ⟨rfl, h⟩, if_pos h]
          · rw [if_neg (fun z => h z.2), if_neg h]
        have l27 : ∀ x, addK L s a b 27 x = if x = L 25 3 then a else L 27 x := fun x => by
          unfold addK
          rw [up1_nc (c' := 27) (by omega), up1_nc (c' := 27) (by omega), up1_any, up1_nc (c' := 27) (by omega)]
          by_cases h : x = L 25 3
          · rw [if_pos ⟨rfl, h⟩, if_pos h]
          · rw [if_neg (fun z => h z.2), if_neg h]
        have l28 : ∀ x, addK L s a b 28 x = if x = L 25 3 then b else L 28 x := fun x => by
          unfold addK
          rw [up1_nc (c' := 28) (by omega), up1_any, up1_nc (c' := 28) (by omega), up1_nc (c' := 28) (by omega)]
          by_cases h : x = L 25 3
          · rw [if_pos ⟨rfl, h⟩, if_pos h]
          · rw [if_neg (fun z => h z.2), if_neg h]
        have l25 : addK L s a b 25 3 = L 25 3 + 1 := by unfold addK; rw [up1_at]
        refine gl_blocks g (fun c hc => ?_) ⟨by rw [l25]; omega, fun x x0 x1 => ?_⟩
        · unfold addK
          rw [up1_nc (by omega), up1_nc (by omega), up1_nc (by omega), up1_nc (by omega)]
        · rw [l25] at x1
          rw [l26, l27, l28]
          by_cases hx : x = L 25 3
          · rw [if_pos hx, if_pos hx, if_pos hx]
            omega
          · rw [if_neg hx, if_neg hx, if_neg hx]
            exact hbk.2 x x0 (by omega)
      · rw [if_neg (fun z => z h1), if_neg (fun z => z h2), if_pos h3] at h; omega
    · rw [if_neg (fun z => z h1), if_pos h2] at h; omega
  · rw [if_pos h1] at h; omega
theorem gl_rmK {L : LFn} (g : GL L) {b : Int} (h : qUnb L b = 0) : GL (rmK L b) := by
  have hbk := g.1.2.2.2
  have nb := hbk.1
  unfold qUnb at h
  by_cases h1 : 0 ≤ b ∧ b < L 25 3
  · have l25 : rmK L b 25 3 = L 25 3 - 1 := by unfold rmK; rw [up1_at]
    have l26 : rmK L b 26 = shf (L 26) b (L 25 3) := by
      unfold rmK
      rw [up1_nc (by omega), upr_ne (by omega), upr_ne (by omega), upr_at]
    have l27 : rmK L b 27 = shf (L 27) b (L 25 3) := by
      unfold rmK
      rw [up1_nc (by omega), upr_ne (by omega), upr_at]
    have l28 : rmK L b 28 = shf (L 28) b (L 25 3) := by
      unfold rmK
      rw [up1_nc (by omega), upr_at]
    refine gl_blocks g (fun c hc => ?_) ⟨by rw [l25]; omega, fun x x0 x1 => ?_⟩
    · unfold rmK
      rw [up1_nc (by omega), upr_ne (by omega), upr_ne (by omega), upr_ne (by omega)]
    · rw [l25] at x1
      rw [l26, l27, l28]
      unfold shf
      by_cases hx : b ≤ x ∧ x < L 25 3 - 1
      · rw [if_pos hx, if_pos hx, if_pos hx]
        exact hbk.2 (x + 1) (by omega) (by omega)
      · rw [if_neg hx, if_neg hx, if_neg hx]
        exact hbk.2 x x0 (by omega)
  · rw [if_pos h1] at h; omega
theorem gl_trip7 {L : LFn} (g : GL L) {t s : Int} (hs : 0 ≤ s ∧ s ≤ 11) (h8 : s ≠ L 8 t) (h4 : L 4 s ≠ 0) : GL (up1 L 7 t s) := by
  have e : ∀ c, c ≠ 7 → up1 L 7 t s c = L c := fun c h => up1_nc h
  refine ⟨g.1.trip (Or.inl rfl) ⟨fun _ => ⟨hs.1, hs.2, h8⟩, fun z => absurd z (by omega), fun z => absurd z (by omega)⟩, g.2.1.of (e 4 (by omega)) (e 10 (by omega)), g.2.2.1.same (by rw [e 11 (by omega)]) (e 13 (by omega)) (fun v v0 _ => e _ (by omega)), fun u u0 u1 hact => ?_⟩
  rw [e 6 (by omega)] at u1
  rw [e 10 (by omega)] at hact
  have o := g.2.2.2 u u0 u1 hact
  rw [e 4 (by omega), e 8 (by omega), up1_any]
  refine ⟨?_, o.2⟩
  split
  · exact h4
  · exact o.1
theorem gl_trip8 {L : LFn} (g : GL L) {t s : Int} (hs : 0 ≤ s ∧ s ≤ 11) (h7 : L 7 t ≠ s) (h4 : L 4 s ≠ 0) : GL (up1 L 8 t s) := by
  have e : ∀ c, c ≠ 8 → up1 L 8 t s c = L c := fun c h => up1_nc h
  refine ⟨g.1.trip (Or.inr (Or.inl rfl)) ⟨fun z => absurd z (by omega), fun _ => ⟨hs.1, hs.2, h7⟩, fun z => absurd z (by omega)⟩, g.2.1.of (e 4 (by omega)) (e 10 (by omega)), g.2.2.1.same (by rw [e 11 (by omega)]) (e 13 (by omega)) (fun v v0 _ => e _ (by omega)), fun u u0 u1 hact => ?_⟩
  rw [e 6 (by omega)] at u1
  rw [e 10 (by omega)] at hact
  have o := g.2.2.2 u u0 u1 hact
  rw [e 4 (by omega), e 7 (by omega), up1_any]
  refine ⟨o.1, ?_⟩
  split
  · exact h4
  · exact o.2
theorem gl_trip9 {L : LFn} (g : GL L) {t d : Int} (hd : 0 ≤ d ∧ d ≤ 1439) : GL (up1 L 9 t d) := by
  have e : ∀ c, c ≠ 9 → up1 L 9 t d c = L c := fun c h => up1_nc h
  exact g.same (g.1.trip (Or.inr (Or.inr rfl)) ⟨fun z => absurd z (by omega), fun z => absurd z (by omega), fun _ => hd⟩) (g.2.2.1.same (by rw [e 11 (by omega)]) (e 13 (by omega)) (fun v v0 _ => e _ (by omega))) (e 4 (by omega)) (e 6 (by omega)) (e 7 (by omega)) (e 8 (by omega)) (e 10 (by omega))
theorem gl_short {L : LFn} (g : GL L) {t s : Int} (h : qTS L t s = 0) : GL (shortL L t s) := by
  unfold qTS at h
  by_cases h1 : 0 ≤ t ∧ t < L 6 4
  · rw [if_neg (fun z => z h1)] at h
    have h2 : insd L t s := Classical.byContradiction fun z => by rw [if_pos z] at h; omega
    have h7 := g.1.1.2 t h1.1 h1.2
    obtain ⟨o1, o2, o3, o4⟩ := h2
    exact gl_outB (gl_trip8 g (by have := o1.1; have := o1.2; omega) (fun z => o2 z.symm) (by omega)) t
  · rw [if_pos h1] at h; omega
theorem gl_late {L : LFn} (g : GL L) {t s : Int} (h : qSL L t s = 0) : GL (lateL L t s) := by
  unfold qSL at h
  by_cases h1 : 0 ≤ t ∧ t < L 6 4
  · rw [if_neg (fun z => z h1)] at h
    have h2 : insd L t s := Classical.byContradiction fun z => by rw [if_pos z] at h; omega
    rw [if_neg (fun z => z h2)] at h
    have h3 : tmA L t s ≤ 1439 := Classical.byContradiction fun z => by rw [if_pos (by omega)] at h; omega
    have h7 := g.1.1.2 t h1.1 h1.2
    obtain ⟨o1, o2, o3, o4⟩ := h2
    have hb := (btw_bd g.1.2.1 (a := L 7 t) (b := s) (by omega) (by omega) (by have := o1.1; omega) (by have := o1.2; omega)).1
    exact gl_outF (gl_trip9 (gl_trip7 g (by have := o1.1; have := o1.2; omega) o3 (by omega)) ⟨by unfold tmA; omega, h3⟩) t
  · rw [if_pos h1] at h; omega
theorem gl_lnk {L : LFn} (g : GL L) : GL (lnk L).1 := by
  have n0 := (actS_size g.1.1).1
  obtain ⟨s, w, u, -⟩ := lnk_good g.1 (actS L).1.toNat (by omega)
  exact g.same w u (s 4 (by omega)) (s 6 (by omega)) (s 7 (by omega)) (s 8 (by omega)) (s 10 (by omega))
