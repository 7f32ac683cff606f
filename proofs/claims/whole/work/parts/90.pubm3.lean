/-! ===== giveRound; room in the duties ===== -/
theorem pigeon {f : Int → Int} {n m : Int} (hn : 0 ≤ n) (hm : 0 ≤ m) (hf : ∀ x, 0 ≤ x → x < n → 0 ≤ f x ∧ f x < m) (hi : ∀ x y, 0 ≤ x → x < n → 0 ≤ y → y < n → f x = f y → x = y) : n ≤ m := by
  have h := sumT_inj (f := f) (g := fun _ => 1) (a := 0) (b := n) (n := m) hn hm (fun j j0 j1 => Or.inr (hf j j0 j1)) (fun j j' a b c d e _ => hi j j' a b c d e) (fun _ _ _ => by show (0 : Int) ≤ 1; decide)
  have one : ∀ k : Nat, sumT (fun _ => (1 : Int)) 0 (k : Int) = k := fun k => by
    induction k with
    | zero => exact sumT_same _ _
    | succ k ih =>
      rw [show ((k + 1 : Nat) : Int) = (k : Int) + 1 by omega, sumT_step _ (by omega), ih]
  have e : sumT (fun j => if f j = -1 then 0 else (fun _ => (1 : Int)) (f j)) 0 n = sumT (fun _ => (1 : Int)) 0 n := sumT_congr (fun x x0 x1 => by
    have := hf x x0 x1
    show (if f x = -1 then 0 else (1 : Int)) = 1
    rw [if_neg (by omega)])
  rw [e, show n = ((n.toNat : Nat) : Int) by omega, show m = ((m.toNat : Nat) : Int) by omega, one, one] at h
  omega
theorem no_duty {L : LFn} {t : Int} (h : vehOf L t = -1) {v p : Int} (v0 : 0 ≤ v) (v1 : v < L 11 3) (p0 : 0 ≤ p) (p1 : p < L 13 v) : L (15 + v) p ≠ t := by
  intro e
  rcases srch_spec (p := fun w => decide (posOf L t w ≠ -1)) (k := 0) (b := L 11 3) with ⟨-, h2⟩ | ⟨h1, -⟩
  · have h3 := h2 v v0 v1
    simp only [decide_eq_false_iff_not, Classical.not_not] at h3
    rcases srch_spec (p := fun q => decide (L (15 + v) q = t)) (k := 0) (b := L 13 v) with ⟨-, h4⟩ | ⟨h4, -⟩
    · have := h4 p p0 p1
      simp at this
      exact this e
    · have h' : srch (fun q => decide (L (15 + v) q = t)) 0 (L 13 v) = -1 := h3
      omega
  · have h' : srch (fun w => decide (posOf L t w ≠ -1)) 0 (L 11 3) = -1 := h
    omega
theorem roomA {L : LFn} (hU : Uni L) (hw : WFn L) {v t : Int} (v0 : 0 ≤ v) (v1 : v < L 11 3) (t0 : 0 ≤ t) (t1 : t < L 6 4) (h : vehOf L t = -1) : L 13 v + 1 ≤ L 6 4 := by
  obtain ⟨b1, b2, b3, b4, b5⟩ := hw.2.2.1.2 v v0 v1
  refine pigeon (f := fun x => if x < L 13 v then L (15 + v) x else t) (by omega) hw.1.1.1 (fun x x0 x1 => ?_) (fun x y x0 x1 y0 y1 e => ?_)
  · show 0 ≤ (if x < L 13 v then L (15 + v) x else t) ∧ (if x < L 13 v then L (15 + v) x else t) < L 6 4
    split
    · exact b5 x x0 (by assumption)
    · exact ⟨t0, t1⟩
  · have e' : (if x < L 13 v then L (15 + v) x else t) = (if y < L 13 v then L (15 + v) y else t) := e
    by_cases hx : x < L 13 v
    · by_cases hy : y < L 13 v
      · rw [if_pos hx, if_pos hy] at e'
        exact (hU v v x y v0 v1 v0 v1 x0 hx y0 hy e').2
      · rw [if_pos hx, if_neg hy] at e'
        exact absurd e' (no_duty h v0 v1 x0 hx)
    · by_cases hy : y < L 13 v
      · rw [if_neg hx, if_pos hy] at e'
        exact absurd e'.symm (no_duty h v0 v1 y0 hy)
      · omega
theorem roomB {L : LFn} (hU : Uni L) (hw : WFn L) {v t s : Int} (v0 : 0 ≤ v) (v1 : v < L 11 3) (t0 : 0 ≤ t) (t1 : t < L 6 4) (h : vehOf L t = -1) (s0 : 0 ≤ s) (s1 : s < L 6 4) (h' : vehOf L s = -1) (hne : t ≠ s) : L 13 v + 2 ≤ L 6 4 := by
  obtain ⟨b1, b2, b3, b4, b5⟩ := hw.2.2.1.2 v v0 v1
  have key : ∀ x, 0 ≤ x → (x < L 13 v ∧ (if x < L 13 v then L (15 + v) x else if x = L 13 v then t else s) = L (15 + v) x) ∨ (x = L 13 v ∧ (if x < L 13 v then L (15 + v) x else if x = L 13 v then t else s) = t) ∨ (L 13 v < x ∧ (if x < L 13 v then L (15 + v) x else if x = L 13 v then t else s) = s) := fun x x0 => by
    by_cases h1 : x < L 13 v
    · exact Or.inl ⟨h1, if_pos h1⟩
    · by_cases h2 : x = L 13 v
      · exact Or.inr (Or.inl ⟨h2, by rw [if_neg h1, if_pos h2]⟩)
      · exact Or.inr (Or.inr ⟨by omega, by rw [if_neg h1, if_neg h2]⟩)
  refine pigeon (f := fun x => if x < L 13 v then L (15 + v) x else if x = L 13 v then t else s) (by omega) hw.1.1.1 (fun x x0 x1 => ?_) (fun x y x0 x1 y0 y1 e => ?_)
  · show 0 ≤ (if x < L 13 v then L (15 + v) x else if x = L 13 v then t else s) ∧ (if x < L 13 v then L (15 + v) x else if x = L 13 v then t else s) < L 6 4
    rcases key x x0 with ⟨k1, k2⟩ | ⟨k1, k2⟩ | ⟨k1, k2⟩ <;> rw [k2]
    · exact b5 x x0 k1
    · exact ⟨t0, t1⟩
    · exact ⟨s0, s1⟩
  · have e' : (if x < L 13 v then L (15 + v) x else if x = L 13 v then t else s) = (if y < L 13 v then L (15 + v) y else if y = L 13 v then t else s) := e
    rcases key x x0 with ⟨k1, k2⟩ | ⟨k1, k2⟩ | ⟨k1, k2⟩ <;> rcases key y y0 with ⟨m1, m2⟩ | ⟨m1, m2⟩ | ⟨m1, m2⟩ <;> rw [k2, m2] at e'
    · exact (hU v v x y v0 v1 v0 v1 x0 k1 y0 m1 e').2
    · exact absurd e' (no_duty h v0 v1 x0 k1)
    · exact absurd e' (no_duty h' v0 v1 x0 k1)
    · exact absurd e'.symm (no_duty h v0 v1 y0 m1)
    · omega
    · exact absurd e' hne
    · exact absurd e'.symm (no_duty h' v0 v1 y0 m1)
    · exact absurd e'.symm hne
    · omega
theorem roomC {L : LFn} (hU : Uni L) (hw : WFn L) {v w : Int} (v0 : 0 ≤ v) (v1 : v < L 11 3) (w0 : 0 ≤ w) (w1 : w < L 11 3) (hne : v ≠ w) : L 13 v + L 13 w ≤ L 6 4 := by
  obtain ⟨b1, b2, b3, b4, b5⟩ := hw.2.2.1.2 v v0 v1
  obtain ⟨c1, c2, c3, c4, c5⟩ := hw.2.2.1.2 w w0 w1
  refine pigeon (f := fun x => if x < L 13 v then L (15 + v) x else L (15 + w) (x - L 13 v)) (by omega) hw.1.1.1 (fun x x0 x1 => ?_) (fun x y x0 x1 y0 y1 e => ?_)
  · show 0 ≤ (if x < L 13 v then L (15 + v) x else L (15 + w) (x - L 13 v)) ∧ (if x < L 13 v then L (15 + v) x else L (15 + w) (x - L 13 v)) < L 6 4
    split
    · exact b5 x x0 (by assumption)
    · exact c5 _ (by omega) (by omega)
  · have e' : (if x < L 13 v then L (15 + v) x else L (15 + w) (x - L 13 v)) = (if y < L 13 v then L (15 + v) y else L (15 + w) (y - L 13 v)) := e
    by_cases hx : x < L 13 v
    · by_cases hy : y < L 13 v
      · rw [if_pos hx, if_pos hy] at e'
        exact (hU v v x y v0 v1 v0 v1 x0 hx y0 hy e').2
      · rw [if_pos hx, if_neg hy] at e'
        exact absurd (hU v w x _ v0 v1 w0 w1 x0 hx (by omega) (by omega) e').1 hne
    · by_cases hy : y < L 13 v
      · rw [if_neg hx, if_pos hy] at e'
        exact absurd (hU v w y _ v0 v1 w0 w1 y0 hy (by omega) (by omega) e'.symm).1 hne
      · rw [if_neg hx, if_neg hy] at e'
        have := (hU w w _ _ w0 w1 w0 w1 (by omega) (by omega) (by omega) (by omega) e').2
        omega
/-! putting a trip into a duty -/
theorem insE_cs {f : Int → Int} {p n t x : Int} (p0 : 0 ≤ p) (p1 : p ≤ n) (x0 : 0 ≤ x) (x1 : x ≤ n) : (x = p ∧ insE f p n t x = t) ∨ (x < p ∧ insE f p n t x = f x) ∨ (p < x ∧ insE f p n t x = f (x - 1)) := by
  unfold insE
  by_cases h : x = p
  · exact Or.inl ⟨h, by rw [h, upI_at]⟩
  · rw [upI_ne h]
    unfold shU
    by_cases h2 : p < x
    · exact Or.inr (Or.inr ⟨h2, if_pos ⟨h2, x1⟩⟩)
    · exact Or.inr (Or.inl ⟨by omega, if_neg (by omega)⟩)
theorem WFn.ins {L : LFn} (hw : WFn L) {v p t : Int} (v0 : 0 ≤ v) (v1 : v < L 11 3) (hl : L 13 v < 30) (p0 : 0 ≤ p) (p1 : p ≤ L 13 v) (t0 : 0 ≤ t) (t1 : t < L 6 4) : WFn (insL L v p t) := by
  obtain ⟨ht, hm, hv, hb⟩ := hw
  have nv := hv.1
  have s := insL_sm (L := L) (p := p) (t := t) v0 (show v < 10 by omega)
  refine ⟨s.t ht, s.m hm, insL_v hv v0 v1 hl p0 p1 t0 t1, ?_⟩
  unfold WFb
  rw [s 25 (by omega), s 26 (by omega), s 27 (by omega), s 28 (by omega)]
  exact hb
theorem Uni.ins {L : LFn} (hU : Uni L) (nv : L 11 3 ≤ 10) {v p t : Int} (v0 : 0 ≤ v) (v1 : v < L 11 3) (p0 : 0 ≤ p) (p1 : p ≤ L 13 v) (h : vehOf L t = -1) : Uni (insL L v p t) := by
  have s := insL_sm (L := L) (p := p) (t := t) v0 (show v < 10 by omega)
  -- what stands at a place
  have key : ∀ w q, 0 ≤ w → w < L 11 3 → 0 ≤ q → q < insL L v p t 13 w → (w = v ∧ q = p ∧ insL L v p t (15 + w) q = t) ∨ ∃ q', 0 ≤ q' ∧ q' < L 13 w ∧ insL L v p t (15 + w) q = L (15 + w) q' ∧ (w = v → q = if q' < p then q' else q' + 1) ∧ (w ≠ v → q = q') := by
    intro w q w0 w1 q0 q1
    rw [insL_13 L v p t w v0] at q1
    rw [insL_row L v p t w v0 w0]
    by_cases hv : w = v
    · subst hv
      rw [if_pos rfl] at q1 ⊢
      rcases insE_cs (f := L (15 + w)) (n := L 13 w) (t := t) p0 p1 q0 (show q ≤ L 13 w by omega) with ⟨c1, c2⟩ | ⟨c1, c2⟩ | ⟨c1, c2⟩
      · exact Or.inl ⟨rfl, c1, c2⟩
      · exact Or.inr ⟨q, q0, by omega, c2, fun _ => by rw [if_pos c1], fun z => absurd rfl z⟩
      · exact Or.inr ⟨q - 1, by omega, by omega, c2, fun _ => by rw [if_neg (by omega)]; omega, fun z => absurd rfl z⟩
    · rw [if_neg hv] at q1 ⊢
      exact Or.inr ⟨q, q0, q1, rfl, fun z => absurd z hv, fun _ => rfl⟩
  intro a b x y a0 a1 b0 b1 x0 x1 y0 y1 e
  rw [s 11 (by omega)] at a1 b1
  rcases key a x a0 a1 x0 x1 with ⟨c1, c2, c3⟩ | ⟨x', d1, d2, d3, d4, d5⟩ <;> rcases key b y b0 b1 y0 y1 with ⟨g1, g2, g3⟩ | ⟨y', k1, k2, k3, k4, k5⟩
  · exact ⟨by omega, by omega⟩
  · rw [c3, k3] at e
    exact absurd e.symm (no_duty h b0 b1 k1 k2)
  · rw [d3, g3] at e
    exact absurd e (no_duty h a0 a1 d1 d2)
  · rw [d3, k3] at e
    obtain ⟨u1, u2⟩ := hU a b x' y' a0 a1 b0 b1 d1 d2 k1 k2 e
    refine ⟨u1, ?_⟩
    subst u1 u2
    by_cases hv : a = v
    · rw [d4 hv, k4 hv]
    · rw [d5 hv, k5 hv]
theorem skip_at {p : Int → Bool} {b j : Int} (j0 : 0 ≤ j) (j1 : j ≤ b) (h1 : ∀ x, 0 ≤ x → x < j → p x = true) (h2 : j < b → p j = false) : skip p 0 b = j := by
  unfold skip
  rcases srch_spec (p := fun x => !p x) (k := 0) (b := b) with ⟨a1, a2⟩ | ⟨a1, a2, a3, a4⟩
  · rw [if_pos a1]
    by_cases h : j < b
    · have := a2 j j0 h
      rw [h2 h] at this
      cases this
    · omega
  · rw [if_neg (by omega)]
    have b1 : ¬ srch (fun x => !p x) 0 b < j := fun q => by
      have := h1 _ a1 q
      rw [this] at a3
      cases a3
    have b2 : ¬ j < srch (fun x => !p x) 0 b := fun q => by
      have := a4 j j0 q
      rw [h2 (by omega)] at this
      cases this
    omega
theorem skip_sp {p : Int → Bool} {b : Int} (hb : 0 ≤ b) : (∀ x, 0 ≤ x → x < skip p 0 b → p x = true) ∧ (skip p 0 b < b → p (skip p 0 b) = false) := by
  unfold skip
  rcases srch_spec (p := fun x => !p x) (k := 0) (b := b) with ⟨a1, a2⟩ | ⟨a1, a2, a3, a4⟩
  · rw [if_pos a1]
    exact ⟨fun x x0 x1 => by simpa using a2 x x0 x1, fun q => absurd q (by omega)⟩
  · rw [if_neg (by omega)]
    exact ⟨fun x x0 x1 => by simpa using a4 x x0 x1, fun _ => by simpa using a3⟩
def qGR (L : LFn) (f s v : Int) : Int := if ¬ ((0 ≤ f ∧ f < L 6 4) ∧ (0 ≤ s ∧ s < L 6 4) ∧ 0 ≤ v ∧ v < L 11 3) then 1 else if rsnR L f s v ≠ 0 then 2 else 0
def rndL (L : LFn) (f s v : Int) : LFn := insL (insL L v (tbf L (L 9 f) v) f) v (tbf L (L 9 f) v + 1) s
/-- the second of a round comes right behind the first -/
theorem round_pl {L : LFn} (hw : WFn L) {f s v : Int} (f0 : 0 ≤ f) (f1 : f < L 6 4) (s0 : 0 ≤ s) (s1 : s < L 6 4) (v0 : 0 ≤ v) (v1 : v < L 11 3) (h : rsnR L f s v = 0) : tbf (insL L v (tbf L (L 9 f) v) f) (insL L v (tbf L (L 9 f) v) f 9 s) v = tbf L (L 9 f) v + 1 := by
  obtain ⟨ht, hm, hv, hb⟩ := hw
  have nv := hv.1
  have nt := ht.1
  obtain ⟨b1, b2, b3, b4, b5⟩ := hv.2 v v0 v1
  have hbd := tbf_bd (L := L) (m := L 9 f) (v := v) b3
  have hsp := skip_sp (p := fun p => decide (L 9 (L (15 + v) p) < L 9 f)) b3
  have sm := insL_sm (L := L) (p := tbf L (L 9 f) v) (t := f) v0 (show v < 10 by omega)
  have af := (arr_bd hm ht f0 f1)
  have as := (arr_bd hm ht s0 s1)
  have h5 := hm.2.2.2.2
  have hd9 : L 9 f < L 9 s ∧ (tbf L (L 9 f) v < L 13 v → L 9 s < L 9 (L (15 + v) (tbf L (L 9 f) v))) := by
    unfold rsnR at h
    split at h
    · omega
    · split at h
      · omega
      · split at h
        · omega
        · rename_i q1 q2 q3
          have q3' : fol L s f := Classical.byContradiction q3
          have a1 : arr L f + L 5 0 ≤ L 9 s := q3'.2
          have e1 : L 9 f + 1 ≤ arr L f := by
            have h7 := ht.2 f f0 f1
            have := (btw_bd hm (a := L 7 f) (b := L 8 f) (by omega) (by omega) (by omega) (by omega)).2.2 (by omega)
            unfold arr
            omega
          have e2 : L 9 s + 1 ≤ arr L s := by
            have h7 := ht.2 s s0 s1
            have := (btw_bd hm (a := L 7 s) (b := L 8 s) (by omega) (by omega) (by omega) (by omega)).2.2 (by omega)
            unfold arr
            omega
          refine ⟨by omega, fun q => ?_⟩
          unfold rsn at h
          split at h
          · omega
          · split at h
            · omega
            · split at h
              · omega
              · rename_i r1 r2 r3
                have r3' : fol L (L (15 + v) (tbf L (L 9 f) v)) s := Classical.byContradiction fun z => r3 ⟨q, z⟩
                have : arr L s + L 5 0 ≤ L 9 (L (15 + v) (tbf L (L 9 f) v)) := r3'.2
                omega
  rw [sm 9 (by omega)]
  have hsp1 : ∀ x, 0 ≤ x → x < tbf L (L 9 f) v → L 9 (L (15 + v) x) < L 9 f := fun x x0 x1 => by
    have := hsp.1 x x0 x1
    simpa using this
  generalize tbf L (L 9 f) v = p at *
  unfold tbf
  rw [insL_13 L v p f v v0, if_pos rfl]
  refine skip_at (by omega) (by omega) (fun x x0 x1 => ?_) (fun q => ?_)
  · rw [sm 9 (by omega), insL_row L v p f v v0 v0, if_pos rfl]
    rcases insE_cs (f := L (15 + v)) (n := L 13 v) (t := f) hbd.1 hbd.2 x0 (show x ≤ L 13 v by omega) with ⟨c1, c2⟩ | ⟨c1, c2⟩ | ⟨c1, c2⟩
    · rw [c2]
      simpa using hd9.1
    · rw [c2]
      have := hsp1 x x0 c1
      simp only [decide_eq_true_eq]
      omega
    · omega
  · rw [sm 9 (by omega), insL_row L v p f v v0 v0, if_pos rfl]
    rcases insE_cs (f := L (15 + v)) (n := L 13 v) (t := f) (x := p + 1) hbd.1 hbd.2 (by omega) (by omega) with ⟨c1, c2⟩ | ⟨c1, c2⟩ | ⟨c1, c2⟩
    · omega
    · omega
    · rw [c2, show p + 1 - 1 = p by omega]
      have := hd9.2 (by omega)
      simp only [decide_eq_false_iff_not]
      omega
theorem rsnR_bd (L : LFn) (f s v : Int) : 0 ≤ rsnR L f s v ∧ rsnR L f s v ≤ 7 := by
  have := rsn_bd L f s v
  unfold rsnR
  split
  · omega
  · split
    · omega
    · split <;> omega
theorem rsnR_free {L : LFn} {f s v : Int} (h : rsnR L f s v = 0) : vehOf L f = -1 ∧ vehOf L s = -1 ∧ f ≠ s := by
  unfold rsnR at h
  split at h
  · omega
  · split at h
    · omega
    · omega
section Pm3
variable {G : GT} {K : List Value → Mem → Prop} {X : String → Mem → Prop} {M : Mem} {L : LFn} {n : Int} {H : Int → LFn}
theorem p_giveRound (hL : M 1 0 = L) (hw : WFn L) (hz : BZ L) (hH : HI M) (hU : Uni L) {f s v : Int} (hfi : I32 f) (hsi : I32 s) (hvi : I32 v)
    (k0 : qGR L f s v = 0 → ∀ M', ChP M M' L (rndL L f s v) → K [iv (tbf L (L 9 f) v)] M') (k1 : qGR L f s v = 1 → X eIX M) (k2 : qGR L f s v = 2 → X "java/lang/UnsupportedOperationException" (wr M 0 0 0 8 (rsnR L f s v))) : Call G 9 4 zX11_giveRound [rr G 0 0 0, iv f, iv s, iv v] M K X := by
  have hw' := hw
  obtain ⟨ht, hm, hv, hbk⟩ := hw
  have nt := ht.1
  have nv := hv.1
  unfold qGR at k0 k1 k2
  refine bX11_giveRound ?_
  rw [hL]
  refine sp_requireIndex hfi (i32 (by omega)) (fun z => kV_mk ?_) (fun z => k1 (if_pos (fun w => z w.1)))
  rw [hL]
  refine sp_requireIndex hsi (i32 (by omega)) (fun y => kV_mk ?_) (fun y => k1 (if_pos (fun w => y w.2.1)))
  rw [hL]
  refine sp_requireIndex hvi (i32 (by omega)) (fun x => kV_mk ?_) (fun x => k1 (if_pos (fun w => x w.2.2)))
  rw [if_neg (fun w => w ⟨z, y, x⟩)] at k0 k2
  have hrb := rsnR_bd L f s v
  refine sp_reasonAgainstRound (by omega) (by omega) (by rw [hL]; exact hv) (by rw [hL]; exact ht) (by rw [hL]; exact hm) z.1 (by rw [hL]; exact z.2) y.1 (by rw [hL]; exact y.2) x.1 (by rw [hL]; exact x.2) (kI_mk ?_)
  rw [hL]
  refine ⟨i32 (by omega), fun u => sp_keep hH (by omega) (by omega) (by rw [hL]; exact hz) (fun M1 f1 kp1 => kV_mk ?_), fun u => k2 (if_pos u)⟩
  rw [if_neg (fun q => q u)] at k0
  have e1 : M1 1 0 = L := (f1.2 0 (Or.inl (by omega)) (by omega)).trans hL
  rw [hL] at kp1
  obtain ⟨u1, u2, u3⟩ := rsnR_free u
  have hr := roomB hU hw' x.1 x.2 z.1 z.2 u1 y.1 y.2 u2 u3
  have hlv := (hv.2 v x.1 x.2).2.2
  have hbd := tbf_bd (L := L) (m := L 9 f) (v := v) hlv.1
  refine sp_positionFor (i := 0) (by omega) (by omega) (by rw [e1]; exact hv) (by rw [e1]; exact ht) z.1 (by rw [e1]; exact z.2) x.1 (by rw [e1]; exact x.2) (kI_mk ?_)
  rw [e1]
  refine sp_insert (i := 0) (by omega) (by omega) x.1 (by omega) (by rw [e1]; exact hlv.1) (by rw [e1]; omega) hbd.1 (by rw [e1]; exact hbd.2) (fun M2 f2 e2 => kV_mk ?_)
  rw [e1] at e2
  have e13 : M2 1 0 13 v = L 13 v + 1 := by rw [e2, insL_13 L v _ f v x.1, if_pos rfl]
  refine sp_insert (i := 0) (by omega) (by omega) x.1 (by omega) (by rw [e13]; omega) (by rw [e13]; omega) (by omega) (by rw [e13]; omega) (fun M3 f3 e3 => kV_mk ?_)
  rw [e2] at e3
  have f9 := f2.tr f3
  exact k0 rfl M3 ⟨fun r i hr => (f9.ne (Or.inl (by omega))).trans (f1.1 r i (by omega) (by omega)), (f9.ne (Or.inr (by decide))).trans (f1.2 2 (Or.inl (by decide)) (by decide)), by rw [e3]; exact LEq.refl _, kp1.line hH.1.1 f9⟩
theorem q_giveRound (hR : RG (M 8 0 1) L) (hw : WFn L) (hP : Pas M n H) (hwH : ∀ r, 0 ≤ r → r < n → WFn (H r)) (hU : Uni L) {f s v : Int} (hfi : I32 f) (hsi : I32 s) (hvi : I32 v)
    (k0 : qGR L f s v = 0 → ∀ M', FrX PM M M' → M' 8 0 0 7 = 0 → RG (M' 8 0 1) (rndL L f s v) → Pas M' (pushN n) (pushH n H L) → K [iv (tbf L (L 9 f) v)] M') (k1 : qGR L f s v = 1 → K [iv 0] (wr M 8 0 0 7 1))
    (k2 : qGR L f s v = 2 → ∀ M', FrX PF M M' → M' 8 0 0 7 = 2 → M' 8 0 0 6 = rsnR L f s v → K [iv 0] M') : Call G 4 0 zX12_giveRound [rr G 8 0 0, iv f, iv s, iv v] M K X := by
  have hw' := hw
  obtain ⟨ht, hm, hv, hbk⟩ := hw
  have hR' : RG (wr M 8 0 0 7 0 8 0 1) L := by rw [thr_g]; exact hR
  have hrb := rsnR_bd L f s v
  have nt := ht.1
  unfold qGR at k0 k1 k2
  refine bX12_giveRound (m_isTrip hR ht hfi (kI_mk ⟨b2i_i32 _, fun z => k1 (if_pos (fun w => (b2i_0.mp z) w.1)), fun z => m_isTrip hR ht hsi (kI_mk ⟨b2i_i32 _, fun y => k1 (if_pos (fun w => (b2i_0.mp y) w.2.1)), fun y => m_isVehicle hR hv hvi (kI_mk ⟨b2i_i32 _, fun x => k1 (if_pos (fun w => (b2i_0.mp x) w.2.2)), fun x => ?_⟩)⟩)⟩))
  have z' := nb z
  have y' := nb y
  have x' := nb x
  rw [if_neg (fun w => w ⟨z', y', x'⟩)] at k0 k2
  refine m_reasonForRound hR' ht hm hv z'.1 z'.2 y'.1 y'.2 x'.1 x'.2 (kI_mk ⟨i32 (by omega), fun u => ?_, fun u => ?_⟩)
  · have u' : rsnR L f s v = 0 := by omega
    rw [if_neg (fun q => q u')] at k0
    obtain ⟨u1, u2, u3⟩ := rsnR_free u'
    have hr := roomB hU hw' x'.1 x'.2 z'.1 z'.2 u1 y'.1 y'.2 u2 u3
    have hlv := (hv.2 v x'.1 x'.2).2.2
    have hbd := tbf_bd (L := L) (m := L 9 f) (v := v) hlv.1
    refine m_begins hR' hw' (fun M1 f1 s1 => kV_mk ?_)
    have g1 : M1 8 0 1 = M 8 0 1 := (f1 8 0 1 (by omega)).trans (thr_g M 0)
    refine m_gives (by rw [g1]; exact hR) hv ht hbk z'.1 z'.2 x'.1 x'.2 (by omega) (fun M2 f2 r2 => kI_mk ?_)
    have hw2 : WFn (insL L v (tbf L (L 9 f) v) f) := hw'.ins x'.1 x'.2 (by omega) hbd.1 hbd.2 z'.1 z'.2
    have pl := round_pl hw' z'.1 z'.2 y'.1 y'.2 x'.1 x'.2 u'
    have sm := insL_sm (L := L) (p := tbf L (L 9 f) v) (t := f) x'.1 (show v < 10 by have := hv.1; omega)
    refine m_gives r2 hw2.2.2.1 hw2.1 hw2.2.2.2 y'.1 (by rw [sm 6 (by omega)]; exact y'.2) x'.1 (by rw [sm 11 (by omega)]; exact x'.2) (by rw [insL_13 L v _ f v x'.1, if_pos rfl]; omega) (fun M3 f3 r3 => kI_mk ?_)
    rw [pl] at r3
    exact m_done hP hw' hwH f1 s1 (f2.tr f3) r3 (fun M4 f4 e7 g4 p4 => k0 rfl M4 f4 e7 (by rw [g4]; exact r3) p4)
  · refine bX12_fails (kI_mk (k2 (if_pos (by omega)) _ (FrX.wr (FrX.wr (FrX.wr FrX.rf (show PF 0 7 from ⟨rfl, Or.inr rfl⟩) 0) (show PF 0 6 from ⟨rfl, Or.inl rfl⟩) _) (show PF 0 7 from ⟨rfl, Or.inr rfl⟩) 2) (wr_at _ _ _ _ _ _) ?_))
    rw [wr_nk (by omega), wr_at]
end Pm3
