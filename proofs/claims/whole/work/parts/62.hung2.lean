/-! ===== the pairing: one row more, as numbers ===== -/
theorem sumT_head (f : Int → Int) {a k : Int} (h : a < k) : sumT f a k = f a + sumT f (a + 1) k := by
  refine up_ind (P := fun k => sumT f a k = f a + sumT f (a + 1) k) (show a + 1 ≤ k by omega) ?_ (fun x h1 h2 ih => ?_)
  · show sumT f a (a + 1) = f a + sumT f (a + 1) (a + 1)
    rw [sumT_step f (Int.le_refl a), sumT_same, sumT_same]
    omega
  · show sumT f a (x + 1) = f a + sumT f (a + 1) (x + 1)
    have ih' : sumT f a x = f a + sumT f (a + 1) x := ih
    rw [sumT_step f (by omega), sumT_step f h1, ih']
    omega
/-- what is not below its length is 1 everywhere -/
theorem sum01_all {f : Int → Int} {a k : Int} (hk : a ≤ k) (h : ∀ x, a ≤ x → x < k → f x ≤ 1) (hs : k - a ≤ sumT f a k) {j : Int} (h0 : a ≤ j) (h1 : j < k) : f j = 1 := by
  have q := sumT_upI f 1 h0 h1
  have b := sumT_mn (f := upI f j 1) (g := fun _ => 1) hk (fun x x0 x1 => by
    show (if x = j then 1 else f x) ≤ 1
    split
    · exact Int.le_refl _
    · exact h x x0 x1)
  have c := sumT_bd (f := fun _ => 1) (a := a) (lo := 1) (hi := 1) (k := k) hk (fun _ _ _ => ⟨Int.le_refl _, Int.le_refl _⟩)
  have := h j h0 h1
  omega
theorem sum01_free {p : Int → Int} {n : Int} (hn : 0 ≤ n) (hs : sumT (fun c => if p c = 0 then 0 else 1) 1 (n + 1) < n) : ∃ c, 1 ≤ c ∧ c ≤ n ∧ p c = 0 := by
  refine Classical.byContradiction (fun hx => ?_)
  have e : sumT (fun c => if p c = 0 then 0 else 1) 1 (n + 1) = sumT (fun _ => 1) 1 (n + 1) := sumT_congr (fun c c0 c1 => if_neg (fun w => hx ⟨c, c0, by omega, w⟩))
  have c := sumT_bd (f := fun _ => 1) (a := 1) (lo := 1) (hi := 1) (k := n + 1) (by omega) (fun _ _ _ => ⟨Int.le_refl _, Int.le_refl _⟩)
  omega
def HVb (V : Int → Int → Int) (n : Int) : Prop := ∀ r c, 1 ≤ r → r ≤ n → 1 ≤ c → c ≤ n → -1000 ≤ V r c ∧ V r c ≤ 0
/-- between two rows: k rows have their columns -/
def HA (V : Int → Int → Int) (u v p : Int → Int) (n k : Int) : Prop :=
  (∀ r c, 1 ≤ r → r ≤ k → 1 ≤ c → c ≤ n → u r + v c ≤ V r c) ∧
  (∀ c, 1 ≤ c → c ≤ n → 0 ≤ p c ∧ p c ≤ k ∧ (p c ≠ 0 → u (p c) + v c = V (p c) c) ∧ (p c = 0 → v c = 0) ∧ v c ≤ 0) ∧
  (∀ c c', 1 ≤ c → c ≤ n → 1 ≤ c' → c' ≤ n → p c = p c' → p c ≠ 0 → c = c') ∧
  (∀ r, 1 ≤ r → r ≤ k → u r ≤ 0) ∧ (∀ r, k < r → r ≤ n → u r = 0) ∧
  sumT (fun c => if p c = 0 then 0 else 1) 1 (n + 1) = k ∧
  sumT (fun c => if p c = 0 then 0 else u (p c)) 1 (n + 1) + sumT v 0 (n + 1) = 0 ∧ sumT u 1 (n + 1) + sumT v 0 (n + 1) = 0
/-- while row s looks for a column -/
def HB (V : Int → Int → Int) (u v p bf sl rc d : Int → Int) (n s col step : Int) : Prop :=
  (1 ≤ s ∧ s ≤ n ∧ 0 ≤ col ∧ col ≤ n ∧ 0 ≤ step ∧ rc col = 0 ∧ p 0 = s) ∧
  (∀ c, 0 ≤ c → c ≤ n → (rc c = 0 ∨ rc c = 1) ∧ (rc c = 1 → p c ≠ 0 ∧ 0 ≤ d c ∧ d c < step)) ∧
  (∀ r c, 1 ≤ r → r ≤ s → (r < s ∨ 1 ≤ step) → 1 ≤ c → c ≤ n → u r + v c ≤ V r c) ∧
  (∀ c, 1 ≤ c → c ≤ n → 0 ≤ p c ∧ p c < s ∧ (p c ≠ 0 → u (p c) + v c = V (p c) c) ∧ (p c = 0 → v c = 0) ∧ v c ≤ 0) ∧
  (∀ c c', 1 ≤ c → c ≤ n → 1 ≤ c' → c' ≤ n → p c = p c' → p c ≠ 0 → c = c') ∧
  (∀ r, s < r → r ≤ n → u r = 0) ∧
  (sumT (fun c => if p c = 0 then 0 else 1) 1 (n + 1) = s - 1 ∧ sumT (fun c => (if p c = 0 then 0 else u (p c)) + v c) 0 (n + 1) = 0 ∧ sumT u 1 (n + 1) + sumT v 0 (n + 1) = 0) ∧
  sumT rc 0 (n + 1) = step ∧
  (step = 0 → col = 0 ∧ u s = 0 ∧ (∀ c, 0 ≤ c → c ≤ n → rc c = 0) ∧ ∀ c, 1 ≤ c → c ≤ n → sl c = 1000000) ∧
  (1 ≤ step → col ≠ 0 ∧ -1000 ≤ u s ∧ sl col = 0 ∧ rc 0 = 1) ∧
  (1 ≤ step → ∀ c, 1 ≤ c → c ≤ n → rc c = 0 → 0 ≤ bf c ∧ bf c ≤ n ∧ rc (bf c) = 1 ∧ sl c = V (p (bf c)) c - u (p (bf c)) - v c ∧ ∀ b, 0 ≤ b → b ≤ n → rc b = 1 → sl c ≤ V (p b) c - u (p b) - v c) ∧
  (∀ c, 1 ≤ c → c ≤ n → rc c = 1 → 0 ≤ bf c ∧ bf c ≤ n ∧ rc (bf c) = 1 ∧ u (p (bf c)) + v c = V (p (bf c)) c ∧ d (bf c) < d c)
section Hg2
variable {V : Int → Int → Int} {u v p bf sl rc d u' v' bf1 sl1 sl2 rc1 : Int → Int} {n s col step ne dl : Int}
theorem HB.inj (h : HB V u v p bf sl rc d n s col step) {b b' : Int} (b0 : 0 ≤ b) (b1 : b ≤ n) (c0 : 0 ≤ b') (c1 : b' ≤ n) (e : p b = p b') (hz : p b ≠ 0) : b = b' := by
  obtain ⟨⟨a1, a2, a3, a4, a5, a6, a7⟩, -, -, h4, h5, -⟩ := h
  by_cases hb : b = 0
  · by_cases hb' : b' = 0
    · omega
    · have := h4 b' (by omega) c1
      rw [hb, a7] at e
      omega
  · by_cases hb' : b' = 0
    · have := h4 b (by omega) b1
      rw [hb', a7] at e
      omega
    · exact h5 b b' (by omega) b1 (by omega) c1 e hz
/-- the bounds of the numbers -/
theorem HB.bd (h : HB V u v p bf sl rc d n s col step) (hV : HVb V n) : (∀ r, 1 ≤ r → r ≤ s → (r < s → ∃ c, 1 ≤ c ∧ c ≤ n ∧ p c = r) → -1000 ≤ u r ∧ u r ≤ 0) ∧ ∀ c, 1 ≤ c → c ≤ n → -1000 ≤ v c ∧ v c ≤ 0 := by
  obtain ⟨⟨a1, a2, a3, a4, a5, a6, a7⟩, h2, h3, h4, h5, h6, ⟨h7, -⟩, h8, h9, h10, h11, h12⟩ := h
  obtain ⟨f, f0, f1, f2⟩ := sum01_free (p := p) (n := n) (by omega) (by omega)
  have vf := (h4 f f0 f1).2.2.2.1 f2
  have up : ∀ r, 1 ≤ r → r ≤ s → u r ≤ 0 := by
    intro r r0 r1
    by_cases hz : r < s ∨ 1 ≤ step
    · have := h3 r f r0 r1 hz f0 f1
      have := hV r f r0 (by omega) f0 f1
      omega
    · have := (h9 (by omega)).2.1
      rw [show r = s by omega, this]
      exact Int.le_refl _
  refine ⟨fun r r0 r1 hr => ⟨?_, up r r0 r1⟩, fun c c0 c1 => ?_⟩
  · by_cases hz : r < s
    · obtain ⟨c, c0, c1, c2⟩ := hr hz
      have q := h4 c c0 c1
      have q2 := q.2.2.1 (by omega)
      rw [c2] at q2
      have := hV r c r0 (by omega) c0 c1
      omega
    · have hrs : r = s := by omega
      subst hrs
      by_cases hz2 : 1 ≤ step
      · exact (h10 hz2).2.1
      · have := (h9 (by omega)).2.1
        omega
  · have q := h4 c c0 c1
    by_cases hz : p c = 0
    · have := q.2.2.2.1 hz
      omega
    · have q2 := q.2.2.1 hz
      have := hV (p c) c (by omega) (by omega) c0 c1
      have := up (p c) (by omega) (by omega)
      omega
/-- one column more is reached -/
theorem hb_step (hV : HVb V n) (h : HB V u v p bf sl rc d n s col step) (hp : p col ≠ 0) (e1 : rc1 = upI rc col 1)
    (eA : ∀ c, 1 ≤ c → c ≤ n → rc1 c = 0 → sl1 c = min (sl c) (V (p col) c - u (p col) - v c) ∧ bf1 c = if V (p col) c - u (p col) - v c < sl c then col else bf c)
    (eB : ∀ c, ¬ (1 ≤ c ∧ c ≤ n ∧ rc1 c = 0) → sl1 c = sl c ∧ bf1 c = bf c)
    (eC : (ne = 0 ∧ ∀ c, 1 ≤ c → c ≤ n → rc1 c ≠ 0) ∨ (1 ≤ ne ∧ ne ≤ n ∧ rc1 ne = 0 ∧ ∀ c, 1 ≤ c → c ≤ n → rc1 c = 0 → sl1 ne ≤ sl1 c)) (edl : dl = if ne = 0 then 0 else sl1 ne)
    (eU : ∀ r, u' r = u r + sumT (fun b => if rc1 b = 1 ∧ p b = r then dl else 0) 0 (n + 1)) (eV : ∀ c, 0 ≤ c → c ≤ n → v' c = if rc1 c = 1 then v c - dl else v c) (eS : ∀ c, 0 ≤ c → c ≤ n → sl2 c = if rc1 c = 1 then sl1 c else sl1 c - dl)
    (eT : sumT u' 1 (n + 1) + sumT v' 0 (n + 1) = sumT u 1 (n + 1) + sumT v 0 (n + 1)) :
    HB V u' v' p bf1 sl2 rc1 (upI d col step) n s ne (step + 1) := by
  have hinj := @HB.inj _ _ _ _ _ _ _ _ _ _ _ _ h
  have hbd := h.bd hV
  obtain ⟨⟨a1, a2, a3, a4, a5, a6, a7⟩, h2, h3, h4, h5, h6, ⟨h7, h7b, h7c⟩, h8, h9, h10, h11, h12⟩ := h
  -- the reached ones
  have r1c : ∀ c, 0 ≤ c → c ≤ n → (rc1 c = 1 ↔ (c = col ∨ rc c = 1)) ∧ (rc1 c = 0 ∨ rc1 c = 1) := fun c c0 c1 => by
    rw [e1]
    unfold upI
    have := (h2 c c0 c1).1
    by_cases hc : c = col
    · rw [if_pos hc]; omega
    · rw [if_neg hc]; omega
  have r10 : ∀ c, 0 ≤ c → c ≤ n → rc1 c = 0 → c ≠ col ∧ rc c = 0 := fun c c0 c1 hz => by
    have q := r1c c c0 c1
    have := (h2 c c0 c1).1
    refine ⟨fun w => ?_, ?_⟩
    · have := q.1.mpr (Or.inl w); omega
    · rcases this with w | w
      · exact w
      · have := q.1.mpr (Or.inr w); omega
  have rz : rc1 0 = 1 := by
    by_cases hz : step = 0
    · exact (r1c 0 (by omega) (by omega)).1.mpr (Or.inl (h9 hz).1.symm)
    · exact (r1c 0 (by omega) (by omega)).1.mpr (Or.inr (h10 (by omega)).2.2.2)
  have pnz : ∀ c, 0 ≤ c → c ≤ n → rc1 c = 1 → p c ≠ 0 := fun c c0 c1 hz => by
    rcases (r1c c c0 c1).1.mp hz with w | w
    · rw [w]; exact hp
    · exact ((h2 c c0 c1).2 w).1
  have prg : ∀ c, 0 ≤ c → c ≤ n → 0 ≤ p c ∧ p c ≤ s := fun c c0 c1 => by
    by_cases hz : c = 0
    · rw [hz, a7]; omega
    · have := h4 c (by omega) c1; omega
  -- a free column is not reached
  obtain ⟨f, f0, f1, f2⟩ := sum01_free (p := p) (n := n) (by omega) (by omega)
  have hf : rc1 f = 0 := by
    rcases (r1c f (by omega) f1).2 with w | w
    · exact w
    · exact absurd f2 (pnz f (by omega) f1 w)
  obtain ⟨n1, n2, n3, n4⟩ : 1 ≤ ne ∧ ne ≤ n ∧ rc1 ne = 0 ∧ ∀ c, 1 ≤ c → c ≤ n → rc1 c = 0 → sl1 ne ≤ sl1 c := by
    rcases eC with ⟨-, w⟩ | w
    · exact absurd hf (w f f0 f1)
    · exact w
  rw [if_neg (by omega)] at edl
  -- the slacks
  have pc := prg col a3 a4
  have st0 : step = 0 → ∀ c, 1 ≤ c → c ≤ n → rc1 c = 0 := fun hz c c0 c1 => by
    rcases (r1c c (by omega) c1).2 with w | w
    · exact w
    · rcases (r1c c (by omega) c1).1.mp w with y | y
      · have := (h9 hz).1; omega
      · have := (h9 hz).2.2.1 c (by omega) c1; omega
  have sA : ∀ c, 1 ≤ c → c ≤ n → rc1 c = 0 → ∀ b, 0 ≤ b → b ≤ n → rc1 b = 1 → sl1 c ≤ V (p b) c - u (p b) - v c := fun c c0 c1 hz b b0 b1 hb => by
    rw [(eA c c0 c1 hz).1]
    rcases (r1c b b0 b1).1.mp hb with w | w
    · rw [w]; omega
    · have hs : 1 ≤ step := by
        have := (h2 b b0 b1).2 w; omega
      have := (h11 hs c c0 c1 (r10 c (by omega) c1 hz).2).2.2.2.2 b b0 b1 w
      omega
  have sB : ∀ c, 1 ≤ c → c ≤ n → rc1 c = 0 → 0 ≤ bf1 c ∧ bf1 c ≤ n ∧ rc1 (bf1 c) = 1 ∧ sl1 c = V (p (bf1 c)) c - u (p (bf1 c)) - v c ∧ (upI d col step) (bf1 c) ≤ step ∧ 0 ≤ (upI d col step) (bf1 c) := fun c c0 c1 hz => by
    obtain ⟨q1, q2⟩ := eA c c0 c1 hz
    by_cases hw : V (p col) c - u (p col) - v c < sl c
    · rw [if_pos hw] at q2
      rw [q2, q1]
      refine ⟨a3, a4, (r1c col a3 a4).1.mpr (Or.inl rfl), by omega, ?_, ?_⟩
      · unfold upI; rw [if_pos rfl]; exact Int.le_refl _
      · unfold upI; rw [if_pos rfl]; exact a5
    · rw [if_neg hw] at q2
      have hs : 1 ≤ step := by
        refine Classical.byContradiction (fun w => hw ?_)
        have z := h9 (by omega)
        have := z.2.2.2 c c0 c1
        have q := hV (p col) c (by omega) (by omega) c0 c1
        have q3 := hbd.2 c c0 c1
        have q4 : p col = s := by rw [z.1]; exact a7
        rw [q4] at q ⊢
        have := z.2.1
        omega
      have q := h11 hs c c0 c1 (r10 c (by omega) c1 hz).2
      have q9 := (h2 (bf c) q.1 q.2.1).2 q.2.2.1
      have hne : bf c ≠ col := fun w => by have := q.2.2.1; rw [w] at this; omega
      rw [q2, q1]
      refine ⟨q.1, q.2.1, (r1c (bf c) q.1 q.2.1).1.mpr (Or.inr q.2.2.1), by have := q.2.2.2.1; omega, ?_, ?_⟩
      · unfold upI; rw [if_neg hne]; omega
      · unfold upI; rw [if_neg hne]; omega
  have sC : 1 ≤ step → ∀ c, 1 ≤ c → c ≤ n → rc1 c = 0 → 0 ≤ sl1 c := fun hs c c0 c1 hz => by
    obtain ⟨q1, q2, q3, q4, -⟩ := sB c c0 c1 hz
    have q5 := pnz _ q1 q2 q3
    have q6 := prg _ q1 q2
    have := h3 (p (bf1 c)) c (by omega) (by omega) (Or.inr hs) c0 c1
    omega
  have dl0 : 1 ≤ step → 0 ≤ dl := fun hs => by rw [edl]; exact sC hs ne n1 n2 n3
  -- the prices of rows
  have hu1 : ∀ b, 0 ≤ b → b ≤ n → rc1 b = 1 → u' (p b) = u (p b) + dl := fun b b0 b1 hb => by
    rw [eU]
    have e : sumT (fun b' => if rc1 b' = 1 ∧ p b' = p b then dl else 0) 0 (n + 1) = sumT (fun x => if x = b then dl else 0) 0 (n + 1) := by
      refine sumT_congr (fun b' q0 q1 => ?_)
      show (if rc1 b' = 1 ∧ p b' = p b then dl else 0) = (if b' = b then dl else 0)
      by_cases hz : b' = b
      · rw [hz, if_pos ⟨hb, rfl⟩, if_pos rfl]
      · rw [if_neg hz, if_neg (fun w => hz (hinj q0 (by omega) b0 b1 w.2 (by rw [w.2]; exact pnz b b0 b1 hb)))]
    rw [e, sumT_pick dl b0 (by omega)]
  have hu2 : ∀ r, (∀ b, 0 ≤ b → b ≤ n → rc1 b = 1 → p b ≠ r) → u' r = u r := fun r hr => by
    rw [eU, sumT_z (by omega) (fun b b0 b1 => if_neg (fun w => hr b b0 (by omega) w.1 w.2))]
    omega
  have hu3 : ∀ c, 1 ≤ c → c ≤ n → rc1 c = 0 → p c ≠ 0 → u' (p c) = u (p c) := fun c c0 c1 hz hpc => by
    refine hu2 _ (fun b b0 b1 hb w => ?_)
    have := hinj b0 b1 (by omega) c1 w (by rw [w]; exact hpc)
    rw [this] at hb
    omega
  have hv1 : ∀ c, 0 ≤ c → c ≤ n → rc1 c = 1 → v' c = v c - dl := fun c c0 c1 hz => by rw [eV c c0 c1, if_pos hz]
  have hv0 : ∀ c, 0 ≤ c → c ≤ n → rc1 c = 0 → v' c = v c := fun c c0 c1 hz => by rw [eV c c0 c1, if_neg (by omega)]
  have hs0 : ∀ c, 0 ≤ c → c ≤ n → rc1 c = 0 → sl2 c = sl1 c - dl := fun c c0 c1 hz => by rw [eS c c0 c1, if_neg (by omega)]
  have stc : ∀ c, 1 ≤ c → c ≤ n → rc1 c = 1 → 1 ≤ step := fun c c0 c1 hz => by
    refine Classical.byContradiction (fun w => ?_)
    have := st0 (by omega) c c0 c1
    omega
  have us : u' s = u s + dl := by
    have := hu1 0 (by omega) (by omega) rz
    rw [a7] at this
    exact this
  refine ⟨⟨a1, a2, by omega, n2, by omega, n3, a7⟩, fun c c0 c1 => ⟨(r1c c c0 c1).2, fun hz => ⟨pnz c c0 c1 hz, ?_⟩⟩, fun r c r0 r1 _ c0 c1 => ?_, fun c c0 c1 => ⟨(h4 c c0 c1).1, (h4 c c0 c1).2.1, fun hz => ?_, fun hz => ?_, ?_⟩, h5, fun r r0 r1 => ?_, ⟨h7, ?_, by rw [eT]; exact h7c⟩, ?_, fun hz => by omega, fun _ => ⟨by omega, ?_, ?_, rz⟩, fun _ c c0 c1 hz => ?_, fun c c0 c1 hz => ?_⟩
  · unfold upI
    rcases (r1c c c0 c1).1.mp hz with w | w
    · rw [if_pos w]; omega
    · by_cases hc : c = col
      · rw [if_pos hc]; omega
      · rw [if_neg hc]
        have := (h2 c c0 c1).2 w
        omega
  · by_cases hr : ∃ b, 0 ≤ b ∧ b ≤ n ∧ rc1 b = 1 ∧ p b = r
    · obtain ⟨b, b0, b1, hb, rfl⟩ := hr
      rw [hu1 b b0 b1 hb]
      rcases (r1c c (by omega) c1).2 with w | w
      · rw [hv0 c (by omega) c1 w]
        have := sA c c0 c1 w b b0 b1 hb
        have := n4 c c0 c1 w
        omega
      · rw [hv1 c (by omega) c1 w]
        have := h3 (p b) c r0 r1 (Or.inr (stc c c0 c1 w)) c0 c1
        omega
    · have hrs : r < s := by
        by_cases hz : r = s
        · exact absurd ⟨0, by omega, by omega, rz, by rw [a7, hz]⟩ hr
        · omega
      rw [hu2 r (fun b b0 b1 hb w => hr ⟨b, b0, b1, hb, w⟩)]
      have q := h3 r c r0 r1 (Or.inl hrs) c0 c1
      rcases (r1c c (by omega) c1).2 with w | w
      · rw [hv0 c (by omega) c1 w]; exact q
      · rw [hv1 c (by omega) c1 w]
        have := dl0 (stc c c0 c1 w)
        omega
  · have q := (h4 c c0 c1).2.2.1 hz
    rcases (r1c c (by omega) c1).2 with w | w
    · rw [hv0 c (by omega) c1 w, hu3 c c0 c1 w hz]; exact q
    · rw [hv1 c (by omega) c1 w, hu1 c (by omega) c1 w]; omega
  · rcases (r1c c (by omega) c1).2 with w | w
    · rw [hv0 c (by omega) c1 w]; exact (h4 c c0 c1).2.2.2.1 hz
    · exact absurd hz (pnz c (by omega) c1 w)
  · have q := (h4 c c0 c1).2.2.2.2
    rcases (r1c c (by omega) c1).2 with w | w
    · rw [hv0 c (by omega) c1 w]; exact q
    · rw [hv1 c (by omega) c1 w]
      have := dl0 (stc c c0 c1 w)
      omega
  · rw [hu2 r (fun b b0 b1 hb w => by have := prg b b0 b1; omega)]
    exact h6 r r0 r1
  · refine (sumT_congr (fun c c0 c1 => ?_)).trans h7b
    show (if p c = 0 then 0 else u' (p c)) + v' c = (if p c = 0 then 0 else u (p c)) + v c
    rcases (r1c c c0 (by omega)).2 with w | w
    · rw [hv0 c c0 (by omega) w]
      by_cases hz : p c = 0
      · rw [if_pos hz, if_pos hz]
      · have hc0 : c ≠ 0 := fun y => by rw [y] at w; omega
        rw [if_neg hz, if_neg hz, hu3 c (by omega) (by omega) w hz]
    · have hz := pnz c c0 (by omega) w
      rw [hv1 c c0 (by omega) w, if_neg hz, if_neg hz, hu1 c c0 (by omega) w]
      omega
  · rw [e1, sumT_upI rc 1 a3 (by omega), h8, a6]
    omega
  · rw [us]
    by_cases hs : 1 ≤ step
    · have := dl0 hs
      have := (h10 hs).2.1
      omega
    · have z := h9 (by omega)
      obtain ⟨q1, q2, q3, q4, -⟩ := sB ne n1 n2 n3
      have q5 : bf1 ne = 0 := by
        rcases (r1c _ q1 q2).1.mp q3 with w | w
        · rw [w]; exact z.1
        · have := z.2.2.1 _ q1 q2; omega
      rw [q5, a7] at q4
      have := hV s ne a1 a2 n1 n2
      have := hbd.2 ne n1 n2
      omega
  · rw [hs0 ne (by omega) n2 n3]; omega
  · obtain ⟨q1, q2, q3, q4, -⟩ := sB c c0 c1 hz
    refine ⟨q1, q2, q3, ?_, fun b b0 b1 hb => ?_⟩
    · rw [hs0 c (by omega) c1 hz, hu1 _ q1 q2 q3, hv0 c (by omega) c1 hz]; omega
    · rw [hs0 c (by omega) c1 hz, hu1 b b0 b1 hb, hv0 c (by omega) c1 hz]
      have := sA c c0 c1 hz b b0 b1 hb
      omega
  · have eb := (eB c (fun w => by omega)).2
    rw [eb]
    have hs := stc c c0 c1 hz
    rcases (r1c c (by omega) c1).1.mp hz with w | w
    · have q := h11 hs c c0 c1 (by rw [w]; exact a6)
      have q9 := (h2 (bf c) q.1 q.2.1).2 q.2.2.1
      have hne : bf c ≠ col := fun y => by have := q.2.2.1; rw [y] at this; omega
      have r9 := (r1c (bf c) q.1 q.2.1).1.mpr (Or.inr q.2.2.1)
      refine ⟨q.1, q.2.1, r9, ?_, ?_⟩
      · rw [hu1 _ q.1 q.2.1 r9, hv1 c (by omega) c1 hz]
        have q5 := q.2.2.2.1
        have q6 := (h10 hs).2.2.1
        rw [← w] at q6
        omega
      · unfold upI
        rw [if_neg hne, if_pos w]
        omega
    · have q := h12 c c0 c1 w
      have q9 := (h2 (bf c) q.1 q.2.1).2 q.2.2.1
      have hne : bf c ≠ col := fun y => by have := q.2.2.1; rw [y] at this; omega
      have hnc : c ≠ col := fun y => by rw [y] at w; omega
      have r9 := (r1c (bf c) q.1 q.2.1).1.mpr (Or.inr q.2.2.1)
      refine ⟨q.1, q.2.1, r9, ?_, ?_⟩
      · rw [hu1 _ q.1 q.2.1 r9, hv1 c (by omega) c1 hz]
        have := q.2.2.2.1
        omega
      · unfold upI
        rw [if_neg hne, if_neg hnc]
        exact q.2.2.2.2
end Hg2
