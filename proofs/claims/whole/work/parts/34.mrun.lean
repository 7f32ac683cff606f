/-! ===== the reference's run ===== -/
/-- the reference's rows E stand for the run's state D -/
def RDp (E L D : LFn) : Prop :=
  (∀ v, 0 ≤ v → v < L 11 3 → (E 8 v = -1 ∧ D 66 v = -1) ∨ (D 66 v ≠ -1 ∧ E 8 v = D 67 v ∧ E 9 v = D 68 v ∧ E 10 v = D 69 v)) ∧
  (∀ d s, 0 ≤ d → d < 2 → 0 ≤ s → s < 12 → (E 11 (12 * d + s) = -1 ∧ D (64 + d) s = -1000) ∨ (0 ≤ D (64 + d) s ∧ E 11 (12 * d + s) = D (64 + d) s)) ∧
  (∀ t s, 0 ≤ t → t < 30 → 0 ≤ s → s < 12 → E 12 (12 * t + s) = D (2 + t) s ∧ E 13 (12 * t + s) = D (33 + t) s) ∧
  E 0 18 = D 0 2 ∧ E 0 19 = D 0 3 ∧ E 0 20 = D 0 4
def stE (L E : LFn) (v p rd : Int) : LFn := up1 (up1 (up1 E 8 v p) 9 v (L 7 (L (15 + v) p))) 10 v (max (L 9 (L (15 + v) p)) rd)
theorem RD_beg {E L D : LFn} (hR : RDp E L D) (hv : WFv L) {v p rd : Int} (h0 : 0 ≤ v) (h1 : v < L 11 3) (p0 : 0 ≤ p) (hp : p < L 13 v) : RDp (stE L E v p rd) L (begT L D v p rd) := by
  obtain ⟨r1, r2, r3, r4, r5, r6⟩ := hR
  have hd := (hv.2 v h0 h1).2.2.2.2 p p0 hp
  unfold stE begT
  rw [if_pos hp]
  refine ⟨fun w w0 w1 => ?_, fun d s q0 q1 q2 q3 => ?_, fun t s q0 q1 q2 q3 => ?_, ?_, ?_, ?_⟩
  · rw [up1_nc (c := 10) (c' := 8) (by omega), up1_nc (c := 9) (c' := 8) (by omega), up1_nc (c := 10) (c' := 9) (by omega),
      up1_nc (c := 69) (c' := 66) (by omega), up1_nc (c := 68) (c' := 66) (by omega), up1_nc (c := 69) (c' := 67) (by omega), up1_nc (c := 68) (c' := 67) (by omega), up1_nc (c := 66) (c' := 67) (by omega), up1_nc (c := 69) (c' := 68) (by omega)]
    by_cases hw : w = v
    · right
      subst hw
      rw [up1_at, up1_at, up1_at, up1_at, up1_at, up1_at, up1_at]
      exact ⟨by omega, rfl, rfl, rfl⟩
    · rw [up1_nk hw, up1_nk hw, up1_nk hw, up1_nk hw, up1_nk hw, up1_nk hw, up1_nk hw,
        up1_nc (c' := 9) (by omega), up1_nc (c' := 10) (by omega), up1_nc (c' := 10) (by omega), up1_nc (c' := 66) (by omega), up1_nc (c' := 68) (by omega), up1_nc (c' := 68) (by omega), up1_nc (c' := 69) (by omega), up1_nc (c' := 69) (by omega), up1_nc (c' := 69) (by omega)]
      exact r1 w w0 w1
  · have := r2 d s q0 q1 q2 q3
    rw [up1_nc (c' := 11) (by omega), up1_nc (c' := 11) (by omega), up1_nc (c' := 11) (by omega), up1_nc (c' := 64 + d) (by omega), up1_nc (c' := 64 + d) (by omega), up1_nc (c' := 64 + d) (by omega), up1_nc (c' := 64 + d) (by omega)]
    exact this
  · have := r3 t s q0 q1 q2 q3
    rw [up1_nc (c' := 12) (by omega), up1_nc (c' := 12) (by omega), up1_nc (c' := 12) (by omega), up1_nc (c' := 13) (by omega), up1_nc (c' := 13) (by omega), up1_nc (c' := 13) (by omega), up1_nc (c' := 2 + t) (by omega), up1_nc (c' := 2 + t) (by omega), up1_nc (c' := 2 + t) (by omega), up1_nc (c' := 2 + t) (by omega), up1_nc (c' := 33 + t) (by omega), up1_nc (c' := 33 + t) (by omega), up1_nc (c' := 33 + t) (by omega), up1_nc (c' := 33 + t) (by omega)]
    exact this
  · simp only [up1_any]
    rw [if_neg (by omega), if_neg (by omega), if_neg (by omega), if_neg (by omega), if_neg (by omega), if_neg (by omega), if_neg (by omega)]
    exact r4
  · simp only [up1_any]
    rw [if_neg (by omega), if_neg (by omega), if_neg (by omega), if_neg (by omega), if_neg (by omega), if_neg (by omega), if_neg (by omega)]
    exact r5
  · simp only [up1_any]
    rw [if_neg (by omega), if_neg (by omega), if_neg (by omega), if_neg (by omega), if_neg (by omega), if_neg (by omega), if_neg (by omega)]
    exact r6
theorem RD_end {E L D : LFn} (hR : RDp E L D) {v x : Int} : RDp (up1 E 8 v (-1)) L (up1 (up1 D 67 v x) 66 v (-1)) := by
  obtain ⟨r1, r2, r3, r4, r5, r6⟩ := hR
  refine ⟨fun w w0 w1 => ?_, fun d s q0 q1 q2 q3 => ?_, fun t s q0 q1 q2 q3 => ?_, ?_, ?_, ?_⟩
  · by_cases hw : w = v
    · left
      subst hw
      rw [up1_at, up1_at]
      exact ⟨rfl, rfl⟩
    · rw [up1_nk hw, up1_nk hw, up1_nc (c' := 66) (by omega), up1_nc (c' := 67) (by omega), up1_nk hw, up1_nc (c' := 68) (by omega), up1_nc (c' := 68) (by omega), up1_nc (c' := 69) (by omega), up1_nc (c' := 69) (by omega), up1_nc (c' := 9) (by omega), up1_nc (c' := 10) (by omega)]
      exact r1 w w0 w1
  · rw [up1_nc (c' := 11) (by omega), up1_nc (c' := 64 + d) (by omega), up1_nc (c' := 64 + d) (by omega)]
    exact r2 d s q0 q1 q2 q3
  · rw [up1_nc (c' := 12) (by omega), up1_nc (c' := 13) (by omega), up1_nc (c' := 2 + t) (by omega), up1_nc (c' := 2 + t) (by omega), up1_nc (c' := 33 + t) (by omega), up1_nc (c' := 33 + t) (by omega)]
    exact r3 t s q0 q1 q2 q3
  · rw [up1_nc (by omega), up1_nc (by omega), up1_nc (by omega)]; exact r4
  · rw [up1_nc (by omega), up1_nc (by omega), up1_nc (by omega)]; exact r5
  · rw [up1_nc (by omega), up1_nc (by omega), up1_nc (by omega)]; exact r6
/-- the tram only stops: the class leaves its place in the duty as it was -/
theorem RD_off {E L D : LFn} (hR : RDp E L D) {v : Int} : RDp (up1 E 8 v (-1)) L (up1 D 66 v (-1)) := by
  have h := RD_end hR (v := v) (x := D 67 v)
  have e : up1 D 67 v (D 67 v) = D := by
    funext c
    by_cases hc : c = 67
    · rw [hc]
      funext k
      rw [up1_any]
      split
      · rename_i q; rw [q.2]
      · rfl
    · exact up1_nc hc
  rw [e] at h
  exact h
/-- the tram waits until w; of the counters c is raised -/
theorem RD_wait {E L D : LFn} (hR : RDp E L D) {v w x : Int} (h0 : 0 ≤ v) (h1 : v < L 11 3) (hon : D 66 v ≠ -1) : RDp (up1 (up1 E 10 v w) 0 19 x) L (up1 (up1 D 0 3 x) 69 v w) ∧ RDp (up1 (up1 E 10 v w) 0 20 x) L (up1 (up1 D 0 4 x) 69 v w) := by
  obtain ⟨r1, r2, r3, r4, r5, r6⟩ := hR
  have main : ∀ c k, (c = 19 ∧ k = 3) ∨ (c = 20 ∧ k = 4) → (∀ u, 0 ≤ u → u < L 11 3 → (up1 (up1 E 10 v w) 0 c x 8 u = -1 ∧ up1 (up1 D 0 k x) 69 v w 66 u = -1) ∨ (up1 (up1 D 0 k x) 69 v w 66 u ≠ -1 ∧ up1 (up1 E 10 v w) 0 c x 8 u = up1 (up1 D 0 k x) 69 v w 67 u ∧ up1 (up1 E 10 v w) 0 c x 9 u = up1 (up1 D 0 k x) 69 v w 68 u ∧ up1 (up1 E 10 v w) 0 c x 10 u = up1 (up1 D 0 k x) 69 v w 69 u)) ∧
      (∀ d s, 0 ≤ d → d < 2 → 0 ≤ s → s < 12 → (up1 (up1 E 10 v w) 0 c x 11 (12 * d + s) = -1 ∧ up1 (up1 D 0 k x) 69 v w (64 + d) s = -1000) ∨ (0 ≤ up1 (up1 D 0 k x) 69 v w (64 + d) s ∧ up1 (up1 E 10 v w) 0 c x 11 (12 * d + s) = up1 (up1 D 0 k x) 69 v w (64 + d) s)) ∧
      (∀ t s, 0 ≤ t → t < 30 → 0 ≤ s → s < 12 → up1 (up1 E 10 v w) 0 c x 12 (12 * t + s) = up1 (up1 D 0 k x) 69 v w (2 + t) s ∧ up1 (up1 E 10 v w) 0 c x 13 (12 * t + s) = up1 (up1 D 0 k x) 69 v w (33 + t) s) := by
    intro c k hck
    refine ⟨fun u u0 u1 => ?_, fun d s q0 q1 q2 q3 => ?_, fun t s q0 q1 q2 q3 => ?_⟩
    · rw [up1_nc (c' := 8) (by omega), up1_nc (c' := 8) (by omega), up1_nc (c' := 66) (by omega), up1_nc (c' := 66) (by omega), up1_nc (c' := 67) (by omega), up1_nc (c' := 67) (by omega), up1_nc (c' := 68) (by omega), up1_nc (c' := 68) (by omega), up1_nc (c' := 9) (by omega), up1_nc (c' := 9) (by omega), up1_nc (c := 0) (c' := 10) (by omega)]
      by_cases hu : u = v
      · subst hu
        rw [up1_at, up1_at]
        rcases r1 u u0 u1 with q | q
        · exact absurd q.2 hon
        · exact Or.inr ⟨q.1, q.2.1, q.2.2.1, rfl⟩
      · rw [up1_nk hu, up1_nk hu, up1_nc (c' := 69) (by omega)]
        exact r1 u u0 u1
    · rw [up1_nc (c' := 11) (by omega), up1_nc (c' := 11) (by omega), up1_nc (c' := 64 + d) (by omega), up1_nc (c' := 64 + d) (by omega)]
      exact r2 d s q0 q1 q2 q3
    · rw [up1_nc (c' := 12) (by omega), up1_nc (c' := 12) (by omega), up1_nc (c' := 13) (by omega), up1_nc (c' := 13) (by omega), up1_nc (c' := 2 + t) (by omega), up1_nc (c' := 2 + t) (by omega), up1_nc (c' := 33 + t) (by omega), up1_nc (c' := 33 + t) (by omega)]
      exact r3 t s q0 q1 q2 q3
  have m1 := main 19 3 (Or.inl ⟨rfl, rfl⟩)
  have m2 := main 20 4 (Or.inr ⟨rfl, rfl⟩)
  refine ⟨⟨m1.1, m1.2.1, m1.2.2, ?_, ?_, ?_⟩, ⟨m2.1, m2.2.1, m2.2.2, ?_, ?_, ?_⟩⟩
  · rw [up1_nk (by omega), up1_nc (by omega), up1_nc (by omega), up1_nk (by omega)]; exact r4
  · rw [up1_at, up1_nc (by omega), up1_at]
  · rw [up1_nk (by omega), up1_nc (by omega), up1_nc (by omega), up1_nk (by omega)]; exact r6
  · rw [up1_nk (by omega), up1_nc (by omega), up1_nc (by omega), up1_nk (by omega)]; exact r4
  · rw [up1_nk (by omega), up1_nc (by omega), up1_nc (by omega), up1_nk (by omega)]; exact r5
  · rw [up1_at, up1_nc (by omega), up1_at]
/-- the tram departs and comes on to the next stop -/
def mvE (E : LFn) (v t s d s' w n c : Int) : LFn := up1 (up1 (up1 (up1 (up1 (up1 E 11 (12 * d + s) w) 13 (12 * t + s) w) 0 18 c) 12 (12 * t + s') (w + n)) 9 v s') 10 v (w + n)
theorem RD_mov {E L D : LFn} {c : Int} (hR : RDp (up1 E 0 18 c) L D) {v d n : Int} (h0 : 0 ≤ v) (h1 : v < L 11 3) (hon : D 66 v ≠ -1) (t0 : 0 ≤ D 66 v) (t1 : D 66 v < 30) (s0 : 0 ≤ D 68 v) (s1 : D 68 v < 12) (d0 : 0 ≤ d) (d1 : d < 2) (x0 : 0 ≤ nxS D v d) (x1 : nxS D v d < 12) (w0 : 0 ≤ D 69 v) :
    RDp (mvE E v (D 66 v) (D 68 v) d (nxS D v d) (D 69 v) n c) L (movT D v d n) := by
  obtain ⟨r1, r2, r3, r4, r5, r6⟩ := hR
  have z4 : c = D 0 2 := by rw [up1_at] at r4; exact r4
  have z5 : E 0 19 = D 0 3 := by rw [up1_nk (by omega)] at r5; exact r5
  have z6 : E 0 20 = D 0 4 := by rw [up1_nk (by omega)] at r6; exact r6
  unfold mvE movT
  refine ⟨fun u u0 u1 => ?_, fun e s q0 q1 q2 q3 => ?_, fun t s q0 q1 q2 q3 => ?_, ?_, ?_, ?_⟩
  · have h := r1 u u0 u1
    rw [up1_nc (c' := 8) (by omega), up1_nc (c' := 9) (by omega), up1_nc (c' := 10) (by omega)] at h
    rw [up1_nc (c' := 8) (by omega), up1_nc (c' := 8) (by omega), up1_nc (c' := 8) (by omega), up1_nc (c' := 8) (by omega), up1_nc (c' := 8) (by omega), up1_nc (c' := 8) (by omega),
      up1_nc (c' := 66) (by omega), up1_nc (c' := 66) (by omega), up1_nc (c' := 66) (by omega), up1_nc (c' := 66) (by omega), up1_nc (c' := 66) (by omega),
      up1_nc (c' := 67) (by omega), up1_nc (c' := 67) (by omega), up1_nc (c' := 67) (by omega), up1_nc (c' := 67) (by omega), up1_nc (c' := 67) (by omega),
      up1_nc (c := 10) (c' := 9) (by omega), up1_nc (c := 2 + D 66 v) (c' := 68) (by omega), up1_nc (c := 69) (c' := 68) (by omega), up1_nc (c := 2 + D 66 v) (c' := 69) (by omega)]
    by_cases hu : u = v
    · subst hu
      rw [up1_at, up1_at, up1_at, up1_at]
      rcases h with q | q
      · exact absurd q.2 hon
      · exact Or.inr ⟨q.1, q.2.1, rfl, rfl⟩
    · rw [up1_nk hu, up1_nk hu, up1_nk hu, up1_nk hu,
        up1_nc (c' := 9) (by omega), up1_nc (c' := 9) (by omega), up1_nc (c' := 9) (by omega), up1_nc (c' := 9) (by omega),
        up1_nc (c' := 10) (by omega), up1_nc (c' := 10) (by omega), up1_nc (c' := 10) (by omega), up1_nc (c' := 10) (by omega), up1_nc (c' := 10) (by omega),
        up1_nc (c' := 68) (by omega), up1_nc (c' := 68) (by omega), up1_nc (c' := 69) (by omega), up1_nc (c' := 69) (by omega), up1_nc (c' := 69) (by omega)]
      exact h
  · have h := r2 e s q0 q1 q2 q3
    rw [up1_nc (c' := 11) (by omega)] at h
    rw [up1_nc (c := 10) (c' := 11) (by omega), up1_nc (c := 9) (c' := 11) (by omega), up1_nc (c := 12) (c' := 11) (by omega), up1_nc (c := 0) (c' := 11) (by omega), up1_nc (c := 13) (c' := 11) (by omega),
      up1_nc (c := 2 + D 66 v) (c' := 64 + e) (by omega), up1_nc (c := 69) (c' := 64 + e) (by omega), up1_nc (c := 68) (c' := 64 + e) (by omega)]
    rw [up1_any, up1_any, up1_nc (c := 33 + D 66 v) (c' := 64 + e) (by omega)]
    by_cases hq : e = d ∧ s = D 68 v
    · right
      rw [if_pos (by omega), if_pos (by omega)]
      exact ⟨w0, rfl⟩
    · rw [if_neg (by omega), if_neg (by omega)]
      exact h
  · have h := r3 t s q0 q1 q2 q3
    rw [up1_nc (c' := 12) (by omega), up1_nc (c' := 13) (by omega)] at h
    refine ⟨?_, ?_⟩
    · rw [up1_nc (c := 10) (by omega), up1_nc (c := 9) (by omega), up1_any, up1_nc (c := 0) (by omega), up1_nc (c := 13) (by omega), up1_nc (c := 11) (by omega)]
      rw [up1_any, up1_nc (c := 69) (by omega), up1_nc (c := 68) (by omega), up1_nc (c := 64 + d) (by omega), up1_nc (c := 33 + D 66 v) (by omega)]
      by_cases hq : t = D 66 v ∧ s = nxS D v d
      · rw [if_pos (by omega), if_pos (by omega)]
      · rw [if_neg (by omega), if_neg (by omega)]
        exact h.1
    · rw [up1_nc (c := 10) (by omega), up1_nc (c := 9) (by omega), up1_nc (c := 12) (by omega), up1_nc (c := 0) (by omega), up1_any, up1_nc (c := 11) (by omega)]
      rw [up1_nc (c := 2 + D 66 v) (by omega), up1_nc (c := 69) (by omega), up1_nc (c := 68) (by omega), up1_nc (c := 64 + d) (by omega), up1_any]
      by_cases hq : t = D 66 v ∧ s = D 68 v
      · rw [if_pos (by omega), if_pos (by omega)]
      · rw [if_neg (by omega), if_neg (by omega)]
        exact h.2
  · rw [up1_nc (by omega), up1_nc (by omega), up1_nc (by omega), up1_at, up1_nc (by omega), up1_nc (by omega), up1_nc (by omega), up1_nc (by omega), up1_nc (by omega)]
    exact z4
  · rw [up1_nc (by omega), up1_nc (by omega), up1_nc (by omega), up1_nk (by omega), up1_nc (by omega), up1_nc (by omega), up1_nc (by omega), up1_nc (by omega), up1_nc (by omega), up1_nc (by omega), up1_nc (by omega)]
    exact z5
  · rw [up1_nc (by omega), up1_nc (by omega), up1_nc (by omega), up1_nk (by omega), up1_nc (by omega), up1_nc (by omega), up1_nc (by omega), up1_nc (by omega), up1_nc (by omega), up1_nc (by omega), up1_nc (by omega)]
    exact z6
