/-! ===== one number of the line changed ===== -/
section Ro
variable {g : Int → Int} {L : LFn}
/-- a trip's number f (0 first, 1 last, 2 departure, 3 cancelled) -/
theorem RG_trip (hR : RG g L) (hw : WFn L) {t f v : Int} (t0 : 0 ≤ t) (t1 : t < L 6 4) (f0 : 0 ≤ f) (f1 : f ≤ 3) : RG (upI g (40 + 4 * t + f) v) (up1 L (7 + f) t v) := by
  obtain ⟨ht, hm, hv, hb⟩ := hw
  have nt := ht.1
  have nv := hv.1
  have nb := hb.1
  obtain ⟨r1, r2, r3, r4, r5, r6, r7, r8, r9⟩ := hR
  have o : ∀ x, x ≠ 40 + 4 * t + f → upI g (40 + 4 * t + f) v x = g x := fun x hx => upI_ne hx
  have l : ∀ c, (c < 7 ∨ 10 < c) → up1 L (7 + f) t v c = L c := fun c hc => up1_nc (by omega)
  refine ⟨fun k h0 h1 => ?_, fun s h0 h1 => ?_, ⟨?_, ?_, ?_⟩, ?_, fun u h0 h1 => ?_, ?_, fun w w0 w1 => ?_, ?_, fun x h0 h1 => ?_⟩
  · rw [o _ (by omega), o _ (by omega), l 2 (by omega), l 3 (by omega)]; exact r1 k h0 h1
  · rw [o _ (by omega), l 4 (by omega)]; exact r2 s h0 h1
  · rw [o _ (by omega), l 5 (by omega)]; exact r3.1
  · rw [o _ (by omega), l 5 (by omega)]; exact r3.2.1
  · rw [o _ (by omega), l 5 (by omega)]; exact r3.2.2
  · rw [o _ (by omega), l 6 (by omega)]; exact r4
  · rw [l 6 (by omega)] at h1
    have h := r5 u h0 h1
    have e : ∀ f', 0 ≤ f' → f' ≤ 3 → g (40 + 4 * u + f') = L (7 + f') u → upI g (40 + 4 * t + f) v (40 + 4 * u + f') = up1 L (7 + f) t v (7 + f') u := by
      intro f' q0 q1 he
      rw [up1_any]
      by_cases hq : 7 + f' = 7 + f ∧ u = t
      · rw [if_pos hq, show 40 + 4 * u + f' = 40 + 4 * t + f by omega, upI_at]
      · rw [if_neg hq, upI_ne (by omega)]
        exact he
    have e0 := e 0 (by omega) (by omega) (by rw [show 40 + 4 * u + 0 = 40 + 4 * u by omega]; exact h.1)
    rw [show 40 + 4 * u + 0 = 40 + 4 * u by omega] at e0
    exact ⟨e0, e 1 (by omega) (by omega) h.2.1, e 2 (by omega) (by omega) h.2.2.1, e 3 (by omega) (by omega) h.2.2.2⟩
  · rw [o _ (by omega), l 11 (by omega)]; exact r6
  · rw [l 11 (by omega)] at w1
    have hl := (hv.2 w w0 w1).2.2
    rw [o _ (by omega), o _ (by omega), l 12 (by omega), l 13 (by omega), l (15 + w) (by omega)]
    exact ⟨(r7 w w0 w1).1, (r7 w w0 w1).2.1, fun p p0 p1 => by rw [o _ (by omega)]; exact (r7 w w0 w1).2.2 p p0 p1⟩
  · rw [o _ (by omega), l 25 (by omega)]; exact r8
  · rw [l 25 (by omega)] at h1
    rw [o _ (by omega), o _ (by omega), o _ (by omega), l 26 (by omega), l 27 (by omega), l 28 (by omega)]
    exact r9 x h0 h1
/-- the track's numbers: those below 37 -/
theorem RG_track {g' : Int → Int} {L' : LFn} (hR : RG g L) (hw : WFn L) (o : ∀ x, 37 ≤ x → g' x = g x) (l : ∀ c, 6 ≤ c → L' c = L c) (e1 : ∀ k, 0 ≤ k → k < 11 → g' k = L' 2 k ∧ g' (11 + k) = L' 3 k) (e2 : ∀ s, 0 ≤ s → s < 12 → g' (22 + s) = L' 4 s) (e3 : g' 34 = L' 5 0 ∧ g' 35 = L' 5 1 ∧ g' 36 = L' 5 2) : RG g' L' := by
  obtain ⟨ht, hm, hv, hb⟩ := hw
  have nt := ht.1
  have nv := hv.1
  have nb := hb.1
  obtain ⟨r1, r2, r3, r4, r5, r6, r7, r8, r9⟩ := hR
  refine ⟨e1, e2, e3, ?_, fun u h0 h1 => ?_, ?_, fun w w0 w1 => ?_, ?_, fun x h0 h1 => ?_⟩
  · rw [o _ (by omega), l 6 (by omega)]; exact r4
  · rw [l 6 (by omega)] at h1
    rw [o _ (by omega), o _ (by omega), o _ (by omega), o _ (by omega), l 7 (by omega), l 8 (by omega), l 9 (by omega), l 10 (by omega)]
    exact r5 u h0 h1
  · rw [o _ (by omega), l 11 (by omega)]; exact r6
  · rw [l 11 (by omega)] at w1
    rw [o _ (by omega), o _ (by omega), l 12 (by omega), l 13 (by omega), l (15 + w) (by omega)]
    exact ⟨(r7 w w0 w1).1, (r7 w w0 w1).2.1, fun p p0 p1 => by rw [o _ (by omega)]; exact (r7 w w0 w1).2.2 p p0 p1⟩
  · rw [o _ (by omega), l 25 (by omega)]; exact r8
  · rw [l 25 (by omega)] at h1
    rw [o _ (by omega), o _ (by omega), o _ (by omega), l 26 (by omega), l 27 (by omega), l 28 (by omega)]
    exact r9 x h0 h1
theorem RG_sect (hR : RG g L) (hw : WFn L) {k a b : Int} (k0 : 0 ≤ k) (k1 : k < 11) : RG (upI (upI g k a) (11 + k) b) (up1 (up1 L 2 k a) 3 k b) := by
  refine RG_track hR hw (fun x hx => by rw [upI_ne (by omega), upI_ne (by omega)]) (fun c hc => by rw [up1_nc (by omega), up1_nc (by omega)]) (fun j j0 j1 => ?_) (fun s s0 s1 => ?_) ?_
  · have h := hR.1 j j0 j1
    by_cases hj : j = k
    · rw [hj, upI_ne (by omega), upI_at, upI_at, up1_nc (by omega), up1_at, up1_at]
      exact ⟨rfl, rfl⟩
    · rw [upI_ne (by omega), upI_ne hj, upI_ne (by omega), upI_ne (by omega), up1_nc (c' := 2) (by omega), up1_nk hj, up1_nk hj, up1_nc (c' := 3) (by omega)]
      exact h
  · rw [upI_ne (by omega), upI_ne (by omega), up1_nc (by omega), up1_nc (by omega)]
    exact hR.2.1 s s0 s1
  · rw [upI_ne (by omega), upI_ne (by omega), upI_ne (by omega), upI_ne (by omega), upI_ne (by omega), upI_ne (by omega), up1_nc (by omega), up1_nc (by omega)]
    exact hR.2.2.1
theorem RG_turn (hR : RG g L) (hw : WFn L) {s v : Int} (s0 : 0 ≤ s) (s1 : s < 12) : RG (upI g (22 + s) v) (up1 L 4 s v) := by
  refine RG_track hR hw (fun x hx => upI_ne (by omega)) (fun c hc => up1_nc (by omega)) (fun j j0 j1 => ?_) (fun u u0 u1 => ?_) ?_
  · rw [upI_ne (by omega), upI_ne (by omega), up1_nc (by omega), up1_nc (by omega)]
    exact hR.1 j j0 j1
  · by_cases hu : u = s
    · rw [hu, upI_at, up1_at]
    · rw [upI_ne (by omega), up1_nk hu]
      exact hR.2.1 u u0 u1
  · rw [upI_ne (by omega), upI_ne (by omega), upI_ne (by omega), up1_nc (by omega)]
    exact hR.2.2.1
theorem RG_set (hR : RG g L) (hw : WFn L) {k v : Int} (k0 : 0 ≤ k) (k1 : k < 3) : RG (upI g (34 + k) v) (up1 L 5 k v) := by
  refine RG_track hR hw (fun x hx => upI_ne (by omega)) (fun c hc => up1_nc (by omega)) (fun j j0 j1 => ?_) (fun u u0 u1 => ?_) ?_
  · rw [upI_ne (by omega), upI_ne (by omega), up1_nc (by omega), up1_nc (by omega)]
    exact hR.1 j j0 j1
  · rw [upI_ne (by omega), up1_nc (by omega)]
    exact hR.2.1 u u0 u1
  · have h := hR.2.2.1
    have e : ∀ j, 0 ≤ j → j < 3 → g (34 + j) = L 5 j → upI g (34 + k) v (34 + j) = up1 L 5 k v 5 j := by
      intro j j0 j1 he
      by_cases hj : j = k
      · rw [hj, upI_at, up1_at]
      · rw [upI_ne (by omega), up1_nk hj]
        exact he
    exact ⟨e 0 (by omega) (by omega) h.1, e 1 (by omega) (by omega) h.2.1, e 2 (by omega) (by omega) h.2.2⟩
end Ro
