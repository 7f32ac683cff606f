/-! ===== the memory that the constructors lay ===== -/
def M0 : Mem := fun a b c k => match a with
  | 0 => if k = 8 then -1 else 0
  | 1 => if c = 2 then 3 else if c = 4 then (if k = 0 ∨ k = 11 then 1 else 0) else if c = 5 then (if k = 0 then 2 else if k = 1 then 4 else if k = 2 then 1 else 0) else 0
  | 2 => if c = 1 then 3 + k else 0
  | 7 => if c = 0 then (if k = 7 then -1 else 0) else 0
  | 8 => if c = 1 then g0M k.toNat else if c = 0 then (if k = 36 then -1 else 0) else 0
  | _ => 0
def eqE (e e' : va_E) : Prop := match e, e' with
  | .inl (c, a), .inl (c', a') => vp_cell c a = vp_cell c' a'
  | .inr x, .inr y => x = y
  | _, _ => False
def ent (G : GT) (n : Nat) : va_E := entI G M0 (un n).1 ((un n).2.1 : Int) ((un n).2.2 : Int)
theorem ent_of {G : GT} {n a i o : Nat} (h : un n = (a, i, o)) : ent G n = entR G a (i : Int) o (M0 a (i : Int) (o : Int)) := by
  unfold ent
  rw [h]
  rfl
/-- the n entries from place q on are the machine's -/
def CovL (G : GT) (q n : Nat) (es : List va_E) : Prop := es.length = n ∧ ∀ j, j < n → ∃ e, es[j]? = some e ∧ eqE e (ent G (q + j))
section Cv
variable {G : GT} {q n m : Nat} {x : va_E} {es a b : List va_E}
theorem cov_nil : CovL G q 0 [] := ⟨rfl, fun j hj => absurd hj (by omega)⟩
theorem cov_cons (h : eqE x (ent G q)) (t : CovL G (q + 1) n es) : CovL G q (n + 1) (x :: es) := by
  refine ⟨by rw [List.length_cons, t.1], fun j hj => ?_⟩
  cases j with
  | zero => exact ⟨x, rfl, h⟩
  | succ j =>
    obtain ⟨e, e1, e2⟩ := t.2 j (by omega)
    exact ⟨e, by rw [List.getElem?_cons_succ]; exact e1, by rw [show q + (j + 1) = q + 1 + j by omega]; exact e2⟩
theorem cov_app (h : CovL G q n a) (t : CovL G (q + n) m b) : CovL G q (n + m) (a ++ b) := by
  refine ⟨by rw [List.length_append, h.1, t.1], fun j hj => ?_⟩
  by_cases hl : j < n
  · obtain ⟨e, e1, e2⟩ := h.2 j hl
    exact ⟨e, by rw [List.getElem?_append_left (by rw [h.1]; exact hl)]; exact e1, e2⟩
  · obtain ⟨e, e1, e2⟩ := t.2 (j - n) (by omega)
    exact ⟨e, by rw [List.getElem?_append_right (by rw [h.1]; omega), h.1]; exact e1, by rw [show q + j = q + n + (j - n) by omega]; exact e2⟩
theorem cov_one (h : eqE x (ent G q)) : CovL G q 1 [x] := cov_cons h cov_nil
theorem cov_rep (h : ∀ j, j < n → eqE x (ent G (q + j))) : CovL G q n (List.replicate n x) := by
  refine ⟨List.length_replicate, fun j hj => ⟨x, ?_, h j hj⟩⟩
  rw [List.getElem?_replicate, if_pos hj]
theorem cov_to {q' n' : Nat} (h : CovL G q' n' es) (e1 : q' = q) (e2 : n' = n) : CovL G q n es := by rw [← e1, ← e2]; exact h
theorem ei_I {cA : ClassId} {k : Nat} {f : Nat → Int32} {r : Int → Int} {i o a : Nat} (hu : un q = (a, i, o)) (he : ∀ r, entR G a (i : Int) o r = aI cA k r) (hf : ∀ j, j < k → f j = J (M0 a (i : Int) (o : Int) (j : Int))) : eqE (.inl (cA, k, .inl f)) (ent G q) := by
  rw [ent_of hu, he]
  exact vpI_cg hf
theorem ei_X {ci : Nat} {fs fs' : List Value} {i o a : Nat} (hu : un q = (a, i, o)) (he : entR G a (i : Int) o (M0 a (i : Int) (o : Int)) = .inr (ci, fs')) (hf : fs = fs') : eqE (.inr (ci, fs)) (ent G q) := by
  rw [ent_of hu, he, hf]
  rfl
theorem ei_Q {cA : ClassId} {k : Nat} {f g : Nat → Option Nat} {i o a : Nat} (hu : un q = (a, i, o)) (he : entR G a (i : Int) o (M0 a (i : Int) (o : Int)) = aQ cA k g) (hf : ∀ j, j < k → f j = g j) : eqE (aQ cA k f) (ent G q) := by
  rw [ent_of hu, he]
  exact vpQ_cg hf
end Cv
theorem sp_trk (j : Nat) (hj : j < 12) : (if j = 0 ∨ j = 11 then J 1 else J 0) = J (if (j : Int) = 0 ∨ (j : Int) = 11 then 1 else 0) := by
  by_cases h : j = 0 ∨ j = 11
  · rw [if_pos h, if_pos (by omega)]
  · rw [if_neg h, if_neg (by omega)]
theorem sp_set0 (j : Nat) (hj : j < 3) : J (([2, 4, 1] : List Int).getD j 0) = J (if (j : Int) = 0 then 2 else if (j : Int) = 1 then 4 else if (j : Int) = 2 then 1 else 0) := by
  match j, hj with
  | 0, _ => rfl
  | 1, _ => rfl
  | 2, _ => rfl
  | n + 3, h => exact absurd h (by omega)
theorem un_lineB : ((List.range 12).all fun i => (List.range 29).all fun j => decide (un (lb i + j) = (1, i, j))) = true := by decide +kernel
theorem un_line (i j : Nat) (hi : i < 12) (hj : j < 29) : un (lb i + j) = (1, i, j) := by
  have q := List.all_eq_true.mp (List.all_eq_true.mp un_lineB i (List.mem_range.mpr hi)) j (List.mem_range.mpr hj)
  exact of_decide_eq_true q
section Cl
variable {G : GT} {i q : Nat}
theorem rr1 (hi : i < 12) (hq : lb i = q) (o : Nat) : rr G 1 (i : Int) (o : Int) = .ref (bG G + (q + o)) := by
  subst hq
  rfl
theorem cov_line (i : Nat) (hi : i < 12) (hq : lb i = q) : CovL G q 29 (blkX4 G q) := by
  have hu : ∀ j, j < 29 → un (q + j) = (1, i, j) := fun j hj => by rw [← hq]; exact un_line i j hi hj
  have r : ∀ o : Nat, rr G 1 (i : Int) (o : Int) = .ref (bG G + (q + o)) := fun o => rr1 hi hq o
  unfold blkX4 blkX9 blkX8 blkX2 blkX0
  have rows : ∀ q9, q9 = q + 15 → CovL G q9 10 (List.replicate 10 (.inl (cyG G 0, 30, .inl (fun _ => (0 : Int32))))) := fun q9 h9 => cov_rep (fun j hj => by
    subst h9
    refine ei_I (r := fun _ => 0) (a := 1) (i := i) (o := 15 + j) (by rw [Nat.add_assoc]; exact hu (15 + j) (by omega)) (fun r9 => ?_) (fun _ _ => ?_)
    · have h := row1_15 (G := G) (i := (i : Int)) (v := (j : Int)) (by omega) (by omega) r9
      rw [show (15 + (j : Int)).toNat = 15 + j by omega] at h
      exact h
    · show J 0 = J (if (((15 + j : Nat) : Int)) = 2 then 3 else if (((15 + j : Nat) : Int)) = 4 then _ else if (((15 + j : Nat) : Int)) = 5 then _ else 0)
      rw [if_neg (by omega), if_neg (by omega), if_neg (by omega)])
  exact cov_cons (n := 28) (ei_X (fs' := [rr G 1 (i : Int) ((1 : Nat) : Int), rr G 1 (i : Int) ((6 : Nat) : Int), rr G 1 (i : Int) ((11 : Nat) : Int), rr G 1 (i : Int) ((25 : Nat) : Int)]) (hu 0 (by decide)) rfl (by rw [r 1, r 6, r 11, r 25])) (cov_app (n := 24) (m := 4) (cov_app (n := 10) (m := 14) (cov_app (n := 5) (m := 5) (cov_app (n := 0) (m := 5) cov_nil (cov_cons (n := 4) (ei_X (fs' := [rr G 1 (i : Int) ((2 : Nat) : Int), rr G 1 (i : Int) ((3 : Nat) : Int), rr G 1 (i : Int) ((4 : Nat) : Int), rr G 1 (i : Int) ((5 : Nat) : Int)]) (hu 1 (by decide)) rfl (by rw [r 2, r 3, r 4, r 5])) (cov_app (n := 3) (m := 1) (cov_app (n := 2) (m := 1) (cov_app (n := 1) (m := 1) (cov_app (n := 0) (m := 1) cov_nil (cov_one (ei_I (r := fun _ => 0) (hu 2 (by decide)) (fun _ => rfl) (fun _ _ => rfl)))) (cov_one (ei_I (r := fun _ => 0) (hu 3 (by decide)) (fun _ => rfl) (fun _ _ => rfl)))) (cov_one (ei_I (r := fun _ => 0) (hu 4 (by decide)) (fun _ => rfl) (fun j hj => sp_trk j hj)))) (cov_one (ei_I (r := fun _ => 0) (hu 5 (by decide)) (fun _ => rfl) (fun j hj => sp_set0 j hj)))))) (cov_cons (n := 4) (ei_X (fs' := [rr G 1 (i : Int) ((7 : Nat) : Int), rr G 1 (i : Int) ((8 : Nat) : Int), rr G 1 (i : Int) ((9 : Nat) : Int), rr G 1 (i : Int) ((10 : Nat) : Int), iv 0]) (hu 6 (by decide)) rfl (by rw [r 7, r 8, r 9, r 10])) (cov_app (n := 3) (m := 1) (cov_app (n := 2) (m := 1) (cov_app (n := 1) (m := 1) (cov_app (n := 0) (m := 1) cov_nil (cov_one (ei_I (r := fun _ => 0) (hu 7 (by decide)) (fun _ => rfl) (fun _ _ => rfl)))) (cov_one (ei_I (r := fun _ => 0) (hu 8 (by decide)) (fun _ => rfl) (fun _ _ => rfl)))) (cov_one (ei_I (r := fun _ => 0) (hu 9 (by decide)) (fun _ => rfl) (fun _ _ => rfl)))) (cov_one (ei_I (r := fun _ => 0) (hu 10 (by decide)) (fun _ => rfl) (fun _ _ => rfl)))))) (cov_cons (n := 13) (ei_X (fs' := [rr G 1 (i : Int) ((12 : Nat) : Int), rr G 1 (i : Int) ((13 : Nat) : Int), rr G 1 (i : Int) ((14 : Nat) : Int), iv 0]) (hu 11 (by decide)) rfl (by rw [r 12, r 13, r 14])) (cov_app (n := 2) (m := 11) (cov_app (n := 1) (m := 1) (cov_app (n := 0) (m := 1) cov_nil (cov_one (ei_I (r := fun _ => 0) (hu 12 (by decide)) (fun _ => rfl) (fun _ _ => rfl)))) (cov_one (ei_I (r := fun _ => 0) (hu 13 (by decide)) (fun _ => rfl) (fun _ _ => rfl)))) (cov_cons (n := 10) (ei_Q (g := fun k => some (ad G 1 (i : Int) (15 + (k : Int)))) (hu 14 (by decide)) rfl (fun j _ => congrArg some (show (_ : Nat) = bG G + off 1 (i : Int) (15 + (j : Int)) by have e : off 1 (i : Int) (15 + (j : Int)) = lb i + (15 + j) := (by unfold off; rw [show ((i : Int)).toNat = i from rfl, show (15 + (j : Int)).toNat = 15 + j by omega]; rfl); rw [e, hq]; omega))) (rows _ (by omega)))))) (cov_cons (n := 3) (ei_X (fs' := [rr G 1 (i : Int) ((26 : Nat) : Int), rr G 1 (i : Int) ((27 : Nat) : Int), rr G 1 (i : Int) ((28 : Nat) : Int), iv 0]) (hu 25 (by decide)) rfl (by rw [r 26, r 27, r 28])) (cov_app (n := 2) (m := 1) (cov_app (n := 1) (m := 1) (cov_app (n := 0) (m := 1) cov_nil (cov_one (ei_I (r := fun _ => 0) (hu 26 (by decide)) (fun _ => rfl) (fun _ _ => rfl)))) (cov_one (ei_I (r := fun _ => 0) (hu 27 (by decide)) (fun _ => rfl) (fun _ _ => rfl)))) (cov_one (ei_I (r := fun _ => 0) (hu 28 (by decide)) (fun _ => rfl) (fun _ _ => rfl))))))
end Cl
section Cw
variable {G : GT}
theorem cov_X3 : CovL G 59 263 (blkX3 G 59) := by
  unfold blkX3
  exact cov_cons (n := 262) (ei_X (fs' := [rr G 2 0 1, rr G 1 2 0, iv 0, iv 0]) (show un 59 = (2, 0, 0) from by decide +kernel) rfl rfl) (cov_app (n := 233) (m := 29) (cov_app (n := 204) (m := 29) (cov_app (n := 175) (m := 29) (cov_app (n := 146) (m := 29) (cov_app (n := 117) (m := 29) (cov_app (n := 88) (m := 29) (cov_app (n := 59) (m := 29) (cov_app (n := 30) (m := 29) (cov_app (n := 1) (m := 29) (cov_app (n := 0) (m := 1) cov_nil (cov_one (ei_Q (g := fun k => some (ad G 1 (M0 2 0 1 (k : Int)) 0)) (show un 60 = (2, 0, 1) from by decide +kernel) rfl (fun j hj => by
    match j, hj with
    | 0, _ => rfl
    | 1, _ => rfl
    | 2, _ => rfl
    | 3, _ => rfl
    | 4, _ => rfl
    | 5, _ => rfl
    | 6, _ => rfl
    | 7, _ => rfl
    | n + 8, h => exact absurd h (by omega))))) (cov_line 2 (by decide) rfl)) (cov_line 3 (by decide) rfl)) (cov_line 4 (by decide) rfl)) (cov_line 5 (by decide) rfl)) (cov_line 6 (by decide) rfl)) (cov_line 7 (by decide) rfl)) (cov_line 8 (by decide) rfl)) (cov_line 9 (by decide) rfl)) (cov_line 10 (by decide) rfl))
theorem cov_X1 : CovL G 322 99 (blkX1 G 322) := by
  unfold blkX1
  exact cov_cons (n := 98) (ei_X (fs' := [rr G 3 0 1, rr G 3 0 32, iv 0, iv 0, iv 0, rr G 3 0 63, rr G 3 0 66, rr G 3 0 67, rr G 3 0 68, rr G 3 0 69, rr G 1 11 0]) (show un 322 = (3, 0, 0) from by decide +kernel) rfl rfl) (cov_app (n := 69) (m := 29) (cov_app (n := 68) (m := 1) (cov_app (n := 67) (m := 1) (cov_app (n := 66) (m := 1) (cov_app (n := 65) (m := 1) (cov_app (n := 62) (m := 3) (cov_app (n := 31) (m := 31) (cov_app (n := 0) (m := 31) cov_nil (cov_cons (n := 30) (ei_Q (g := fun k => some (ad G 3 0 (2 + (k : Int)))) (show un 323 = (3, 0, 1) from by decide +kernel) rfl (fun j _ => congrArg some (show (_ : Nat) = bG G + (322 + (2 + (j : Int)).toNat) by omega))) (cov_rep (fun j hj => by
    have hun : ∀ j, j < 30 → un (324 + j) = (3, 0, 2 + j) := by decide +kernel
    refine ei_I (r := fun _ => 0) (hun j hj) (fun r9 => ?_) (fun _ _ => rfl)
    have h := row3_2 (G := G) (v := (j : Int)) (by omega) (by omega) r9
    rw [show (2 + (j : Int)).toNat = 2 + j by omega] at h
    exact h)))) (cov_cons (n := 30) (ei_Q (g := fun k => some (ad G 3 0 (33 + (k : Int)))) (show un 354 = (3, 0, 32) from by decide +kernel) rfl (fun j _ => congrArg some (show (_ : Nat) = bG G + (322 + (33 + (j : Int)).toNat) by omega))) (cov_rep (fun j hj => by
    have hun : ∀ j, j < 30 → un (355 + j) = (3, 0, 33 + j) := by decide +kernel
    refine ei_I (r := fun _ => 0) (hun j hj) (fun r9 => ?_) (fun _ _ => rfl)
    have h := row3_33 (G := G) (v := (j : Int)) (by omega) (by omega) r9
    rw [show (33 + (j : Int)).toNat = 33 + j by omega] at h
    exact h)))) (cov_cons (n := 2) (ei_Q (g := fun k => some (ad G 3 0 (64 + (k : Int)))) (show un 385 = (3, 0, 63) from by decide +kernel) rfl (fun j _ => congrArg some (show (_ : Nat) = bG G + (322 + (64 + (j : Int)).toNat) by omega))) (cov_rep (fun j hj => by
    have hun : ∀ j, j < 2 → un (386 + j) = (3, 0, 64 + j) := by decide +kernel
    refine ei_I (r := fun _ => 0) (hun j hj) (fun r9 => ?_) (fun _ _ => rfl)
    have h := row3_64 (G := G) (v := (j : Int)) (by omega) (by omega) r9
    rw [show (64 + (j : Int)).toNat = 64 + j by omega] at h
    exact h)))) (cov_one (ei_I (r := fun _ => 0) (show un 388 = (3, 0, 66) from by decide +kernel) (fun _ => rfl) (fun _ _ => rfl)))) (cov_one (ei_I (r := fun _ => 0) (show un 389 = (3, 0, 67) from by decide +kernel) (fun _ => rfl) (fun _ _ => rfl)))) (cov_one (ei_I (r := fun _ => 0) (show un 390 = (3, 0, 68) from by decide +kernel) (fun _ => rfl) (fun _ _ => rfl)))) (cov_one (ei_I (r := fun _ => 0) (show un 391 = (3, 0, 69) from by decide +kernel) (fun _ => rfl) (fun _ _ => rfl)))) (cov_line 11 (by decide) rfl))
theorem cov_X6 : CovL G 421 9 (blkX6 G 421) := by
  unfold blkX6 blkX7
  exact cov_cons (n := 8) (ei_X (fs' := [rr G 5 1 0, rr G 5 2 0, rr G 4 0 1, rr G 4 0 2, iv 0]) (show un 421 = (4, 0, 0) from by decide +kernel) rfl rfl) (cov_app (n := 7) (m := 1) (cov_app (n := 6) (m := 1) (cov_app (n := 3) (m := 3) (cov_app (n := 0) (m := 3) cov_nil (cov_cons (n := 2) (ei_X (fs' := [rr G 5 1 1, rr G 5 1 2, iv 0]) (show un 422 = (5, 1, 0) from by decide +kernel) rfl rfl) (cov_app (n := 1) (m := 1) (cov_app (n := 0) (m := 1) cov_nil (cov_one (ei_I (r := fun _ => 0) (show un 423 = (5, 1, 1) from by decide +kernel) (fun _ => rfl) (fun _ _ => rfl)))) (cov_one (ei_I (r := fun _ => 0) (show un 424 = (5, 1, 2) from by decide +kernel) (fun _ => rfl) (fun _ _ => rfl)))))) (cov_cons (n := 2) (ei_X (fs' := [rr G 5 2 1, rr G 5 2 2, iv 0]) (show un 425 = (5, 2, 0) from by decide +kernel) rfl rfl) (cov_app (n := 1) (m := 1) (cov_app (n := 0) (m := 1) cov_nil (cov_one (ei_I (r := fun _ => 0) (show un 426 = (5, 2, 1) from by decide +kernel) (fun _ => rfl) (fun _ _ => rfl)))) (cov_one (ei_I (r := fun _ => 0) (show un 427 = (5, 2, 2) from by decide +kernel) (fun _ => rfl) (fun _ _ => rfl)))))) (cov_one (ei_I (r := fun _ => 0) (show un 428 = (4, 0, 1) from by decide +kernel) (fun _ => rfl) (fun _ _ => rfl)))) (cov_one (ei_I (r := fun _ => 0) (show un 429 = (4, 0, 2) from by decide +kernel) (fun _ => rfl) (fun _ _ => rfl))))
theorem cov_X5 : CovL G 430 39 (blkX5 G 430) := by
  unfold blkX5
  exact cov_cons (n := 38) (ei_X (fs' := [rr G 6 0 1, rr G 6 0 33, rr G 6 0 34, rr G 6 0 35, rr G 6 0 36, rr G 6 0 37, rr G 6 0 38, iv 0]) (show un 430 = (6, 0, 0) from by decide +kernel) rfl rfl) (cov_app (n := 37) (m := 1) (cov_app (n := 36) (m := 1) (cov_app (n := 35) (m := 1) (cov_app (n := 34) (m := 1) (cov_app (n := 33) (m := 1) (cov_app (n := 32) (m := 1) (cov_app (n := 0) (m := 32) cov_nil (cov_cons (n := 31) (ei_Q (g := fun k => some (ad G 6 0 (2 + (k : Int)))) (show un 431 = (6, 0, 1) from by decide +kernel) rfl (fun j _ => congrArg some (show (_ : Nat) = bG G + (430 + (2 + (j : Int)).toNat) by omega))) (cov_rep (fun j hj => by
    have hun : ∀ j, j < 31 → un (432 + j) = (6, 0, 2 + j) := by decide +kernel
    refine ei_I (r := fun _ => 0) (hun j hj) (fun r9 => ?_) (fun _ _ => rfl)
    have h := row6_2 (G := G) (v := (j : Int)) (by omega) (by omega) r9
    rw [show (2 + (j : Int)).toNat = 2 + j by omega] at h
    exact h)))) (cov_one (ei_I (r := fun _ => 0) (show un 463 = (6, 0, 33) from by decide +kernel) (fun _ => rfl) (fun _ _ => rfl)))) (cov_one (ei_I (r := fun _ => 0) (show un 464 = (6, 0, 34) from by decide +kernel) (fun _ => rfl) (fun _ _ => rfl)))) (cov_one (ei_I (r := fun _ => 0) (show un 465 = (6, 0, 35) from by decide +kernel) (fun _ => rfl) (fun _ _ => rfl)))) (cov_one (ei_I (r := fun _ => 0) (show un 466 = (6, 0, 36) from by decide +kernel) (fun _ => rfl) (fun _ _ => rfl)))) (cov_one (ei_I (r := fun _ => 0) (show un 467 = (6, 0, 37) from by decide +kernel) (fun _ => rfl) (fun _ _ => rfl)))) (cov_one (ei_I (r := fun _ => 0) (show un 468 = (6, 0, 38) from by decide +kernel) (fun _ => rfl) (fun _ _ => rfl))))
theorem cov_X7 : CovL G 469 3 (blkX7 G 469) := by
  unfold blkX7
  exact (cov_cons (n := 2) (ei_X (fs' := [rr G 5 0 1, rr G 5 0 2, iv 0]) (show un 469 = (5, 0, 0) from by decide +kernel) rfl rfl) (cov_app (n := 1) (m := 1) (cov_app (n := 0) (m := 1) cov_nil (cov_one (ei_I (r := fun _ => 0) (show un 470 = (5, 0, 1) from by decide +kernel) (fun _ => rfl) (fun _ _ => rfl)))) (cov_one (ei_I (r := fun _ => 0) (show un 471 = (5, 0, 2) from by decide +kernel) (fun _ => rfl) (fun _ _ => rfl)))))
theorem cov_X10 : CovL G 472 5 (blkX10 G 472) := by
  unfold blkX10
  exact cov_cons (n := 4) (ei_X (fs' := [rr G 7 0 1, iv 0, iv 0, rr G 7 0 2, rr G 7 0 3, rr G 7 0 4, iv 0, iv (-1)]) (show un 472 = (7, 0, 0) from by decide +kernel) rfl rfl) (cov_app (n := 3) (m := 1) (cov_app (n := 2) (m := 1) (cov_app (n := 1) (m := 1) (cov_app (n := 0) (m := 1) cov_nil (cov_one (ei_I (r := fun _ => 0) (show un 473 = (7, 0, 1) from by decide +kernel) (fun _ => rfl) (fun _ _ => rfl)))) (cov_one (ei_I (r := fun _ => 0) (show un 474 = (7, 0, 2) from by decide +kernel) (fun _ => rfl) (fun _ _ => rfl)))) (cov_one (ei_I (r := fun _ => 0) (show un 475 = (7, 0, 3) from by decide +kernel) (fun _ => rfl) (fun _ _ => rfl)))) (cov_one (ei_I (r := fun _ => 0) (show un 476 = (7, 0, 4) from by decide +kernel) (fun _ => rfl) (fun _ _ => rfl))))
theorem cov_X11 : CovL G 0 477 (blkX11 G 0) := by
  unfold blkX11
  exact cov_cons (n := 476) (ei_X (fs' := [rr G 1 0 0, rr G 1 1 0, rr G 2 0 0, rr G 3 0 0, rr G 4 0 0, rr G 6 0 0, rr G 5 0 0, rr G 7 0 0, iv (-1)]) (show un 0 = (0, 0, 0) from by decide +kernel) rfl rfl) (cov_app (n := 471) (m := 5) (cov_app (n := 468) (m := 3) (cov_app (n := 429) (m := 39) (cov_app (n := 420) (m := 9) (cov_app (n := 321) (m := 99) (cov_app (n := 58) (m := 263) (cov_app (n := 29) (m := 29) (cov_app (n := 0) (m := 29) cov_nil (cov_line 0 (by decide) rfl)) (cov_line 1 (by decide) rfl)) cov_X3) cov_X1) cov_X6) cov_X5) cov_X7) cov_X10)
theorem cov_X12 : CovL G 477 24 (blkX12 G 477) := by
  unfold blkX12
  exact cov_cons (ei_X (fs' := [rr G 8 0 1, rr G 8 0 2, rr G 8 0 3, iv 0, rr G 8 0 4, iv 0, iv 0, iv 0, rr G 8 0 5, rr G 8 0 6, iv 0, rr G 8 0 7, rr G 8 0 8, rr G 8 0 9, rr G 8 0 10, rr G 8 0 11, rr G 8 0 12, rr G 8 0 13, iv 0, iv 0, iv 0, iv 0, iv 0, iv 0, rr G 8 0 14, rr G 8 0 15, rr G 8 0 16, rr G 8 0 17, rr G 8 0 18, rr G 8 0 19, rr G 8 0 20, rr G 8 0 21, rr G 8 0 22, iv 0, iv 0, iv 0, iv (-1), rr G 8 0 23, iv 0]) (show un 477 = (8, 0, 0) from by decide +kernel) rfl rfl) (cov_cons (ei_I (r := fun _ => 0) (show un 478 = (8, 0, 1) from by decide +kernel) (fun _ => rfl) (fun _ _ => rfl)) (cov_cons (ei_I (r := fun _ => 0) (show un 479 = (8, 0, 2) from by decide +kernel) (fun _ => rfl) (fun _ _ => rfl)) (cov_cons (ei_I (r := fun _ => 0) (show un 480 = (8, 0, 3) from by decide +kernel) (fun _ => rfl) (fun _ _ => rfl)) (cov_cons (ei_I (r := fun _ => 0) (show un 481 = (8, 0, 4) from by decide +kernel) (fun _ => rfl) (fun _ _ => rfl)) (cov_cons (ei_I (r := fun _ => 0) (show un 482 = (8, 0, 5) from by decide +kernel) (fun _ => rfl) (fun _ _ => rfl)) (cov_cons (ei_I (r := fun _ => 0) (show un 483 = (8, 0, 6) from by decide +kernel) (fun _ => rfl) (fun _ _ => rfl)) (cov_cons (ei_I (r := fun _ => 0) (show un 484 = (8, 0, 7) from by decide +kernel) (fun _ => rfl) (fun _ _ => rfl)) (cov_cons (ei_I (r := fun _ => 0) (show un 485 = (8, 0, 8) from by decide +kernel) (fun _ => rfl) (fun _ _ => rfl)) (cov_cons (ei_I (r := fun _ => 0) (show un 486 = (8, 0, 9) from by decide +kernel) (fun _ => rfl) (fun _ _ => rfl)) (cov_cons (ei_I (r := fun _ => 0) (show un 487 = (8, 0, 10) from by decide +kernel) (fun _ => rfl) (fun _ _ => rfl)) (cov_cons (ei_I (r := fun _ => 0) (show un 488 = (8, 0, 11) from by decide +kernel) (fun _ => rfl) (fun _ _ => rfl)) (cov_cons (ei_I (r := fun _ => 0) (show un 489 = (8, 0, 12) from by decide +kernel) (fun _ => rfl) (fun _ _ => rfl)) (cov_cons (ei_I (r := fun _ => 0) (show un 490 = (8, 0, 13) from by decide +kernel) (fun _ => rfl) (fun _ _ => rfl)) (cov_cons (ei_I (r := fun _ => 0) (show un 491 = (8, 0, 14) from by decide +kernel) (fun _ => rfl) (fun _ _ => rfl)) (cov_cons (ei_I (r := fun _ => 0) (show un 492 = (8, 0, 15) from by decide +kernel) (fun _ => rfl) (fun _ _ => rfl)) (cov_cons (ei_I (r := fun _ => 0) (show un 493 = (8, 0, 16) from by decide +kernel) (fun _ => rfl) (fun _ _ => rfl)) (cov_cons (ei_I (r := fun _ => 0) (show un 494 = (8, 0, 17) from by decide +kernel) (fun _ => rfl) (fun _ _ => rfl)) (cov_cons (ei_I (r := fun _ => 0) (show un 495 = (8, 0, 18) from by decide +kernel) (fun _ => rfl) (fun _ _ => rfl)) (cov_cons (ei_I (r := fun _ => 0) (show un 496 = (8, 0, 19) from by decide +kernel) (fun _ => rfl) (fun _ _ => rfl)) (cov_cons (ei_I (r := fun _ => 0) (show un 497 = (8, 0, 20) from by decide +kernel) (fun _ => rfl) (fun _ _ => rfl)) (cov_cons (ei_I (r := fun _ => 0) (show un 498 = (8, 0, 21) from by decide +kernel) (fun _ => rfl) (fun _ _ => rfl)) (cov_cons (ei_I (r := fun _ => 0) (show un 499 = (8, 0, 22) from by decide +kernel) (fun _ => rfl) (fun _ _ => rfl)) (cov_cons (ei_I (r := fun _ => 0) (show un 500 = (8, 0, 23) from by decide +kernel) (fun _ => rfl) (fun _ _ => rfl)) cov_nil)))))))))))))))))))))))
def esA (G : GT) : List va_E := ((blkX11 G 0 ++ blkX12 G 477) ++ [.inl (cyG G 5, 1, .inr (.inl (fun _ => 0)))]) ++ [.inl (cyG G 6, 1, .inr (.inr (.inr (.inl (fun _ => 0)))))]
theorem cov_A : CovL G 0 503 (esA G) := by
  refine cov_app (n := 502) (m := 1) (cov_app (n := 501) (m := 1) (cov_app (n := 477) (m := 24) cov_X11 cov_X12) (cov_one ?_)) (cov_one ?_)
  · rw [ent_of (show un (0 + 501) = (9, 0, 0) from by decide +kernel)]
    rfl
  · rw [ent_of (show un (0 + 502) = (9, 0, 1) from by decide +kernel)]
    rfl
theorem sim_0 {H : Heap} (h : SimE G (esA G) H) : Sim G M0 H := by
  intro k q hk
  unfold wd at hk
  rw [List.getElem?_map] at hk
  by_cases hl : k < NN
  · rw [List.getElem?_range hl] at hk
    cases hk
    obtain ⟨e, he, hq⟩ := (cov_A (G := G)).2 k hl
    rw [Nat.zero_add] at hq
    have h9 := h k _ (wE_at he)
    show va_at (dG G) vwCl (bG G + k, entI G M0 (un k).1 ((un k).2.1 : Int) ((un k).2.2 : Int)) H
    unfold ent at hq
    generalize entI G M0 (un k).1 ((un k).2.1 : Int) ((un k).2.2 : Int) = e' at hq
    cases e with
    | inl x =>
      cases e' with
      | inl y =>
        show H[bG G + k]? = some (vp_cell y.1 y.2)
        rw [← show vp_cell x.1 x.2 = vp_cell y.1 y.2 from hq]
        exact h9
      | inr y => exact hq.elim
    | inr x =>
      cases e' with
      | inl y => exact hq.elim
      | inr y =>
        rw [← show x = y from hq]
        exact h9
  · rw [List.getElem?_eq_none (by rw [List.length_range]; omega)] at hk
    cases hk
end Cw
/-! ===== the relation at the beginning ===== -/
theorem gl_0 : GL (M0 1 0) := by
  refine ⟨⟨⟨⟨by decide, by decide⟩, fun t t0 t1 => absurd (show t < 0 from t1) (by omega)⟩, ⟨fun k k0 k1 => ⟨(show (1 : Int) ≤ 3 by decide), (show (3 : Int) ≤ 9 by decide), (show (0 : Int) ≤ 0 by decide), (show (0 : Int) ≤ 30 by decide)⟩, fun s s0 s1 => ?_, by decide, by decide, by decide, by decide, by decide, by decide, by decide, by decide⟩, ⟨⟨by decide, by decide⟩, fun v v0 v1 => absurd (show v < 0 from v1) (by omega)⟩, ⟨⟨by decide, by decide⟩, fun x x0 x1 => absurd (show x < 0 from x1) (by omega)⟩⟩, ⟨fun s s0 s1 => ?_, fun t t0 t1 => ⟨(show (0 : Int) ≤ 0 by decide), (show (0 : Int) ≤ 1 by decide)⟩⟩, fun v w p q v0 v1 => absurd (show v < 0 from v1) (by omega), fun t t0 t1 => absurd (show t < 0 from t1) (by omega)⟩
  · show 0 ≤ (if s = 0 ∨ s = 11 then (1 : Int) else 0) ∧ (if s = 0 ∨ s = 11 then (1 : Int) else 0) ≤ 1
    split <;> omega
  · show 0 ≤ (if s = 0 ∨ s = 11 then (1 : Int) else 0) ∧ (if s = 0 ∨ s = 11 then (1 : Int) else 0) ≤ 1
    split <;> omega
theorem g0_spec : ((List.range 37).all fun k => decide (g0M k = if k < 11 then 3 else if k = 22 ∨ k = 33 then 1 else if k = 34 then 2 else if k = 35 then 4 else if k = 36 then 1 else 0)) = true := by decide +kernel
theorem rg_0 : RG (M0 8 0 1) (M0 1 0) := by
  have e : ∀ k : Int, 0 ≤ k → M0 8 0 1 k = g0M k.toNat := fun k _ => rfl
  refine ⟨fun k k0 k1 => ⟨?_, ?_⟩, fun s s0 s1 => ?_, ⟨rfl, rfl, rfl⟩, rfl, fun t t0 t1 => absurd (show t < 0 from t1) (by omega), rfl, fun v v0 v1 => absurd (show v < 0 from v1) (by omega), rfl, fun x x0 x1 => absurd (show x < 0 from x1) (by omega)⟩
  · show g0M k.toNat = 3
    unfold g0M
    rw [if_pos (by omega)]
  · show g0M (11 + k).toNat = 0
    unfold g0M
    rw [if_neg (by omega), if_neg (by omega), if_neg (by omega), if_neg (by omega), if_neg (by omega)]
  · show g0M (22 + s).toNat = (if s = 0 ∨ s = 11 then (1 : Int) else 0)
    unfold g0M
    by_cases h : s = 0 ∨ s = 11
    · rw [if_pos h, if_neg (by omega), if_pos (by omega)]
    · rw [if_neg h, if_neg (by omega), if_neg (by omega), if_neg (by omega), if_neg (by omega), if_neg (by omega)]
theorem rel_0 : Rel M0 := by
  refine ⟨⟨⟨⟨by decide, by decide, by decide, by decide⟩, fun r r0 r1 => ?_, fun r r' r0 r1 s0 s1 e => ?_⟩, gl_0, rg_0, ⟨⟨rfl, ⟨by decide, by decide⟩, fun r r0 r1 => absurd (show r < 0 from r1) (by omega)⟩, fun r r0 r1 => absurd (show r < 0 from r1) (by omega)⟩, rfl, fun z => absurd (show M0 2 0 0 3 = 0 from rfl) z⟩, Or.inl ⟨rfl, rfl⟩, ⟨⟨⟨by decide, by decide⟩, rfl, rfl, fun k k0 k1 => ⟨(show (0 : Int) ≤ 0 by decide), (show (0 : Int) ≤ 65535 by decide)⟩⟩, ⟨by decide, by decide⟩, rfl, fun k k0 k1 => absurd (show k < 0 from k1) (by omega)⟩, rfl⟩
  · show 3 ≤ 3 + r ∧ 3 + r ≤ 10
    omega
  · have e' : 3 + r = 3 + r' := e
    omega
