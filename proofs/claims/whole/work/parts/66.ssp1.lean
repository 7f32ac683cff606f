/-! ===== the reference: the cheapest ways, as numbers ===== -/
def pcL (L : LFn) (pr a b : Int) : Int := L 9 b - arr L a - pr
def Mat (L : LFn) (n : Int) (A B : Int → Int) : Prop := (∀ b, 0 ≤ b → b < n → A b = -1 ∨ (0 ≤ A b ∧ A b < n ∧ lkL L (A b) b ∧ B (A b) = b)) ∧ ∀ a, 0 ≤ a → a < n → B a = -1 ∨ (0 ≤ B a ∧ B a < n ∧ A (B a) = a)
/-- what holds of the ways while they are laid -/
def WI (L : LFn) (pr n : Int) (A B p q cf d : Int → Int) : Prop :=
  (∀ a, 0 ≤ a → a < n → p a = 1000000 ∨ (arr L a - 1538 ≤ p a ∧ p a ≤ arr L a)) ∧ (∀ b, 0 ≤ b → b < n → q b = 1000000 ∨ (L 9 b - pr - 1538 ≤ q b ∧ q b ≤ L 9 b - pr)) ∧
  (∀ b, 0 ≤ b → b < n → A b ≠ -1 → (q b = 1000000 ∧ p (A b) = 1000000) ∨ (q b ≠ 1000000 ∧ p (A b) ≠ 1000000 ∧ p (A b) = q b - pcL L pr (A b) b)) ∧
  (∀ a, 0 ≤ a → a < n → B a = -1 → p a = if L 10 a = 0 then 0 else 1000000) ∧
  (∀ b, 0 ≤ b → b < n → q b ≠ 1000000 → 0 ≤ cf b ∧ cf b < n ∧ lkL L (cf b) b ∧ B (cf b) ≠ b ∧ p (cf b) ≠ 1000000 ∧ p (cf b) + pcL L pr (cf b) b ≤ q b ∧ (B (cf b) = -1 ∨ d (B (cf b)) < d b)) ∧ ∀ x, 0 ≤ d x
def itr (f : Int → Int) : Nat → Int → Int
  | 0, x => x
  | k + 1, x => itr f k (f x)
noncomputable def sftD (D : Int → Prop) (d : Int → Int) (m : Int) : Int → Int := fun x => @ite Int (D x) (Classical.propDecidable (D x)) (d x + m) (d x)
theorem sftD_t {D : Int → Prop} {d : Int → Int} {m x : Int} (h : D x) : sftD D d m x = d x + m := by unfold sftD; exact if_pos h
theorem sftD_f {D : Int → Prop} {d : Int → Int} {m x : Int} (h : ¬ D x) : sftD D d m x = d x := by unfold sftD; exact if_neg h
section Ss1
variable {L : LFn} {pr n a b : Int} {A B p q cf d y z : Int → Int} {lam lam' : Int}
theorem wi_step (hm : ∀ b, 0 ≤ b → b < n → L 9 b ≤ 1439) (hpr : 0 ≤ pr) (hr : ∀ a, 0 ≤ a → a < n → arr L a ≤ 1538) (hA : Mat L n A B) (h : WI L pr n A B p q cf d) (a0 : 0 ≤ a) (a1 : a < n) (b0 : 0 ≤ b) (b1 : b < n) (hl : lkL L a b) (hp : p a ≠ 1000000) (hB : B a ≠ b) (hlt : p a + pcL L pr a b < q b) :
    ∃ d', WI L pr n A B (if A b = -1 then p else upI p (A b) (p a + pcL L pr a b - pcL L pr (A b) b)) (upI q b (p a + pcL L pr a b)) (upI cf b a) d' := by
  obtain ⟨w1, w2, w3, w4, w5, w6⟩ := h
  obtain ⟨m1, m2⟩ := hA
  have pa := w1 a a0 a1
  have qn : p a + pcL L pr a b ≠ 1000000 := by have := hm b b0 b1; unfold pcL; omega
  -- the ones behind b
  generalize hf : (fun x => if 0 ≤ x ∧ x < n ∧ q x ≠ 1000000 ∧ B (cf x) ≠ -1 then B (cf x) else x) = f
  have fe : ∀ x, f x = if 0 ≤ x ∧ x < n ∧ q x ≠ 1000000 ∧ B (cf x) ≠ -1 then B (cf x) else x := fun x => by rw [← hf]
  have mono : ∀ x, 0 ≤ x → x < n → 0 ≤ f x ∧ f x < n ∧ q (f x) - L 9 (f x) ≤ q x - L 9 x := fun x x0 x1 => by
    rw [fe]
    by_cases hx : 0 ≤ x ∧ x < n ∧ q x ≠ 1000000 ∧ B (cf x) ≠ -1
    · rw [if_pos hx]
      obtain ⟨c0, c1, c2, c3, c4, c5, c6⟩ := w5 x x0 x1 hx.2.2.1
      have hb := m2 (cf x) c0 c1
      have hb2 : 0 ≤ B (cf x) ∧ B (cf x) < n ∧ A (B (cf x)) = cf x := by
        rcases hb with w | w
        · exact absurd w hx.2.2.2
        · exact w
      refine ⟨hb2.1, hb2.2.1, ?_⟩
      have q3 := w3 (B (cf x)) hb2.1 hb2.2.1 (by omega)
      rw [hb2.2.2] at q3
      unfold pcL at c5 q3
      omega
    · rw [if_neg hx]; exact ⟨x0, x1, Int.le_refl _⟩
  have desc : ∀ (k : Nat) (x : Int), 0 ≤ x → x < n → itr f k x = b → q b - L 9 b ≤ q x - L 9 x := by
    intro k
    induction k with
    | zero => intro x x0 x1 e; rw [show x = b from e]; exact Int.le_refl _
    | succ k ih =>
      intro x x0 x1 e
      have := mono x x0 x1
      have := ih (f x) this.1 this.2.1 e
      omega
  have dn : ∀ x, x ≠ b → ((∃ k, itr f k x = b) ↔ ∃ k, itr f k (f x) = b) := fun x hx => by
    constructor
    · rintro ⟨k, e⟩
      cases k with
      | zero => exact absurd e hx
      | succ k => exact ⟨k, e⟩
    · rintro ⟨k, e⟩
      exact ⟨k + 1, e⟩
  -- not the one that a stands before
  have nd : B a ≠ -1 → ¬ ∃ k, itr f k (B a) = b := fun hz hx => by
    obtain ⟨k, e⟩ := hx
    have hb := m2 a a0 a1
    have hb2 : 0 ≤ B a ∧ B a < n ∧ A (B a) = a := by
      rcases hb with w | w
      · exact absurd w hz
      · exact w
    have := desc k (B a) hb2.1 hb2.2.1 e
    have q3 := w3 (B a) hb2.1 hb2.2.1 (by omega)
    rw [hb2.2.2] at q3
    unfold pcL at q3 hlt
    omega
  have ub : upI q b (p a + pcL L pr a b) b = p a + pcL L pr a b := if_pos rfl
  have un : ∀ x, x ≠ b → upI q b (p a + pcL L pr a b) x = q x := fun x hx => if_neg hx
  have cb : upI cf b a b = a := if_pos rfl
  have cn : ∀ x, x ≠ b → upI cf b a x = cf x := fun x hx => if_neg hx
  have ab := m1 b b0 b1
  have naa : A b ≠ a := fun w => by
    rcases ab with u | u
    · omega
    · exact hB (by rw [← w]; exact u.2.2.2)
  -- the new p
  have pe : ∀ x, x ≠ A b ∨ A b = -1 → (if A b = -1 then p else upI p (A b) (p a + pcL L pr a b - pcL L pr (A b) b)) x = p x := fun x hx => by
    by_cases hz : A b = -1
    · rw [if_pos hz]
    · rw [if_neg hz]; exact if_neg (by omega)
  have pb : A b ≠ -1 → (if A b = -1 then p else upI p (A b) (p a + pcL L pr a b - pcL L pr (A b) b)) (A b) = p a + pcL L pr a b - pcL L pr (A b) b := fun hz => by
    rw [if_neg hz]; exact if_pos rfl
  generalize (if A b = -1 then p else upI p (A b) (p a + pcL L pr a b - pcL L pr (A b) b)) = p' at pe pb
  have pa' : p' a = p a := pe a (Or.inl (fun w => naa w.symm))
  have pdec : A b ≠ -1 → p' (A b) ≤ p (A b) ∧ p' (A b) ≠ 1000000 := fun hz => by
    rw [pb hz]
    have := w3 b b0 b1 hz
    have r1 := w1 (A b) (by omega) (by omega)
    have r2 := hr (A b) (by omega) (by omega)
    have r3 := hm b b0 b1
    rcases this with ⟨u1, u2⟩ | ⟨u1, u2, u3⟩
    · rw [u2]
      unfold pcL
      omega
    · refine ⟨by omega, ?_⟩
      unfold pcL
      omega
  generalize hdd : sftD (fun x => ∃ k, itr f k x = b) d (if B a = -1 then 0 else d (B a) + 1) = d'
  have d'0 : ∀ x, 0 ≤ d' x := fun x => by
    rw [← hdd]
    have := w6 x
    by_cases hx : ∃ k, itr f k x = b
    · rw [sftD_t hx]
      split
      · omega
      · have := w6 (B a); omega
    · rw [sftD_f hx]; exact this
  refine ⟨d', fun x x0 x1 => ?_, fun x x0 x1 => ?_, fun x x0 x1 hx => ?_, fun x x0 x1 hx => ?_, fun x x0 x1 hx => ?_, d'0⟩
  · by_cases hz : x = A b ∧ A b ≠ -1
    · obtain ⟨rfl, hz⟩ := hz
      rw [pb hz]
      unfold pcL
      omega
    · rw [pe x (by omega)]; exact w1 x x0 x1
  · by_cases hz : x = b
    · rw [hz, ub]; unfold pcL; omega
    · rw [un x hz]; exact w2 x x0 x1
  · by_cases hz : x = b
    · subst hz
      rw [ub]
      exact Or.inr ⟨qn, (pdec hx).2, pb hx⟩
    · have hne : A x ≠ A b ∨ A b = -1 := by
        by_cases hb : A b = -1
        · exact Or.inr hb
        · refine Or.inl (fun w => hz ?_)
          have q1 := m1 x x0 x1
          rw [w] at q1
          omega
      rw [un x hz, pe _ hne]
      exact w3 x x0 x1 hx
  · have hne : x ≠ A b ∨ A b = -1 := by
      by_cases hb : A b = -1
      · exact Or.inr hb
      · refine Or.inl (fun w => ?_)
        rw [w] at hx
        omega
    rw [pe x hne]; exact w4 x x0 x1 hx
  · by_cases hz : x = b
    · subst hz
      rw [cb, ub, pa']
      refine ⟨a0, a1, hl, hB, hp, Int.le_refl _, ?_⟩
      by_cases hBa : B a = -1
      · exact Or.inl hBa
      · refine Or.inr ?_
        rw [← hdd, sftD_f (nd hBa), sftD_t ⟨0, rfl⟩, if_neg hBa]
        have := w6 x
        omega
    · rw [un x hz] at hx ⊢
      rw [cn x hz]
      obtain ⟨c0, c1, c2, c3, c4, c5, c6⟩ := w5 x x0 x1 hx
      have hpp : p' (cf x) ≤ p (cf x) ∧ p' (cf x) ≠ 1000000 := by
        by_cases hc : cf x = A b ∧ A b ≠ -1
        · rw [hc.1]; exact pdec hc.2
        · rw [pe _ (by omega)]; exact ⟨Int.le_refl _, c4⟩
      refine ⟨c0, c1, c2, c3, hpp.2, by omega, ?_⟩
      rcases c6 with w | w
      · exact Or.inl w
      · by_cases hBc : B (cf x) = -1
        · exact Or.inl hBc
        · refine Or.inr ?_
          have ef : f x = B (cf x) := by rw [fe, if_pos ⟨x0, x1, hx, hBc⟩]
          have hd := dn x hz
          rw [ef] at hd
          rw [← hdd]
          by_cases hk : ∃ k, itr f k x = b
          · rw [sftD_t (D := fun x => ∃ k, itr f k x = b) hk, sftD_t (D := fun x => ∃ k, itr f k x = b) (hd.mp hk)]; omega
          · rw [sftD_f (D := fun x => ∃ k, itr f k x = b) hk, sftD_f (D := fun x => ∃ k, itr f k x = b) (fun u => hk (hd.mpr u))]; exact w
/-- at the end no way can be made cheaper -/
def WF1 (L : LFn) (pr n : Int) (B p q : Int → Int) : Prop := ∀ a b, 0 ≤ a → a < n → 0 ≤ b → b < n → lkL L a b → p a ≠ 1000000 → B a ≠ b → q b ≤ p a + pcL L pr a b
/-- prices at which the pairs are the best ones of their number -/
def DU (L : LFn) (pr n : Int) (A B y z : Int → Int) (lam : Int) : Prop :=
  0 ≤ lam ∧ (∀ a, 0 ≤ a → a < n → 0 ≤ y a ∧ 0 ≤ z a) ∧ (∀ a b, 0 ≤ a → a < n → 0 ≤ b → b < n → lkL L a b → - pcL L pr a b ≤ y a + z b + lam) ∧ (∀ b, 0 ≤ b → b < n → A b ≠ -1 → - pcL L pr (A b) b = y (A b) + z b + lam) ∧
  (∀ a, 0 ≤ a → a < n → B a = -1 → y a = 0) ∧ ∀ b, 0 ≤ b → b < n → A b = -1 → z b = 0
theorem wi_eq (h : WI L pr n A B p q cf d) (h1 : WF1 L pr n B p q) (b0 : 0 ≤ b) (b1 : b < n) (hq : q b ≠ 1000000) : q b = p (cf b) + pcL L pr (cf b) b := by
  obtain ⟨w1, w2, w3, w4, w5, w6⟩ := h
  obtain ⟨c0, c1, c2, c3, c4, c5, c6⟩ := w5 b b0 b1 hq
  have := h1 (cf b) b c0 c1 b0 b1 c2 c4 c3
  omega
theorem wi_low (hA : Mat L n A B) (h : WI L pr n A B p q cf d) (h1 : WF1 L pr n B p q) (hD : DU L pr n A B y z lam) : (∀ b, 0 ≤ b → b < n → q b ≠ 1000000 → - z b - lam ≤ q b) ∧ ∀ a, 0 ≤ a → a < n → p a ≠ 1000000 → y a ≤ p a := by
  have hw := h
  obtain ⟨w1, w2, w3, w4, w5, w6⟩ := h
  obtain ⟨m1, m2⟩ := hA
  obtain ⟨d1, d2, d3, d4, d5, d6⟩ := hD
  have two : (∀ a, 0 ≤ a → a < n → p a ≠ 1000000 → (B a ≠ -1 → - z (B a) - lam ≤ q (B a)) → y a ≤ p a) := fun a a0 a1 hp hb => by
    by_cases hz : B a = -1
    · have := w4 a a0 a1 hz
      have := d5 a a0 a1 hz
      split at * <;> omega
    · have hb2 : 0 ≤ B a ∧ B a < n ∧ A (B a) = a := by
        rcases m2 a a0 a1 with w | w
        · exact absurd w hz
        · exact w
      have q3 := w3 (B a) hb2.1 hb2.2.1 (by omega)
      have q4 := d4 (B a) hb2.1 hb2.2.1 (by omega)
      rw [hb2.2.2] at q3 q4
      have := hb hz
      omega
  have one : ∀ j : Nat, ∀ b, 0 ≤ b → b < n → q b ≠ 1000000 → d b ≤ j → - z b - lam ≤ q b := by
    intro j
    induction j with
    | zero =>
      intro b b0 b1 hq hd
      have e := wi_eq hw h1 b0 b1 hq
      obtain ⟨c0, c1, c2, c3, c4, c5, c6⟩ := w5 b b0 b1 hq
      have hB : B (cf b) = -1 := by
        rcases c6 with w | w
        · exact w
        · have := w6 (B (cf b)); omega
      have := two (cf b) c0 c1 c4 (fun w => absurd hB w)
      have := d3 (cf b) b c0 c1 b0 b1 c2
      omega
    | succ j ih =>
      intro b b0 b1 hq hd
      have e := wi_eq hw h1 b0 b1 hq
      obtain ⟨c0, c1, c2, c3, c4, c5, c6⟩ := w5 b b0 b1 hq
      have := two (cf b) c0 c1 c4 (fun w => by
        have hb2 : 0 ≤ B (cf b) ∧ B (cf b) < n ∧ A (B (cf b)) = cf b := by
          rcases m2 (cf b) c0 c1 with u | u
          · exact absurd u w
          · exact u
        have q3 := w3 (B (cf b)) hb2.1 hb2.2.1 (by omega)
        rw [hb2.2.2] at q3
        exact ih (B (cf b)) hb2.1 hb2.2.1 (by omega) (by omega))
      have := d3 (cf b) b c0 c1 b0 b1 c2
      omega
  have o : ∀ b, 0 ≤ b → b < n → q b ≠ 1000000 → - z b - lam ≤ q b := fun b b0 b1 hq => one (d b).toNat b b0 b1 hq (by have := w6 b; omega)
  refine ⟨o, fun a a0 a1 hp => two a a0 a1 hp (fun w => ?_)⟩
  have hb2 : 0 ≤ B a ∧ B a < n ∧ A (B a) = a := by
    rcases m2 a a0 a1 with u | u
    · exact absurd u w
    · exact u
  have q3 := w3 (B a) hb2.1 hb2.2.1 (by omega)
  rw [hb2.2.2] at q3
  exact o (B a) hb2.1 hb2.2.1 (by omega)
/-- the prices behind the ways -/
def ydN (B p y : Int → Int) (lam lam' : Int) : Int → Int := fun a => if B a = -1 then 0 else if p a = 1000000 then y a + (lam - lam') else min (p a) (y a + (lam - lam'))
def zdN (q z : Int → Int) (lam' : Int) : Int → Int := fun b => if q b = 1000000 then z b else max (z b) (- q b - lam')
theorem du_next (hm : ∀ b, 0 ≤ b → b < n → L 9 b ≤ 1439) (hpr : 0 ≤ pr) (hA : Mat L n A B) (h : WI L pr n A B p q cf d) (h1 : WF1 L pr n B p q) (hD : DU L pr n A B y z lam) (l0 : 0 ≤ lam') (l1 : lam' ≤ lam) (hf : ∀ b, 0 ≤ b → b < n → A b = -1 → - lam' ≤ q b) : DU L pr n A B (ydN B p y lam lam') (zdN q z lam') lam' := by
  obtain ⟨low1, low2⟩ := wi_low hA h h1 hD
  obtain ⟨w1, w2, w3, w4, w5, w6⟩ := h
  obtain ⟨m1, m2⟩ := hA
  obtain ⟨d1, d2, d3, d4, d5, d6⟩ := hD
  have eq9 : ∀ b, 0 ≤ b → b < n → A b ≠ -1 → - pcL L pr (A b) b = ydN B p y lam lam' (A b) + zdN q z lam' b + lam' := fun b b0 b1 hb => by
    have ab := m1 b b0 b1
    have hBb : B (A b) = b := by omega
    have q4 := d4 b b0 b1 hb
    unfold ydN zdN
    rw [hBb, if_neg (show ¬ b = -1 by omega)]
    rcases w3 b b0 b1 hb with ⟨u1, u2⟩ | ⟨u1, u2, u3⟩
    · rw [if_pos u2, if_pos u1]; omega
    · rw [if_neg u2, if_neg u1]
      have := low2 (A b) (by omega) (by omega) u2
      omega
  refine ⟨l0, fun a a0 a1 => ⟨?_, ?_⟩, fun a b a0 a1 b0 b1 hl => ?_, eq9, fun a a0 a1 hB => if_pos hB, fun b b0 b1 hb => ?_⟩
  · unfold ydN
    have := (d2 a a0 a1).1
    split
    · exact Int.le_refl _
    · split
      · omega
      · have := low2 a a0 a1 (by assumption); omega
  · unfold zdN
    have := (d2 a a0 a1).2
    split <;> omega
  · by_cases hBa : B a = b
    · have hb2 : A b = a := by
        rcases m2 a a0 a1 with u | u
        · omega
        · rw [hBa] at u; exact u.2.2
      have := eq9 b b0 b1 (by omega)
      rw [hb2] at this
      omega
    · have q3 := d3 a b a0 a1 b0 b1 hl
      have pa := w1 a a0 a1
      have hb9 := hm b b0 b1
      unfold ydN zdN
      by_cases hp : p a = 1000000
      · have hBn : B a ≠ -1 := fun w => by
          have := w4 a a0 a1 w
          rw [if_pos hl.1] at this
          omega
        rw [if_neg hBn, if_pos hp]
        split <;> omega
      · have f1 := h1 a b a0 a1 b0 b1 hl hp hBa
        have hq : q b ≠ 1000000 := by unfold pcL at f1; omega
        rw [if_neg hq, if_neg hp]
        by_cases hBn : B a = -1
        · rw [if_pos hBn]
          have := w4 a a0 a1 hBn
          rw [if_pos hl.1] at this
          omega
        · rw [if_neg hBn]; omega
  · unfold zdN
    have := d6 b b0 b1 hb
    have := hf b b0 b1 hb
    split <;> omega
/-- a way's pairs fit the new prices -/
theorem wi_tight (hA : Mat L n A B) (h : WI L pr n A B p q cf d) (h1 : WF1 L pr n B p q) (hD : DU L pr n A B y z lam) (b0 : 0 ≤ b) (b1 : b < n) (hq : q b ≠ 1000000) (hr : q b + z b + lam ≤ lam - lam') :
    - pcL L pr (cf b) b = ydN B p y lam lam' (cf b) + zdN q z lam' b + lam' ∧ (B (cf b) ≠ -1 → q (B (cf b)) ≠ 1000000 ∧ q (B (cf b)) + z (B (cf b)) + lam ≤ lam - lam' ∧ q b - q (B (cf b)) = pcL L pr (cf b) b - pcL L pr (cf b) (B (cf b))) ∧ (B (cf b) = -1 → q b = pcL L pr (cf b) b) := by
  have e := wi_eq h h1 b0 b1 hq
  obtain ⟨w1, w2, w3, w4, w5, w6⟩ := h
  obtain ⟨m1, m2⟩ := hA
  obtain ⟨d1, d2, d3, d4, d5, d6⟩ := hD
  obtain ⟨c0, c1, c2, c3, c4, c5, c6⟩ := w5 b b0 b1 hq
  have q3 := d3 (cf b) b c0 c1 b0 b1 c2
  refine ⟨?_, fun hB => ?_, fun hB => ?_⟩
  · unfold ydN zdN
    rw [if_neg hq, if_neg c4]
    by_cases hB : B (cf b) = -1
    · rw [if_pos hB]
      have := w4 (cf b) c0 c1 hB
      rw [if_pos c2.1] at this
      omega
    · rw [if_neg hB]; omega
  · have hb2 : 0 ≤ B (cf b) ∧ B (cf b) < n ∧ A (B (cf b)) = cf b := by
      rcases m2 (cf b) c0 c1 with u | u
      · exact absurd u hB
      · exact u
    have r3 := w3 (B (cf b)) hb2.1 hb2.2.1 (by omega)
    have r4 := d4 (B (cf b)) hb2.1 hb2.2.1 (by omega)
    rw [hb2.2.2] at r3 r4
    omega
  · have := w4 (cf b) c0 c1 hB
    rw [if_pos c2.1] at this
    omega
/-- the pairs at the end are the best -/
theorem du_opt {W : Int} (hn : 0 ≤ n) (hA : Mat L n A B) (hD : DU L pr n A B y z 0) (hW : sumT (fun b => if A b = -1 then 0 else - pcL L pr (A b) b) 0 n = W) : OPT (wLC L pr) n W := by
  obtain ⟨m1, m2⟩ := hA
  obtain ⟨d1, d2, d3, d4, d5, d6⟩ := hD
  refine ⟨A, y, z, fun b b0 b1 => ?_, fun b b' b0 b1 c0 c1 e hz => ?_, ?_, d2, fun a b a0 a1 b0 b1 => ?_, ?_⟩
  · have := m1 b b0 b1; omega
  · have h1 := m1 b b0 b1
    have h2 := m1 b' c0 c1
    rw [← e] at h2
    omega
  · rw [← hW]
    refine sumT_mn hn (fun b b0 b1 => ?_)
    show (if A b = -1 then 0 else - pcL L pr (A b) b) ≤ (if A b = -1 then 0 else wLC L pr (A b) b)
    rcases m1 b b0 b1 with w | w
    · rw [if_pos w, if_pos w]; exact Int.le_refl _
    · rw [if_neg (by omega), if_neg (by omega)]
      unfold wLC
      rw [if_pos w.2.2.1]
      unfold pcL
      omega
  · unfold wLC
    have := d2 a a0 a1
    have := d2 b b0 b1
    by_cases hl : lkL L a b
    · rw [if_pos hl]
      have := d3 a b a0 a1 b0 b1 hl
      unfold pcL at this
      omega
    · rw [if_neg hl]; omega
  · have i1 := sumT_inj (f := B) (g := fun b => if A b = -1 then 0 else y (A b)) hn hn (fun a a0 a1 => by have := m2 a a0 a1; omega) (fun a a' a0 a1 c0 c1 e hz => by
      have h1 := m2 a a0 a1
      have h2 := m2 a' c0 c1
      rw [← e] at h2
      omega) (fun b b0 b1 => by
      show 0 ≤ (if A b = -1 then 0 else y (A b))
      rcases m1 b b0 b1 with w | w
      · rw [if_pos w]; exact Int.le_refl _
      · rw [if_neg (by omega)]; exact (d2 (A b) w.1 w.2.1).1)
    have e1 : sumT y 0 n = sumT (fun a => if B a = -1 then 0 else (if A (B a) = -1 then 0 else y (A (B a)))) 0 n := sumT_congr (fun a a0 a1 => by
      show y a = (if B a = -1 then 0 else (if A (B a) = -1 then 0 else y (A (B a))))
      rcases m2 a a0 a1 with w | w
      · rw [if_pos w]; exact d5 a a0 a1 w
      · rw [if_neg (by omega), w.2.2, if_neg (by omega)])
    have i2 : sumT (fun a => if B a = -1 then 0 else (if A (B a) = -1 then 0 else y (A (B a)))) 0 n ≤ sumT (fun b => if A b = -1 then 0 else y (A b)) 0 n := i1
    have e2 : sumT (fun b => (if A b = -1 then 0 else y (A b)) + z b) 0 n = W := by
      rw [← hW]
      refine sumT_congr (fun b b0 b1 => ?_)
      show (if A b = -1 then 0 else y (A b)) + z b = (if A b = -1 then 0 else - pcL L pr (A b) b)
      by_cases hb : A b = -1
      · rw [if_pos hb, if_pos hb]
        have := d6 b b0 b1 hb
        omega
      · rw [if_neg hb, if_neg hb]
        have := d4 b b0 b1 hb
        omega
    rw [sumT_add _ _ hn] at e2
    omega
end Ss1
