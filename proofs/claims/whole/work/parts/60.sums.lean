/-! ===== sums, matchings, duality ===== -/
theorem up_ind {P : Int → Prop} {a k : Int} (hk : a ≤ k) (h0 : P a) (hs : ∀ x, a ≤ x → x < k → P x → P (x + 1)) : P k := by
  obtain ⟨n, rfl⟩ : ∃ n : Nat, k = a + n := ⟨(k - a).toNat, by omega⟩
  clear hk
  induction n with
  | zero => rw [show a + ((0 : Nat) : Int) = a by omega]; exact h0
  | succ n ih =>
    rw [show (a + ((n + 1 : Nat) : Int)) = (a + n) + 1 by omega]
    exact hs _ (by omega) (by omega) (ih (fun x h1 h2 => hs x h1 (by omega)))
theorem sumT_add (f g : Int → Int) {a k : Int} (hk : a ≤ k) : sumT (fun x => f x + g x) a k = sumT f a k + sumT g a k := by
  refine up_ind (P := fun k => sumT (fun x => f x + g x) a k = sumT f a k + sumT g a k) hk ?_ (fun x h1 h2 ih => ?_)
  · show sumT (fun x => f x + g x) a a = sumT f a a + sumT g a a
    rw [sumT_same, sumT_same, sumT_same]
    rfl
  · show sumT (fun x => f x + g x) a (x + 1) = sumT f a (x + 1) + sumT g a (x + 1)
    have ih' : sumT (fun x => f x + g x) a x = sumT f a x + sumT g a x := ih
    rw [sumT_step _ h1, sumT_step _ h1, sumT_step _ h1, ih']
    omega
theorem sumT_neg (f : Int → Int) {a k : Int} (hk : a ≤ k) : sumT (fun x => - f x) a k = - sumT f a k := by
  refine up_ind (P := fun k => sumT (fun x => - f x) a k = - sumT f a k) hk ?_ (fun x h1 h2 ih => ?_)
  · show sumT (fun x => - f x) a a = - sumT f a a
    rw [sumT_same, sumT_same]
    rfl
  · show sumT (fun x => - f x) a (x + 1) = - sumT f a (x + 1)
    have ih' : sumT (fun x => - f x) a x = - sumT f a x := ih
    rw [sumT_step _ h1, sumT_step _ h1, ih']
    omega
theorem sumT_mn {f g : Int → Int} {a k : Int} (hk : a ≤ k) (h : ∀ x, a ≤ x → x < k → f x ≤ g x) : sumT f a k ≤ sumT g a k := by
  refine up_ind (P := fun k => sumT f a k ≤ sumT g a k) hk ?_ (fun x h1 h2 ih => ?_)
  · show sumT f a a ≤ sumT g a a
    rw [sumT_same, sumT_same]
    exact Int.le_refl _
  · show sumT f a (x + 1) ≤ sumT g a (x + 1)
    have ih' : sumT f a x ≤ sumT g a x := ih
    have := h x h1 h2
    rw [sumT_step _ h1, sumT_step _ h1]
    omega
theorem sumT_0 {a k : Int} (hk : a ≤ k) : sumT (fun _ => 0) a k = 0 := by
  have h := sumT_bd (f := fun _ => 0) (a := a) (lo := 0) (hi := 0) (k := k) hk (fun _ _ _ => ⟨Int.le_refl _, Int.le_refl _⟩)
  omega
theorem sumT_z {f : Int → Int} {a k : Int} (hk : a ≤ k) (h : ∀ x, a ≤ x → x < k → f x = 0) : sumT f a k = 0 := (sumT_congr h).trans (sumT_0 hk)
theorem sumT_nn {f : Int → Int} {a k : Int} (hk : a ≤ k) (h : ∀ x, a ≤ x → x < k → 0 ≤ f x) : 0 ≤ sumT f a k := by
  have h1 := sumT_mn (f := fun _ => 0) (g := f) hk h
  rw [sumT_0 hk] at h1
  exact h1
theorem sumT_upI (f : Int → Int) {a k j : Int} (v : Int) (h0 : a ≤ j) (h1 : j < k) : sumT (upI f j v) a k = sumT f a k - f j + v := by
  refine up_ind (P := fun k => sumT (upI f j v) a k = sumT f a k - f j + v) (show j + 1 ≤ k by omega) ?_ (fun x h1 h2 ih => ?_)
  · show sumT (upI f j v) a (j + 1) = sumT f a (j + 1) - f j + v
    have e : sumT (upI f j v) a j = sumT f a j := sumT_congr (fun x q1 q2 => by show (if x = j then v else f x) = f x; rw [if_neg (by omega)])
    have e2 : upI f j v j = v := if_pos rfl
    rw [sumT_step _ h0, sumT_step _ h0, e, e2]
    omega
  · show sumT (upI f j v) a (x + 1) = sumT f a (x + 1) - f j + v
    have ih' : sumT (upI f j v) a x = sumT f a x - f j + v := ih
    have e2 : upI f j v x = f x := if_neg (by omega)
    rw [sumT_step _ (by omega), sumT_step _ (by omega), ih', e2]
    omega
theorem sumT_pick {a k j : Int} (v : Int) (h0 : a ≤ j) (h1 : j < k) : sumT (fun x => if x = j then v else 0) a k = v := by
  have h := sumT_upI (fun _ => 0) v h0 h1
  rw [sumT_0 (by omega)] at h
  have e : (upI (fun _ => 0) j v) = (fun x => if x = j then v else 0) := rfl
  rw [e] at h
  omega
theorem sumT_swap (F : Int → Int → Int) {a b c d : Int} (hab : a ≤ b) (hcd : c ≤ d) : sumT (fun x => sumT (fun y => F x y) c d) a b = sumT (fun y => sumT (fun x => F x y) a b) c d := by
  refine up_ind (P := fun b => sumT (fun x => sumT (fun y => F x y) c d) a b = sumT (fun y => sumT (fun x => F x y) a b) c d) hab ?_ (fun x h1 h2 ih => ?_)
  · show sumT (fun x => sumT (fun y => F x y) c d) a a = sumT (fun y => sumT (fun x => F x y) a a) c d
    rw [sumT_same, sumT_z hcd (fun y _ _ => sumT_same _ _)]
  · show sumT (fun x => sumT (fun y => F x y) c d) a (x + 1) = sumT (fun y => sumT (fun x => F x y) a (x + 1)) c d
    have ih' : sumT (fun x => sumT (fun y => F x y) c d) a x = sumT (fun y => sumT (fun x => F x y) a x) c d := ih
    rw [sumT_step _ h1, ih', ← sumT_add _ _ hcd]
    exact sumT_congr (fun y _ _ => (sumT_step _ h1).symm)
theorem sumT_shift (f : Int → Int) {a k : Int} (hk : a ≤ k) : sumT f (a + 1) (k + 1) = sumT (fun x => f (x + 1)) a k := by
  refine up_ind (P := fun k => sumT f (a + 1) (k + 1) = sumT (fun x => f (x + 1)) a k) hk ?_ (fun x h1 h2 ih => ?_)
  · show sumT f (a + 1) (a + 1) = sumT (fun x => f (x + 1)) a a
    rw [sumT_same, sumT_same]
  · show sumT f (a + 1) (x + 1 + 1) = sumT (fun x => f (x + 1)) a (x + 1)
    have ih' : sumT f (a + 1) (x + 1) = sumT (fun x => f (x + 1)) a x := ih
    rw [sumT_step _ (show a + 1 ≤ x + 1 by omega), sumT_step _ h1, ih']
/-- a sum over those that f reaches, each at most once -/
theorem sumT_inj {f g : Int → Int} {a b n : Int} (hab : a ≤ b) (hn : 0 ≤ n) (hf : ∀ j, a ≤ j → j < b → f j = -1 ∨ (0 ≤ f j ∧ f j < n)) (hi : ∀ j j', a ≤ j → j < b → a ≤ j' → j' < b → f j = f j' → f j ≠ -1 → j = j') (hg : ∀ r, 0 ≤ r → r < n → 0 ≤ g r) :
    sumT (fun j => if f j = -1 then 0 else g (f j)) a b ≤ sumT g 0 n := by
  have e1 : sumT (fun j => if f j = -1 then 0 else g (f j)) a b = sumT (fun j => sumT (fun r => if r = f j then g (f j) else 0) 0 n) a b := by
    refine sumT_congr (fun j j0 j1 => ?_)
    rcases hf j j0 j1 with h | ⟨h1, h2⟩
    · show (if f j = -1 then 0 else g (f j)) = _
      rw [if_pos h, sumT_z hn (fun r r0 r1 => if_neg (by omega))]
    · show (if f j = -1 then 0 else g (f j)) = _
      rw [if_neg (by omega), sumT_pick _ h1 h2]
  rw [e1, sumT_swap _ hab hn]
  refine sumT_mn hn (fun r r0 r1 => ?_)
  show sumT (fun j => if r = f j then g (f j) else 0) a b ≤ g r
  by_cases hx : ∃ j, a ≤ j ∧ j < b ∧ f j = r
  · obtain ⟨j, j0, j1, rfl⟩ := hx
    have e : sumT (fun j' => if f j = f j' then g (f j') else 0) a b = sumT (fun x => if x = j then g (f j) else 0) a b := by
      refine sumT_congr (fun j' q0 q1 => ?_)
      show (if f j = f j' then g (f j') else 0) = (if j' = j then g (f j) else 0)
      by_cases hj : j' = j
      · rw [hj, if_pos rfl, if_pos rfl]
      · rw [if_neg hj, if_neg (fun w => hj (hi j j' j0 j1 q0 q1 w (by omega)).symm)]
    rw [e, sumT_pick _ j0 j1]
    exact Int.le_refl _
  · rw [sumT_z hab (fun j q0 q1 => if_neg (fun w => hx ⟨j, q0, q1, w.symm⟩))]
    exact hg r r0 r1
/-- x is the least sum of an assignment, as its prices show -/
def LV (V : Int → Int → Int) (n x : Int) : Prop := ∃ u v p : Int → Int, (∀ c, 1 ≤ c → c ≤ n → 1 ≤ p c ∧ p c ≤ n) ∧ (∀ c c', 1 ≤ c → c ≤ n → 1 ≤ c' → c' ≤ n → p c = p c' → c = c') ∧ x = sumT (fun c => V (p c) c) 1 (n + 1) ∧
  (∀ r c, 1 ≤ r → r ≤ n → 1 ≤ c → c ≤ n → u r + v c ≤ V r c) ∧ (∀ r, 1 ≤ r → r ≤ n → u r ≤ 0) ∧ (∀ c, 1 ≤ c → c ≤ n → v c ≤ 0) ∧ sumT u 1 (n + 1) + sumT v 1 (n + 1) = x
/-- W is the greatest sum of pairs, as the prices y, z show -/
def OPT (w : Int → Int → Int) (n W : Int) : Prop := ∃ A y z : Int → Int, (∀ b, 0 ≤ b → b < n → A b = -1 ∨ (0 ≤ A b ∧ A b < n)) ∧ (∀ b b', 0 ≤ b → b < n → 0 ≤ b' → b' < n → A b = A b' → A b ≠ -1 → b = b') ∧
  W ≤ sumT (fun b => if A b = -1 then 0 else w (A b) b) 0 n ∧ (∀ a, 0 ≤ a → a < n → 0 ≤ y a ∧ 0 ≤ z a) ∧ (∀ a b, 0 ≤ a → a < n → 0 ≤ b → b < n → w a b ≤ y a + z b) ∧ sumT y 0 n + sumT z 0 n ≤ W
theorem lv_opt {V w : Int → Int → Int} {n x W : Int} (hn : 0 ≤ n) (h : LV V n x) (o : OPT w n W) (e : ∀ a b, 0 ≤ a → a < n → 0 ≤ b → b < n → V (a + 1) (b + 1) = - w a b) : x = -W := by
  obtain ⟨u, v, p, p1, p2, p3, p4, p5, p6, p7⟩ := h
  obtain ⟨A, y, z, q1, q2, q3, q4, q5, q6⟩ := o
  have s1 : sumT u 1 (n + 1) = sumT (fun a => u (a + 1)) 0 n := sumT_shift (a := 0) u hn
  have s2 : sumT v 1 (n + 1) = sumT (fun a => v (a + 1)) 0 n := sumT_shift (a := 0) v hn
  have n1 := sumT_neg (fun a => u (a + 1)) hn
  have n2 := sumT_neg (fun a => v (a + 1)) hn
  have h1 : W ≤ -x := by
    have i1 : sumT (fun b => if A b = -1 then 0 else w (A b) b) 0 n ≤ sumT (fun b => (if A b = -1 then 0 else - u (A b + 1)) + (- v (b + 1))) 0 n := by
      refine sumT_mn hn (fun b b0 b1 => ?_)
      show (if A b = -1 then 0 else w (A b) b) ≤ (if A b = -1 then 0 else - u (A b + 1)) + (- v (b + 1))
      have hv := p6 (b + 1) (by omega) (by omega)
      rcases q1 b b0 b1 with k | ⟨k1, k2⟩
      · rw [if_pos k, if_pos k]; omega
      · rw [if_neg (by omega), if_neg (by omega)]
        have := p4 (A b + 1) (b + 1) (by omega) (by omega) (by omega) (by omega)
        have := e (A b) b k1 k2 b0 b1
        omega
    rw [sumT_add _ _ hn, n2] at i1
    have i2 := sumT_inj (f := A) (g := fun a => - u (a + 1)) hn hn q1 q2 (fun r r0 r1 => by have := p5 (r + 1) (by omega) (by omega); show 0 ≤ - u (r + 1); omega)
    rw [n1] at i2
    omega
  have h2 : -x ≤ W := by
    have t1 : sumT (fun c => V (p c) c) 1 (n + 1) = sumT (fun b => V (p (b + 1)) (b + 1)) 0 n := sumT_shift (a := 0) _ hn
    have t2 := sumT_neg (fun b => V (p (b + 1)) (b + 1)) hn
    have i1 : sumT (fun b => - V (p (b + 1)) (b + 1)) 0 n ≤ sumT (fun b => (if p (b + 1) - 1 = -1 then 0 else y (p (b + 1) - 1)) + z b) 0 n := by
      refine sumT_mn hn (fun b b0 b1 => ?_)
      show - V (p (b + 1)) (b + 1) ≤ (if p (b + 1) - 1 = -1 then 0 else y (p (b + 1) - 1)) + z b
      have hp := p1 (b + 1) (by omega) (by omega)
      rw [if_neg (by omega)]
      have := q5 (p (b + 1) - 1) b (by omega) (by omega) b0 b1
      have h9 := e (p (b + 1) - 1) b (by omega) (by omega) b0 b1
      rw [show p (b + 1) - 1 + 1 = p (b + 1) by omega] at h9
      omega
    rw [sumT_add _ _ hn] at i1
    have i2 := sumT_inj (f := fun b => p (b + 1) - 1) (g := y) hn hn (fun j j0 j1 => Or.inr (by have := p1 (j + 1) (by omega) (by omega); show 0 ≤ p (j + 1) - 1 ∧ p (j + 1) - 1 < n; omega))
      (fun j j' j0 j1 k0 k1 hq _ => by have hq' : p (j + 1) - 1 = p (j' + 1) - 1 := hq; have := p2 (j + 1) (j' + 1) (by omega) (by omega) (by omega) (by omega) (by omega); omega) (fun r r0 r1 => (q4 r r0 r1).1)
    have i3 : sumT (fun b => if p (b + 1) - 1 = -1 then 0 else y (p (b + 1) - 1)) 0 n ≤ sumT y 0 n := i2
    omega
  omega
