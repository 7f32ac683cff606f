/-! ===== the abstract machine over the kit's rows: ints are Int, the heap is one function of memory ===== -/
-- ints
def J (n : Int) : Int32 := Int32.ofInt n
def I32 (n : Int) : Prop := -2147483648 ≤ n ∧ n ≤ 2147483647
theorem J_toInt {n : Int} (h : I32 n) : (J n).toInt = n := by
  unfold J
  rw [Int32.toInt_ofInt]
  obtain ⟨h1, h2⟩ := h
  first
    | exact Int.bmod_eq_of_le (by simp; omega) (by simp; omega)
    | (rw [Int.bmod_def]; simp; omega)
theorem J_of (x : Int32) : J x.toInt = x := by
  unfold J
  first | exact Int32.ofInt_toInt x | simp
theorem I32_of (x : Int32) : I32 x.toInt := by
  have h1 := Int32.le_toInt x
  have h2 := Int32.toInt_lt x
  unfold I32
  constructor <;> omega
theorem J_add (a b : Int) : J a + J b = J (a + b) := by
  unfold J
  first | exact (Int32.ofInt_add a b).symm | simp
theorem J_sub (a b : Int) : J a - J b = J (a - b) := by
  unfold J
  first | exact (Int32.ofInt_sub a b).symm | simp
theorem J_mul (a b : Int) : J a * J b = J (a * b) := by
  unfold J
  first | exact (Int32.ofInt_mul a b).symm | simp
theorem J_neg (a : Int) : - J a = J (-a) := by
  unfold J
  first | exact (Int32.ofInt_neg a).symm | simp
theorem J_lt {a b : Int} (ha : I32 a) (hb : I32 b) : J a < J b ↔ a < b := by
  rw [Int32.lt_iff_toInt_lt, J_toInt ha, J_toInt hb]
theorem J_le {a b : Int} (ha : I32 a) (hb : I32 b) : J a ≤ J b ↔ a ≤ b := by
  rw [Int32.le_iff_toInt_le, J_toInt ha, J_toInt hb]
theorem J_eq {a b : Int} (ha : I32 a) (hb : I32 b) : J a = J b ↔ a = b := by
  constructor
  · intro h
    have := congrArg Int32.toInt h
    rwa [J_toInt ha, J_toInt hb] at this
  · intro h; rw [h]
theorem I32_0 : I32 0 := by unfold I32; omega
theorem J_clamp {n : Int} (h : I32 n) : (J n).toNatClampNeg = n.toNat := by
  show (J n).toInt.toNat = n.toNat
  rw [J_toInt h]
theorem J_in {i : Int} {n : Nat} (h0 : 0 ≤ i) (h1 : i < (n : Int)) (hn : n ≤ 100000) : vp_in (J i) n := by
  have hi : I32 i := by unfold I32; omega
  intro h
  rcases h with h | h
  · have h0' : (0 : Int32) = J 0 := rfl
    rw [h0', J_lt hi I32_0] at h
    omega
  · rw [J_clamp hi] at h
    omega
abbrev iv (n : Int) : Value := .int (J n)
-- memory: region, which of its kind, place in it, slot
abbrev Mem : Type := Nat → Int → Int → Int → Int
def wrow (M : Mem) (a : Nat) (b c : Int) (f : Int → Int) : Mem := fun a' b' c' => if a' = a ∧ c' = c ∧ b' = b then f else M a' b' c'
def upI (f : Int → Int) (k v : Int) : Int → Int := fun d => if d = k then v else f d
def wr (M : Mem) (a : Nat) (b c : Int) (k v : Int) : Mem := wrow M a b c (upI (M a b c) k v)
-- the run's fixed things: the start's state, the classes and their slots, the array classes (int, boolean, char, Line[], int[][], long, double), the launch
abbrev GT : Type := State × va_G × (Nat → ClassId) × Launch
abbrev s0G (G : GT) : State := G.1
abbrev dG (G : GT) : va_G := G.2.1
abbrev cyG (G : GT) : Nat → ClassId := G.2.2.1
abbrev lG (G : GT) : Launch := G.2.2.2
abbrev bG (G : GT) : Nat := G.1.heap.size
abbrev AG (G : GT) : Nat → Prop := fun q => bG G ≤ q
abbrev tyG (G : GT) : List (ClassId × FieldType) := [(cyG G 0, .int), (cyG G 1, .boolean), (cyG G 2, .char), (cyG G 3, .object "TramLines$Line"), (cyG G 4, .array .int), (cyG G 5, .long), (cyG G 6, .double)]
-- where a thing lies: the order in which the constructors make them
def lb (i : Nat) : Nat := if i = 0 then 1 else if i = 1 then 30 else if i = 11 then 392 else 3 + 29 * i
def offN (a i o : Nat) : Nat := match a with
  | 0 => 0
  | 1 => lb i + o
  | 2 => 59 + o
  | 3 => 322 + o
  | 4 => if o = 0 then 421 else 427 + o
  | 5 => (if i = 0 then 469 else 419 + 3 * i) + o
  | 6 => 430 + o
  | 7 => 472 + o
  | 8 => 477 + o
  | _ => 501 + o
def domN (a i o : Nat) : Bool := match a with
  | 0 => decide (i = 0 ∧ o = 0)
  | 1 => decide (i < 12 ∧ o < 29)
  | 2 => decide (i = 0 ∧ o < 2)
  | 3 => decide (i = 0 ∧ o < 70)
  | 4 => decide (i = 0 ∧ o < 3)
  | 5 => decide (i < 3 ∧ o < 3)
  | 6 => decide (i = 0 ∧ o < 39)
  | 7 => decide (i = 0 ∧ o < 5)
  | 8 => decide (i = 0 ∧ o < 24)
  | 9 => decide (i = 0 ∧ o < 2)
  | _ => false
def un (n : Nat) : Nat × Nat × Nat :=
  if n = 0 then (0, 0, 0) else if n < 59 then (1, (n - 1) / 29, (n - 1) % 29) else if n < 61 then (2, 0, n - 59)
  else if n < 322 then (1, (n - 61) / 29 + 2, (n - 61) % 29) else if n < 392 then (3, 0, n - 322) else if n < 421 then (1, 11, n - 392)
  else if n = 421 then (4, 0, 0) else if n < 425 then (5, 1, n - 422) else if n < 428 then (5, 2, n - 425) else if n < 430 then (4, 0, n - 427)
  else if n < 469 then (6, 0, n - 430) else if n < 472 then (5, 0, n - 469) else if n < 477 then (7, 0, n - 472) else if n < 501 then (8, 0, n - 477) else (9, 0, n - 501)
def NN : Nat := 503
theorem un_offB : ((List.range 10).all fun a => (List.range 12).all fun i => (List.range 70).all fun o => !(domN a i o) || (decide (offN a i o < 503) && decide (un (offN a i o) = (a, i, o)))) = true := by decide +kernel
theorem un_off0 (a : Nat) (h1 : a < 10) (i : Nat) (h2 : i < 12) (o : Nat) (h3 : o < 70) (h : domN a i o = true) : offN a i o < 503 ∧ un (offN a i o) = (a, i, o) := by
  have q := List.all_eq_true.mp (List.all_eq_true.mp (List.all_eq_true.mp un_offB a (List.mem_range.mpr h1)) i (List.mem_range.mpr h2)) o (List.mem_range.mpr h3)
  rw [h] at q
  simpa using q
theorem off_un : ∀ n, n < 503 → offN (un n).1 (un n).2.1 (un n).2.2 = n := by decide +kernel
theorem domN_lt {a i o : Nat} (h : domN a i o = true) : a < 10 ∧ i < 12 ∧ o < 70 := by
  unfold domN at h
  split at h <;> first | (simp at h; omega) | simp at h
def off (a : Nat) (i o : Int) : Nat := offN a i.toNat o.toNat
def dom (a : Nat) (i o : Int) : Prop := 0 ≤ i ∧ 0 ≤ o ∧ domN a i.toNat o.toNat = true
theorem un_off {a : Nat} {i o : Int} (h : dom a i o) : off a i o < 503 ∧ un (off a i o) = (a, i.toNat, o.toNat) := by
  obtain ⟨h1, h2, h3⟩ := domN_lt h.2.2
  exact un_off0 a h1 _ h2 _ h3 h.2.2
theorem dom1 {i o : Int} (h0 : 0 ≤ i) (h1 : i < 12) (h2 : 0 ≤ o) (h3 : o < 29) : dom 1 i o := ⟨h0, h2, by simp only [domN, decide_eq_true_eq]; omega⟩
theorem dom3 {o : Int} (h2 : 0 ≤ o) (h3 : o < 70) : dom 3 0 o := ⟨by decide, h2, by simp only [domN, decide_eq_true_eq]; omega⟩
theorem dom5 {i o : Int} (h0 : 0 ≤ i) (h1 : i < 3) (h2 : 0 ≤ o) (h3 : o < 3) : dom 5 i o := ⟨h0, h2, by simp only [domN, decide_eq_true_eq]; omega⟩
theorem dom6 {o : Int} (h2 : 0 ≤ o) (h3 : o < 39) : dom 6 0 o := ⟨by decide, h2, by simp only [domN, decide_eq_true_eq]; omega⟩
abbrev ad (G : GT) (a : Nat) (i o : Int) : Nat := bG G + off a i o
abbrev rr (G : GT) (a : Nat) (i o : Int) : Value := .ref (ad G a i o)
abbrev aI (c : ClassId) (n : Nat) (row : Int → Int) : va_E := .inl (c, n, .inl (fun k : Nat => J (row (k : Int))))
abbrev aQ (c : ClassId) (n : Nat) (f : Nat → Option Nat) : va_E := .inl (c, n, .inr (.inr (.inr (.inr f))))
-- what a place holds, by its row
def entR (G : GT) (a : Nat) (i : Int) (o : Nat) (r : Int → Int) : va_E := match a with
  | 0 => .inr (13, [rr G 1 0 0, rr G 1 1 0, rr G 2 0 0, rr G 3 0 0, rr G 4 0 0, rr G 6 0 0, rr G 5 0 0, rr G 7 0 0, iv (r 8)])
  | 1 => (match o with
    | 0 => .inr (6, [rr G 1 i 1, rr G 1 i 6, rr G 1 i 11, rr G 1 i 25])
    | 1 => .inr (11, [rr G 1 i 2, rr G 1 i 3, rr G 1 i 4, rr G 1 i 5])
    | 2 => aI (cyG G 0) 11 r
    | 3 => aI (cyG G 0) 11 r
    | 4 => aI (cyG G 1) 12 r
    | 5 => aI (cyG G 0) 3 r
    | 6 => .inr (10, [rr G 1 i 7, rr G 1 i 8, rr G 1 i 9, rr G 1 i 10, iv (r 4)])
    | 7 => aI (cyG G 0) 30 r
    | 8 => aI (cyG G 0) 30 r
    | 9 => aI (cyG G 0) 30 r
    | 10 => aI (cyG G 1) 30 r
    | 11 => .inr (4, [rr G 1 i 12, rr G 1 i 13, rr G 1 i 14, iv (r 3)])
    | 12 => aI (cyG G 0) 10 r
    | 13 => aI (cyG G 0) 10 r
    | 14 => aQ (cyG G 4) 10 (fun k => some (ad G 1 i (15 + (k : Int))))
    | 25 => .inr (2, [rr G 1 i 26, rr G 1 i 27, rr G 1 i 28, iv (r 3)])
    | 26 => aI (cyG G 0) 6 r
    | 27 => aI (cyG G 0) 6 r
    | 28 => aI (cyG G 0) 6 r
    | _ => aI (cyG G 0) 30 r)
  | 2 => (match o with
    | 0 => .inr (5, [rr G 2 0 1, rr G 1 2 0, iv (r 2), iv (r 3)])
    | _ => aQ (cyG G 3) 8 (fun k => some (ad G 1 (r (k : Int)) 0)))
  | 3 => (match o with
    | 0 => .inr (3, [rr G 3 0 1, rr G 3 0 32, iv (r 2), iv (r 3), iv (r 4), rr G 3 0 63, rr G 3 0 66, rr G 3 0 67, rr G 3 0 68, rr G 3 0 69, rr G 1 11 0])
    | 1 => aQ (cyG G 4) 30 (fun k => some (ad G 3 0 (2 + (k : Int))))
    | 32 => aQ (cyG G 4) 30 (fun k => some (ad G 3 0 (33 + (k : Int))))
    | 63 => aQ (cyG G 4) 2 (fun k => some (ad G 3 0 (64 + (k : Int))))
    | 66 => aI (cyG G 0) 10 r
    | 67 => aI (cyG G 0) 10 r
    | 68 => aI (cyG G 0) 10 r
    | 69 => aI (cyG G 0) 10 r
    | _ => aI (cyG G 0) 12 r)
  | 4 => (match o with
    | 0 => .inr (8, [rr G 5 1 0, rr G 5 2 0, rr G 4 0 1, rr G 4 0 2, iv (r 4)])
    | _ => aI (cyG G 0) 30 r)
  | 5 => (match o with
    | 0 => .inr (9, [rr G 5 i 1, rr G 5 i 2, iv (r 2)])
    | _ => aI (cyG G 0) 30 r)
  | 6 => (match o with
    | 0 => .inr (7, [rr G 6 0 1, rr G 6 0 33, rr G 6 0 34, rr G 6 0 35, rr G 6 0 36, rr G 6 0 37, rr G 6 0 38, iv (r 7)])
    | 1 => aQ (cyG G 4) 31 (fun k => some (ad G 6 0 (2 + (k : Int))))
    | 38 => aI (cyG G 1) 31 r
    | _ => aI (cyG G 0) 31 r)
  | 7 => (match o with
    | 0 => .inr (12, [rr G 7 0 1, iv (r 1), iv (r 2), rr G 7 0 2, rr G 7 0 3, rr G 7 0 4, iv (r 6), iv (r 7)])
    | 1 => aI (cyG G 2) 60 r
    | _ => aI (cyG G 0) 10 r)
  | 8 => (match o with
    | 0 => .inr (14, [rr G 8 0 1, rr G 8 0 2, rr G 8 0 3, iv (r 3), rr G 8 0 4, iv (r 5), iv (r 6), iv (r 7), rr G 8 0 5, rr G 8 0 6, iv (r 10), rr G 8 0 7, rr G 8 0 8, rr G 8 0 9, rr G 8 0 10, rr G 8 0 11, rr G 8 0 12, rr G 8 0 13, iv (r 18), iv (r 19), iv (r 20), iv (r 21), iv (r 22), iv (r 23), rr G 8 0 14, rr G 8 0 15, rr G 8 0 16, rr G 8 0 17, rr G 8 0 18, rr G 8 0 19, rr G 8 0 20, rr G 8 0 21, rr G 8 0 22, iv (r 33), iv (r 34), iv (r 35), iv (r 36), rr G 8 0 23, iv (r 38)])
    | 1 => aI (cyG G 0) 500 r
    | 2 => aI (cyG G 0) 500 r
    | 3 => aI (cyG G 0) 500 r
    | 4 => aI (cyG G 0) 4000 r
    | 8 => aI (cyG G 0) 10 r
    | 9 => aI (cyG G 0) 10 r
    | 10 => aI (cyG G 0) 10 r
    | 11 => aI (cyG G 0) 24 r
    | 12 => aI (cyG G 0) 360 r
    | 13 => aI (cyG G 0) 360 r
    | 15 => aI (cyG G 1) 30 r
    | 22 => aI (cyG G 0) 60 r
    | 23 => aI (cyG G 0) 60 r
    | _ => aI (cyG G 0) 30 r)
  | _ => (match o with
    | 0 => .inl (cyG G 5, 1, .inr (.inl (fun k : Nat => Int64.ofInt (r (k : Int)))))
    | _ => .inl (cyG G 6, 1, .inr (.inr (.inr (.inl (fun k : Nat => UInt64.ofNat (r (k : Int)).toNat))))))
def entI (G : GT) (M : Mem) (a : Nat) (i o : Int) : va_E := entR G a i o.toNat (M a i o)
def wd (G : GT) (M : Mem) : va_W := (List.range NN).map (fun n => (bG G + n, entI G M (un n).1 ((un n).2.1 : Int) ((un n).2.2 : Int)))
theorem wd_at {G : GT} {M : Mem} {a : Nat} {i o : Int} (h : dom a i o) : (wd G M)[off a i o]? = some (ad G a i o, entI G M a i o) := by
  obtain ⟨h1, h2⟩ := un_off h
  obtain ⟨h3, h4, -⟩ := h
  unfold wd
  rw [List.getElem?_map, List.getElem?_range (show off a i o < NN from h1)]
  simp only [Option.map_some, h2]
  rw [Int.toNat_of_nonneg h3, Int.toNat_of_nonneg h4]
theorem wd_set {G : GT} {M : Mem} {a : Nat} {i o : Int} (h : dom a i o) (f : Int → Int) : (wd G M).set (off a i o) (ad G a i o, entR G a i o.toNat f) = wd G (wrow M a i o f) := by
  obtain ⟨h1, h2⟩ := un_off h
  have h0 := h
  obtain ⟨h3, h4, -⟩ := h
  apply List.ext_getElem?
  intro n
  rw [List.getElem?_set]
  by_cases hn : off a i o = n
  · subst hn
    rw [wd_at (M := wrow M a i o f) h0, if_pos rfl]
    have hl : off a i o < (wd G M).length := by unfold wd; rw [List.length_map, List.length_range]; exact h1
    rw [if_pos hl]
    simp only [entI, wrow, and_self, if_true]
  · rw [if_neg hn]
    unfold wd
    rw [List.getElem?_map, List.getElem?_map]
    by_cases hl : n < NN
    · rw [List.getElem?_range hl]
      simp only [Option.map_some]
      have hne : ¬ ((un n).1 = a ∧ ((un n).2.2 : Int) = o ∧ ((un n).2.1 : Int) = i) := by
        rintro ⟨e1, e3, e2⟩
        have h9 := off_un n hl
        rw [e1, show (un n).2.1 = i.toNat by omega, show (un n).2.2 = o.toNat by omega] at h9
        exact hn h9
      simp only [entI, wrow, if_neg hne]
    · rw [List.getElem?_eq_none (by rw [List.length_range]; omega)]
      rfl
theorem wd_D {G : GT} {M : Mem} : va_D (AG G) (wd G M) := by
  have key : ∀ (k : Nat) (q : Nat × va_E), (wd G M)[k]? = some q → q.1 = bG G + k := by
    intro k q hk
    unfold wd at hk
    rw [List.getElem?_map] at hk
    by_cases hl : k < NN
    · rw [List.getElem?_range hl] at hk
      simp only [Option.map_some] at hk
      cases hk
      rfl
    · rw [List.getElem?_eq_none (by rw [List.length_range]; omega)] at hk
      cases hk
  refine ⟨fun i j p q hp hq e => ?_, fun k q hk => ?_⟩
  · have := key i p hp
    have := key j q hq
    omega
  · show bG G ≤ q.1
    rw [key k q hk]
    omega
