/-! ===== the run of the day ===== -/
theorem wr_reg (M : Mem) (a : Nat) (b c k v : Int) : wr M a b c k v a b = up1 (M a b) c k v := by
  funext c'
  by_cases h : c' = c
  · rw [h]
    unfold wr up1
    rw [wrow_at, if_pos rfl]
  · rw [wr_nc h, up1_nc h]
theorem wrow_reg (M : Mem) (a : Nat) (b c : Int) (f : Int → Int) : wrow M a b c f a b = upr (M a b) c f := by
  funext c'
  by_cases h : c' = c
  · rw [h, wrow_at, upr_at]
  · rw [wrow_nc h, upr_ne h]
theorem wr_rn {M : Mem} {a : Nat} {b c k v : Int} {a' : Nat} {b' : Int} (h : ¬ (a' = a ∧ b' = b)) : wr M a b c k v a' b' = M a' b' := funext fun _ => wr_ne (fun z => h ⟨z.1, z.2.2⟩)
theorem wrow_rn {M : Mem} {a : Nat} {b c : Int} {f : Int → Int} {a' : Nat} {b' : Int} (h : ¬ (a' = a ∧ b' = b)) : wrow M a b c f a' b' = M a' b' := funext fun _ => wrow_ne (fun z => h ⟨z.1, z.2.2⟩)
/-- M' is M but for the whole region a, b -/
def FrA (a : Nat) (b : Int) (M M' : Mem) : Prop := ∀ a' b', ¬ (a' = a ∧ b' = b) → M' a' b' = M a' b'
theorem FrA.rf {a : Nat} {b : Int} {M : Mem} : FrA a b M M := fun _ _ _ => rfl
theorem FrA.wr {a : Nat} {b : Int} {M M' : Mem} (h : FrA a b M M') (c k v : Int) : FrA a b M (wr M' a b c k v) := fun a' b' q => (wr_rn q).trans (h a' b' q)
theorem FrA.row {a : Nat} {b : Int} {M M' : Mem} (h : FrA a b M M') (c : Int) (f : Int → Int) : FrA a b M (wrow M' a b c f) := fun a' b' q => (wrow_rn q).trans (h a' b' q)
theorem FrA.tr {a : Nat} {b : Int} {M M1 M2 : Mem} (h : FrA a b M M1) (h2 : FrA a b M1 M2) : FrA a b M M2 := fun a' b' q => (h2 a' b' q).trans (h a' b' q)
-- the state of the run
def begT (L D : LFn) (v p rd : Int) : LFn := if p < L 13 v then up1 (up1 (up1 (up1 D 67 v p) 66 v (L (15 + v) p)) 68 v (L 7 (L (15 + v) p))) 69 v (max (L 9 (L (15 + v) p)) rd) else up1 (up1 D 67 v p) 66 v (-1)
def nxS (D : LFn) (v d : Int) : Int := if d = 0 then D 68 v + 1 else D 68 v - 1
def movT (D : LFn) (v d n : Int) : LFn := up1 (up1 (up1 (up1 (up1 D (33 + D 66 v) (D 68 v) (D 69 v)) (64 + d) (D 68 v) (D 69 v)) 68 v (nxS D v d)) 69 v (D 69 v + n)) (2 + D 66 v) (nxS D v d) (D 69 v + n)
def depT (L D : LFn) (v d n : Int) : LFn := if nxS D v d = L 8 (D 66 v) then begT L (movT D v d n) v (D 67 v + 1) (D 69 v + n + L 5 0) else movT D v d n
def secT (L D : LFn) (v : Int) : Int := if dirn L (D 66 v) = 0 then D 68 v else D 68 v - 1
def frT (L D : LFn) (v : Int) : Int := D (64 + dirn L (D 66 v)) (D 68 v) + L 5 2
def lookD (L D : LFn) (v : Int) : LFn :=
  if 3000 ≤ D 69 v then up1 D 66 v (-1)
  else if D 69 v < frT L D v then up1 (up1 D 0 3 (D 0 3 + (frT L D v - D 69 v))) 69 v (frT L D v)
  else if blkA L (secT L D v) (D 69 v) = -1 then depT L D v (dirn L (D 66 v)) (L 2 (secT L D v))
  else if 0 < L 3 (secT L D v) then depT L (up1 D 0 2 (D 0 2 + 1)) v (dirn L (D 66 v)) (L 3 (secT L D v))
  else up1 (up1 D 0 4 (D 0 4 + (L 28 (blkA L (secT L D v) (D 69 v)) + 1 - D 69 v))) 69 v (L 28 (blkA L (secT L D v) (D 69 v)) + 1)
abbrev earl (D : LFn) (a b : Int) : Prop := D 69 a < D 69 b ∨ (D 69 a = D 69 b ∧ D 66 a < D 66 b)
def nxtN (D : LFn) : Nat → Int
  | 0 => -1
  | n + 1 => if D 66 n ≠ -1 ∧ (nxtN D n = -1 ∨ earl D n (nxtN D n)) then (n : Int) else nxtN D n
def nextD (L D : LFn) : Int := nxtN D (L 11 3).toNat
theorem nxt_step (D : LFn) {k : Int} (h : 0 ≤ k) : nxtN D (k + 1).toNat = if D 66 k ≠ -1 ∧ (nxtN D k.toNat = -1 ∨ earl D k (nxtN D k.toNat)) then k else nxtN D k.toNat := by
  rw [show (k + 1).toNat = k.toNat + 1 by omega]
  simp only [nxtN]
  rw [show ((k.toNat : Nat) : Int) = k by omega]
theorem nxt_bd (D : LFn) (n : Nat) : nxtN D n = -1 ∨ (0 ≤ nxtN D n ∧ nxtN D n < n ∧ D 66 (nxtN D n) ≠ -1) := by
  induction n with
  | zero => exact Or.inl rfl
  | succ n ih =>
    simp only [nxtN]
    split
    · rename_i h
      exact Or.inr ⟨by omega, by omega, h.1⟩
    · rcases ih with q | ⟨q1, q2, q3⟩
      · exact Or.inl q
      · exact Or.inr ⟨q1, by omega, q3⟩
theorem nxt_none (D : LFn) (n : Nat) (h : nxtN D n = -1) : ∀ v : Int, 0 ≤ v → v < n → D 66 v = -1 := by
  induction n with
  | zero => intro v h1 h2; omega
  | succ n ih =>
    simp only [nxtN] at h
    split at h
    · omega
    · rename_i hc
      intro v h1 h2
      by_cases hv : v = n
      · subst hv
        exact Classical.byContradiction fun q => hc ⟨q, Or.inl h⟩
      · exact ih h v h1 (by omega)
/-- v is under way -/
def onTr (L D : LFn) (v : Int) : Prop := 0 ≤ D 67 v ∧ D 67 v < L 13 v ∧ D 66 v = L (15 + v) (D 67 v) ∧ onW L (D 66 v) (D 68 v) ∧ D 68 v ≠ L 8 (D 66 v) ∧ 0 ≤ D 69 v ∧ D 69 v ≤ 3100
def DI (L D : LFn) : Prop := (∀ v, 0 ≤ v → v < L 11 3 → D 66 v = -1 ∨ onTr L D v) ∧ (∀ d s, 0 ≤ d → d < 2 → 0 ≤ s → s < 12 → -1000 ≤ D (64 + d) s ∧ D (64 + d) s ≤ 2999) ∧ ∀ t s, 0 ≤ t → t < 30 → 0 ≤ s → s < 12 → (-1 ≤ D (2 + t) s ∧ D (2 + t) s ≤ 3100) ∧ -1 ≤ D (33 + t) s ∧ D (33 + t) s ≤ 3100
def mvT (D : LFn) (v : Int) : Int := if D 66 v = -1 then 0 else 3101 - D 69 v
def muT (L D : LFn) : Int := sumT (mvT D) 0 (L 11 3)
def iterD (L : LFn) : Nat → LFn → LFn
  | 0, D => D
  | n + 1, D => if nextD L D = -1 then D else iterD L n (lookD L D (nextD L D))
def endD (L D : LFn) : LFn := iterD L (muT L D).toNat D
theorem trip_ok {L D : LFn} (hv : WFv L) (ht : WFt L) {v : Int} (h0 : 0 ≤ v) (h1 : v < L 11 3) (h : onTr L D v) : 0 ≤ D 66 v ∧ D 66 v < L 6 4 ∧ D 66 v < 30 ∧ 0 ≤ D 68 v ∧ D 68 v < 12 ∧ 0 ≤ secT L D v ∧ secT L D v < 11 ∧ (dirn L (D 66 v) = 0 ∨ dirn L (D 66 v) = 1) ∧ 0 ≤ nxS D v (dirn L (D 66 v)) ∧ nxS D v (dirn L (D 66 v)) < 12 ∧ onW L (D 66 v) (nxS D v (dirn L (D 66 v))) := by
  obtain ⟨a1, a2, a3, a4, a5, a6, a7⟩ := h
  have hd := (hv.2 v h0 h1).2.2.2.2 (D 67 v) a1 a2
  rw [← a3] at hd
  have htt := ht.2 _ hd.1 hd.2
  have hn := ht.1
  obtain ⟨b1, b2⟩ := a4
  unfold secT nxS
  have hdn : (L 7 (D 66 v) < L 8 (D 66 v) ∧ dirn L (D 66 v) = 0) ∨ (¬ L 7 (D 66 v) < L 8 (D 66 v) ∧ dirn L (D 66 v) = 1) := by
    unfold dirn
    by_cases q : L 7 (D 66 v) < L 8 (D 66 v)
    · exact Or.inl ⟨q, if_pos q⟩
    · exact Or.inr ⟨q, if_neg q⟩
  rcases hdn with ⟨q, e⟩ | ⟨q, e⟩
  · rw [e, if_pos rfl, if_pos rfl]
    refine ⟨hd.1, hd.2, by omega, by omega, by omega, by omega, by omega, Or.inl rfl, by omega, by omega, by omega, by omega⟩
  · rw [e, if_neg (by omega), if_neg (by omega)]
    refine ⟨hd.1, hd.2, by omega, by omega, by omega, by omega, by omega, Or.inr rfl, by omega, by omega, by omega, by omega⟩
section Dy
variable {G : GT} {K : List Value → Mem → Prop} {X : String → Mem → Prop} {M : Mem} {L D : LFn}
theorem sp_beginTrip (hL : M 1 11 = L) (hD : M 3 0 = D) (hv : WFv L) (ht : WFt L) {v p rd : Int} (h0 : 0 ≤ v) (h1 : v < L 11 3) (hp0 : 0 ≤ p) (hp1 : p ≤ 30) (hr : I32 rd) (k : ∀ M', FrA 3 0 M M' → M' 3 0 = begT L D v p rd → K [] M') : Call G 1 0 zX1_beginTrip [rr G 3 0 0, iv v, iv p, iv rd] M K X := by
  have hn := hv.1
  have h := hv.2 v h0 h1
  have htn := ht.1
  unfold begT at k
  subst hD
  refine bX1_beginTrip ?_
  rw [hL]
  refine ⟨h0, by omega, i32 (by omega), i32 (by omega), fun z => ?_, fun z => ?_⟩
  · have hd := h.2.2.2.2 p hp0 z
    have h7 := ht.2 _ hd.1 hd.2
    refine ⟨hp0, by omega, hd.1, by omega, fun M17 e17 => ?_⟩
    have e1 : M17 1 11 = L := by rw [e17, wr_rn (by omega), wr_rn (by omega), wr_rn (by omega), hL]
    rw [e1]
    refine ⟨i32 (by omega), hr, fun M23 e23 => k M23 ?_ ?_⟩
    · rw [e23, e17]; exact (((FrA.rf.wr _ _ _).wr _ _ _).wr _ _ _).wr _ _ _
    · rw [if_pos z, e23, wr_reg, e17, wr_reg, wr_reg, wr_reg]
  · refine k _ ((FrA.rf.wr _ _ _).wr _ _ _) ?_
    rw [if_neg z, wr_reg, wr_reg]
theorem sp_depart (hL : M 1 11 = L) (hD : M 3 0 = D) (hv : WFv L) (ht : WFt L) (hm : WFm L) {v d n : Int} (h0 : 0 ≤ v) (h1 : v < L 11 3) (ho : onTr L D v) (hd : d = dirn L (D 66 v)) (hw : D 69 v < 3000) (hn0 : 0 ≤ n) (hn1 : n ≤ 30) (k : ∀ M', FrA 3 0 M M' → M' 3 0 = depT L D v d n → K [] M') : Call G 2 0 zX1_depart [rr G 3 0 0, iv v, iv d, iv n] M K X := by
  have ok := trip_ok hv ht h0 h1 ho
  obtain ⟨a1, a2, a3, a4, a5, a6, a7⟩ := ho
  rw [← hd] at ok
  obtain ⟨o1, o2, o3, o4, o5, o6, o7, o8, o9, o10, o11⟩ := ok
  have hn := hv.1
  have h := hv.2 v h0 h1
  have h7 := ht.2 _ o1 o2
  have hs := hm.2.2.2.2
  subst hD
  have e68 : ∀ x y z, (wr M 3 0 (33 + M 3 0 66 v) x y) 3 0 68 z = M 3 0 68 z := fun x y z => by rw [wr_nc (by omega)]
  -- what lies behind the step
  have fin : ∀ M31 : Mem, FrA 3 0 M M31 → M31 3 0 = movT (M 3 0) v d n → (I32 (M31 3 0 68 v) ∧ I32 (M31 1 11 8 (M 3 0 66 v)) ∧ ((¬ (M31 3 0 68 v) = (M31 1 11 8 (M 3 0 66 v)) → K [] M31) ∧ ((M31 3 0 68 v) = (M31 1 11 8 (M 3 0 66 v)) → Call G 1 0 zX1_beginTrip [rr G 3 0 0, iv v, iv ((M31 3 0 67 v) + 1), iv (((M 3 0 69 v) + n) + (M31 1 11 5 0))] M31 (kV (fun M42 => K [] M42)) noX))) := by
    intro M31 f e
    have e1 : M31 1 11 = L := by rw [f 1 11 (by omega), hL]
    have es : M31 3 0 68 v = nxS (M 3 0) v d := by
      rw [e]
      unfold movT
      rw [up1_nc (by omega), up1_nc (by omega), up1_at]
    have ep : M31 3 0 67 v = M 3 0 67 v := by
      rw [e]
      unfold movT
      rw [up1_nc (by omega), up1_nc (by omega), up1_nc (by omega), up1_nc (by omega), up1_nc (by omega)]
    rw [e1, es, ep]
    refine ⟨i32 (by omega), i32 (by omega), fun z => k M31 f ?_, fun z => sp_beginTrip e1 e hv ht h0 h1 (by omega) (by omega) (i32 (by omega)) (fun M' f' e' => kV_mk (k M' (f.tr f') ?_))⟩
    · unfold depT; rw [if_neg z]; exact e
    · unfold depT; rw [if_pos z]; exact e'
  refine bX1_depart ?_
  refine ⟨h0, by omega, o1, o3, o4, o5, by omega, by omega, by rw [e68]; exact o4, by rw [e68]; exact o5, fun M16 e16 => ?_⟩
  rw [e68] at e16
  have e16s : M16 3 0 68 v = M 3 0 68 v := by rw [e16, wr_nc (by omega), wr_nc (by omega)]
  have f16 : FrA 3 0 M M16 := by rw [e16]; exact (FrA.rf.wr _ _ _).wr _ _ _
  refine ⟨i32 (by omega), fun z => fun M25 e25 => ?_, fun z => fun M25 e25 => ?_⟩
  · have en : nxS (M 3 0) v d = M 3 0 68 v - 1 := if_neg z
    have e25s : M25 3 0 68 v = M 3 0 68 v - 1 := by rw [e25, wr_nc (by omega), wr_at, e16s]; omega
    have f25 : FrA 3 0 M M25 := by rw [e25]; exact (f16.wr _ _ _).wr _ _ _
    refine ⟨by omega, by omega, fun M31 e31 => ?_⟩
    refine fin M31 (by rw [e31]; exact f25.wr _ _ _) ?_
    rw [e31, wr_reg, e25s, e25, wr_reg, wr_reg, e16s, e16, wr_reg, wr_reg]
    unfold movT
    rw [en, show M 3 0 68 v + (-1) = M 3 0 68 v - 1 by omega]
  · have en : nxS (M 3 0) v d = M 3 0 68 v + 1 := if_pos z
    have e25s : M25 3 0 68 v = M 3 0 68 v + 1 := by rw [e25, wr_nc (by omega), wr_at, e16s]
    have f25 : FrA 3 0 M M25 := by rw [e25]; exact (f16.wr _ _ _).wr _ _ _
    refine ⟨by omega, by omega, fun M31 e31 => ?_⟩
    refine fin M31 (by rw [e31]; exact f25.wr _ _ _) ?_
    rw [e31, wr_reg, e25s, e25, wr_reg, wr_reg, e16s, e16, wr_reg, wr_reg]
    unfold movT
    rw [en]
theorem sp_nextVehicle (hL : M 1 11 = L) (hD : M 3 0 = D) (hv : WFv L) (ht : WFt L) (hI : DI L D) (k : K [iv (nextD L D)] M) : Call G 1 0 zX1_nextVehicle [rr G 3 0 0] M K X := by
  have hn := hv.1
  subst hD
  have h := loop_up (E := fun v => 0 ≤ v → eX1_nextVehicle G K X 4 [(0, rr G 3 0 0), (1, iv (nxtN (M 3 0) v.toNat)), (2, iv v)] [] M) hn.1 (fun _ => by
    refine bX1_nextVehicle_4 ?_
    rw [hL]
    exact ⟨i32 (by omega), i32 (by omega), fun _ => k, fun z => absurd z (by omega)⟩) (fun v q1 q2 hn9 _ => by
    have hb := nxt_bd (M 3 0) v.toNat
    rw [nxt_step _ q1] at hn9
    generalize nxtN (M 3 0) v.toNat = b at hb hn9 ⊢
    have i66 : ∀ x, 0 ≤ x → x < L 11 3 → I32 (M 3 0 66 x) ∧ (M 3 0 66 x ≠ -1 → I32 (M 3 0 69 x)) := fun x x0 x1 => by
      rcases hI.1 x x0 x1 with q | q
      · exact ⟨i32 (by omega), fun w => absurd q w⟩
      · have := trip_ok hv ht x0 x1 q
        exact ⟨i32 (by omega), fun _ => i32 (by have := q.2.2.2.2.2; omega)⟩
    refine bX1_nextVehicle_4 ?_
    rw [hL]
    refine ⟨i32 (by omega), i32 (by omega), fun z => absurd q2 z, fun _ => ⟨q1, by omega, (i66 v q1 q2).1, fun z => ?_, fun z => ⟨i32 (by omega), fun y => ?_, fun y => ?_⟩⟩⟩
    · rw [if_neg (fun w => w.1 z)] at hn9
      exact hn9 (by omega)
    · rw [if_pos ⟨z, Or.inl y⟩] at hn9
      exact hn9 (by omega)
    · have hb' : 0 ≤ b ∧ b < v ∧ M 3 0 66 b ≠ -1 := by
        rcases hb with w | w
        · exact absurd w y
        · exact ⟨w.1, by omega, w.2.2⟩
      have t1 := i66 v q1 q2
      have t2 := i66 b hb'.1 (by omega)
      have yes : earl (M 3 0) v b → eX1_nextVehicle G K X 4 [(0, rr G 3 0 0), (1, iv v), (2, iv (v + 1))] [] M := fun w => by
        rw [if_pos ⟨z, Or.inr w⟩] at hn9
        exact hn9 (by omega)
      have no : ¬ earl (M 3 0) v b → eX1_nextVehicle G K X 4 [(0, rr G 3 0 0), (1, iv b), (2, iv (v + 1))] [] M := fun w => by
        rw [if_neg (fun u => by rcases u.2 with u2 | u2; exact y u2; exact w u2)] at hn9
        exact hn9 (by omega)
      refine bX1_isEarlier ⟨q1, by omega, hb'.1, by omega, t1.2 z, t2.2 hb'.2.2, fun w => ?_, fun w => ⟨fun u => ?_, fun u => ⟨t1.1, t2.1, fun x => ?_, fun x => ?_⟩⟩⟩
      · exact kI_mk ⟨i32 (by omega), fun x => absurd x (by decide), fun _ => yes (Or.inl w)⟩
      · exact kI_mk ⟨i32 (by omega), fun _ => no (fun x => by rcases x with x | x; exact w x; exact u x.1), fun x => absurd rfl x⟩
      · exact kI_mk ⟨i32 (by omega), fun _ => no (fun s => by rcases s with s | s; exact w s; exact x s.2), fun x => absurd rfl x⟩
      · exact kI_mk ⟨i32 (by omega), fun s => absurd s (by decide), fun _ => yes (Or.inr ⟨u, x⟩)⟩)
  exact bX1_nextVehicle (h (Int.le_refl _))
theorem sp_lookAt (hL : M 1 11 = L) (hD : M 3 0 = D) (hv : WFv L) (ht : WFt L) (hm : WFm L) (hb : WFb L) (hI : DI L D) {v : Int} (h0 : 0 ≤ v) (h1 : v < L 11 3) (ho : onTr L D v) (k : ∀ M', FrA 3 0 M M' → M' 3 0 = lookD L D v → K [] M') : Call G 3 0 zX1_lookAt [rr G 3 0 0, iv v] M K X := by
  have ok := trip_ok hv ht h0 h1 ho
  obtain ⟨o1, o2, o3, o4, o5, o6, o7, o8, o9, o10, o11⟩ := ok
  have hw := ho.2.2.2.2.2
  have hn := hv.1
  have hs := hm.2.2.2.2
  have hl := hI.2.1 (dirn L (D 66 v)) (D 68 v) (by omega) (by omega) o4 o5
  have hsec := hm.1 (secT L D v) o6 o7
  have hbk : -1 ≤ blkA L (secT L D v) (D 69 v) ∧ (blkA L (secT L D v) (D 69 v) = -1 ∨ (0 ≤ blkA L (secT L D v) (D 69 v) ∧ blkA L (secT L D v) (D 69 v) < L 25 3)) := srch_bd _ (Int.le_refl _)
  have hb0 := hb.1
  subst hD
  refine bX1_lookAt ⟨h0, by omega, i32 (by omega), fun z => ?_, fun z => ?_⟩
  · have htL : WFt (M 1 11) := by rw [hL]; exact ht
    have hbL : WFb (M 1 11) := by rw [hL]; exact hb
    refine sp_directionOf (by omega) (by omega) htL o1 (by rw [hL]; exact o2) (kI_mk ?_)
    rw [hL]
    refine ⟨by omega, by omega, o4, o5, i32 (by omega), fun y => ⟨i32 (by omega), fun w => ?_, fun w => ?_⟩, fun y => fun M101 e101 => fun M104 e104 => ?_⟩
    · -- to lower stops
      have es : secT L (M 3 0) v = M 3 0 68 v - 1 := if_neg w
      refine sp_lowestAt (by omega) (by omega) hbL (i32 (by omega)) (i32 (by omega)) (kI_mk ?_)
      rw [hL, ← es]
      refine ⟨i32 (by omega), fun u => ⟨o6, o7, i32 (by omega), fun x => ⟨by omega, by omega, fun M52 e52 => k _ ?_ ?_⟩, fun x => ?_⟩, fun u => ⟨o6, o7, ?_⟩⟩
      · rw [e52]; exact (FrA.rf.wr _ _ _).wr _ _ _
      · rw [wr_reg, e52, wr_reg]
        unfold lookD
        rw [if_neg (by omega), if_neg (by unfold frT; omega), if_neg u, if_neg (by omega)]
      · refine sp_depart (D := up1 (M 3 0) 0 2 (M 3 0 0 2 + 1)) (by rw [wr_rn (by omega), hL]) (wr_reg _ _ _ _ _ _) hv ht hm h0 h1 ?_ ?_ ?_ (by omega) (by omega) (fun M' f e => kV_mk (k M' ((FrA.rf.wr _ _ _).tr f) ?_))
        · unfold onTr
          rw [up1_nc (by omega), up1_nc (by omega), up1_nc (by omega), up1_nc (by omega)]
          exact ho
        · rw [up1_nc (by omega)]
        · rw [up1_nc (by omega)]; exact z
        · rw [e]
          unfold lookD
          rw [if_neg (by omega), if_neg (by unfold frT; omega), if_neg u, if_pos (by omega)]
      · refine sp_depart hL rfl hv ht hm h0 h1 ho rfl z (by omega) (by omega) (fun M' f e => kV_mk (k M' f ?_))
        rw [e]
        unfold lookD
        rw [if_neg (by omega), if_neg (by unfold frT; omega), if_pos u]
    · have es : secT L (M 3 0) v = M 3 0 68 v := if_pos w
      refine sp_lowestAt (by omega) (by omega) hbL (i32 (by omega)) (i32 (by omega)) (kI_mk ?_)
      rw [hL, ← es]
      refine ⟨i32 (by omega), fun u => ⟨o7, i32 (by omega), fun x => ⟨by omega, by omega, fun M52 e52 => k _ ?_ ?_⟩, fun x => ?_⟩, fun u => ⟨o7, ?_⟩⟩
      · rw [e52]; exact (FrA.rf.wr _ _ _).wr _ _ _
      · rw [wr_reg, e52, wr_reg]
        unfold lookD
        rw [if_neg (by omega), if_neg (by unfold frT; omega), if_neg u, if_neg (by omega)]
      · refine sp_depart (D := up1 (M 3 0) 0 2 (M 3 0 0 2 + 1)) (by rw [wr_rn (by omega), hL]) (wr_reg _ _ _ _ _ _) hv ht hm h0 h1 ?_ ?_ ?_ (by omega) (by omega) (fun M' f e => kV_mk (k M' ((FrA.rf.wr _ _ _).tr f) ?_))
        · unfold onTr
          rw [up1_nc (by omega), up1_nc (by omega), up1_nc (by omega), up1_nc (by omega)]
          exact ho
        · rw [up1_nc (by omega)]
        · rw [up1_nc (by omega)]; exact z
        · rw [e]
          unfold lookD
          rw [if_neg (by omega), if_neg (by unfold frT; omega), if_neg u, if_pos (by omega)]
      · refine sp_depart hL rfl hv ht hm h0 h1 ho rfl z (by omega) (by omega) (fun M' f e => kV_mk (k M' f ?_))
        rw [e]
        unfold lookD
        rw [if_neg (by omega), if_neg (by unfold frT; omega), if_pos u]
    · refine k M104 (by rw [e104, e101]; exact (FrA.rf.wr _ _ _).wr _ _ _) ?_
      rw [e104, wr_reg, e101, wr_reg]
      unfold lookD
      rw [if_neg (by omega), if_pos (by unfold frT; omega)]
      rfl
  · refine k _ (FrA.rf.wr _ _ _) ?_
    rw [wr_reg]
    unfold lookD
    rw [if_pos (by omega)]
end Dy
