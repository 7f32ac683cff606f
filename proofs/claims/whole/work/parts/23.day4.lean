/-! ===== what is read of the run ===== -/
def arrD (L D : LFn) (t : Int) : Int := D (2 + t) (L 8 t)
def dlyD (L D : LFn) (t : Int) : Int := arrD L D t - arr L t
def cntD (L D : LFn) (k : Int) : Int := cntT (fun t => decide (arrD L D t ≠ -1)) 0 k
def sumD (L D : LFn) (k : Int) : Int := sumT (fun t => if arrD L D t = -1 then 0 else dlyD L D t) 0 k
def grtN (L D : LFn) : Nat → Int
  | 0 => 0
  | n + 1 => if arrD L D n = -1 then grtN L D n else if cntD L D n = 0 then dlyD L D n else max (grtN L D n) (dlyD L D n)
def grtD (L D : LFn) (k : Int) : Int := grtN L D k.toNat
theorem grt_step (L D : LFn) {k : Int} (h : 0 ≤ k) : grtD L D (k + 1) = if arrD L D k = -1 then grtD L D k else if cntD L D k = 0 then dlyD L D k else max (grtD L D k) (dlyD L D k) := by
  unfold grtD
  rw [show (k + 1).toNat = k.toNat + 1 by omega]
  simp only [grtN]
  rw [show ((k.toNat : Nat) : Int) = k by omega]
def depS (L D : LFn) (d s : Int) : S3 := foldS (fun t => decide (dirn L t = d ∧ D (33 + t) s ≠ -1)) (fun t => D (33 + t) s) (fun t => t) (L 6 4).toNat
theorem arrD_bd {L D : LFn} (hI : DI L D) (ht : WFt L) {t : Int} (h0 : 0 ≤ t) (h1 : t < L 6 4) : -1 ≤ arrD L D t ∧ arrD L D t ≤ 3100 := by
  have h := ht.2 t h0 h1
  have hn := ht.1
  exact (hI.2.2 t (L 8 t) h0 (by omega) (by omega) (by omega)).1
theorem dlyD_bd {L D : LFn} (hI : DI L D) (ht : WFt L) (hm : WFm L) {t : Int} (h0 : 0 ≤ t) (h1 : t < L 6 4) : -1600 ≤ dlyD L D t ∧ dlyD L D t ≤ 3100 := by
  have h2 := arrD_bd hI ht h0 h1
  have h3 := arr_bd hm ht h0 h1
  unfold dlyD
  omega
theorem grt_bd {L D : LFn} (hI : DI L D) (ht : WFt L) (hm : WFm L) {k : Int} (h0 : 0 ≤ k) (h1 : k ≤ L 6 4) : -1600 ≤ grtD L D k ∧ grtD L D k ≤ 3100 := by
  obtain ⟨n, rfl⟩ : ∃ n : Nat, k = n := ⟨k.toNat, by omega⟩
  clear h0
  induction n with
  | zero => unfold grtD; exact ⟨by show -1600 ≤ (0 : Int); omega, by show (0 : Int) ≤ 3100; omega⟩
  | succ n ih =>
    have ih := ih (by omega)
    have hd := dlyD_bd hI ht hm (t := (n : Int)) (by omega) (by omega)
    rw [show ((n + 1 : Nat) : Int) = (n : Int) + 1 by omega, grt_step _ _ (by omega)]
    split
    · exact ih
    · split <;> omega
section Dr
variable {G : GT} {K : List Value → Mem → Prop} {X : String → Mem → Prop} {M : Mem} {L D : LFn} {q : Int}
theorem sp_actualArrival (hL : M 1 11 = L) (hD : M 3 0 = D) (ht : WFt L) {t : Int} (h0 : 0 ≤ t) (h1 : t < L 6 4) (k : K [iv (arrD L D t)] M) : Call G 0 0 zX1_actualArrival [rr G 3 0 0, iv t] M K X := by
  have h := ht.2 t h0 h1
  have hn := ht.1
  refine bX1_actualArrival ?_
  rw [hL, hD]
  exact ⟨h0, by omega, by omega, by omega, k⟩
theorem sp_hasArrived (hL : M 1 11 = L) (hD : M 3 0 = D) (ht : WFt L) (hI : DI L D) {t : Int} (h0 : 0 ≤ t) (h1 : t < L 6 4) (k : K [iv (b2i (arrD L D t ≠ -1))] M) : Call G 1 0 zX1_hasArrived [rr G 3 0 0, iv t] M K X := by
  have hb := arrD_bd hI ht h0 h1
  refine bX1_hasArrived (sp_actualArrival hL hD ht h0 h1 (kI_mk ⟨i32 (by omega), fun z => ?_, fun z => ?_⟩))
  · rw [b2i_f (fun w => w z)] at k; exact k
  · rw [b2i_t z] at k; exact k
theorem sp_delayOf (hL : M 1 11 = L) (hD : M 3 0 = D) (ht : WFt L) {t : Int} (h0 : 0 ≤ t) (h1 : t < L 6 4) (k : K [iv (dlyD L D t)] M) : Call G 2 0 zX1_delayOf [rr G 3 0 0, iv t] M K X := by
  refine bX1_delayOf (sp_actualArrival hL hD ht h0 h1 (kI_mk (sp_arrivalOf (by omega) (by omega) (by rw [hL]; exact ht) h0 (by rw [hL]; exact h1) (kI_mk ?_))))
  rw [hL]
  exact k
theorem sp_arrivedCount (hL : M 1 11 = L) (hD : M 3 0 = D) (ht : WFt L) (hI : DI L D) (k : K [iv (cntD L D (L 6 4))] M) : Call G 2 0 zX1_arrivedCount [rr G 3 0 0] M K X := by
  have hn := ht.1
  have h := loop_up (E := fun t => eX1_arrivedCount G K X 4 [(0, rr G 3 0 0), (1, iv (cntD L D t)), (2, iv t)] [] M) hn.1
    (bX1_arrivedCount_4 (by rw [hL]; exact ⟨i32 (by omega), i32 (by omega), fun _ => k, fun z => absurd z (by omega)⟩))
    (fun t q1 q2 hn9 => bX1_arrivedCount_4 (by
      rw [hL]
      exact ⟨i32 (by omega), i32 (by omega), fun z => absurd q2 z, fun _ => sp_hasArrived hL hD ht hI q1 q2 (kI_mk ⟨b2i_i32 _, fun z => by
        unfold cntD at hn9
        rw [cntT_f q1 (by simpa using b2i_0.mp z)] at hn9
        exact hn9, fun z => by
        have z' : arrD L D t ≠ -1 := Classical.byContradiction fun w => z (b2i_0.mpr w)
        unfold cntD at hn9
        rw [cntT_t q1 (by simpa using z')] at hn9
        exact hn9⟩)⟩))
  unfold cntD at h
  rw [cntT_same] at h
  exact bX1_arrivedCount h
theorem sp_delaySum (hL : M 1 11 = L) (hD : M 3 0 = D) (ht : WFt L) (hI : DI L D) (k : K [iv (sumD L D (L 6 4))] M) : Call G 3 0 zX1_delaySum [rr G 3 0 0] M K X := by
  have hn := ht.1
  have h := loop_up (E := fun t => eX1_delaySum G K X 4 [(0, rr G 3 0 0), (1, iv (sumD L D t)), (2, iv t)] [] M) hn.1
    (bX1_delaySum_4 (by rw [hL]; exact ⟨i32 (by omega), i32 (by omega), fun _ => k, fun z => absurd z (by omega)⟩))
    (fun t q1 q2 hn9 => bX1_delaySum_4 (by
      rw [hL]
      unfold sumD at hn9
      rw [sumT_step _ q1] at hn9
      exact ⟨i32 (by omega), i32 (by omega), fun z => absurd q2 z, fun _ => sp_hasArrived hL hD ht hI q1 q2 (kI_mk ⟨b2i_i32 _, fun z => by
        have z' : arrD L D t = -1 := Classical.byContradiction fun w => b2i_0.mp z w
        rw [if_pos z', Int.add_zero] at hn9
        exact hn9, fun z => sp_delayOf hL hD ht q1 q2 (kI_mk (by
        have z' : arrD L D t ≠ -1 := Classical.byContradiction fun w => z (b2i_0.mpr w)
        rw [if_neg z'] at hn9
        exact hn9))⟩)⟩))
  unfold sumD at h
  rw [sumT_same] at h
  exact bX1_delaySum h
theorem sp_greatestDelay (hL : M 1 11 = L) (hD : M 3 0 = D) (ht : WFt L) (hm : WFm L) (hI : DI L D) (k : K [iv (grtD L D (L 6 4))] M) : Call G 3 0 zX1_greatestDelay [rr G 3 0 0] M K X := by
  have hn := ht.1
  have h := loop_up (E := fun t => eX1_greatestDelay G K X 6 [(0, rr G 3 0 0), (1, iv (grtD L D t)), (2, iv (b2i (cntD L D t = 0))), (3, iv t)] [] M) hn.1
    (bX1_greatestDelay_6 (by rw [hL]; exact ⟨i32 (by omega), i32 (by omega), fun _ => k, fun z => absurd z (by omega)⟩))
    (fun t q1 q2 hn9 => bX1_greatestDelay_6 (by
      have hc : 0 ≤ cntD L D t ∧ cntD L D t ≤ t - 0 := cntT_bd _ q1
      have hg := grt_bd hI ht hm q1 (by omega)
      have hd := dlyD_bd hI ht hm q1 q2
      rw [hL]
      rw [grt_step _ _ q1] at hn9
      refine ⟨i32 (by omega), i32 (by omega), fun z => absurd q2 z, fun _ => sp_hasArrived hL hD ht hI q1 q2 (kI_mk ⟨b2i_i32 _, fun z => ?_, fun z => ?_⟩)⟩
      · have z' : arrD L D t = -1 := Classical.byContradiction fun w => b2i_0.mp z w
        rw [if_pos z', show cntD L D (t + 1) = cntD L D t from cntT_f q1 (by simpa using z')] at hn9
        exact hn9
      · have z' : arrD L D t ≠ -1 := Classical.byContradiction fun w => z (b2i_0.mpr w)
        rw [if_neg z', show cntD L D (t + 1) = cntD L D t + 1 from cntT_t q1 (by simpa using z'), b2i_f (show ¬ cntD L D t + 1 = 0 by omega)] at hn9
        refine ⟨b2i_i32 _, fun y => sp_delayOf hL hD ht q1 q2 (kI_mk ⟨i32 (by omega), i32 (by omega), ?_⟩), fun y => sp_delayOf hL hD ht q1 q2 (kI_mk ?_)⟩
        · rw [if_neg (b2i_0.mp y)] at hn9
          exact hn9
        · have y' : cntD L D t = 0 := Classical.byContradiction fun w => y (b2i_0.mpr w)
          rw [if_pos y'] at hn9
          exact hn9))
  have e0 : cntD L D 0 = 0 := cntT_same _ _
  rw [e0, b2i_t rfl] at h
  exact bX1_greatestDelay h
theorem sp_listDepartures (hL : M 1 11 = L) (hD : M 3 0 = D) (ht : WFt L) (hI : DI L D) (hq0 : 0 ≤ q) (hq1 : q < 3) {d s : Int} (hd : I32 d) (hs0 : 0 ≤ s) (hs1 : s ≤ 11) (k : ∀ M', FrQ q M M' → SeqR M' q (depS L D d s) → K [] M') : Call G 1 0 zX1_listDepartures [rr G 3 0 0, iv d, iv s, rr G 5 q 0] M K X := by
  have hn := ht.1
  refine bX1_listDepartures hq0 hq1 (sp_clear hq0 hq1 (fun M1 f1 s1 => kV_mk ?_))
  have gen := loop_up (E := fun t => 0 ≤ t → ∀ N : Mem, FrQ q M N → SeqR N q (foldS (fun t => decide (dirn L t = d ∧ D (33 + t) s ≠ -1)) (fun t => D (33 + t) s) (fun t => t) t.toNat) → eX1_listDepartures G K X 7 [(0, rr G 3 0 0), (1, iv d), (2, iv s), (3, rr G 5 q 0), (4, iv t)] [] N) hn.1 (fun h0 N hN hs => by
    have e : N 1 11 = L := (hN.ne (Or.inl (by decide))).trans hL
    refine bX1_listDepartures_7 hq0 hq1 ?_
    rw [e]
    exact ⟨i32 (by omega), i32 (by omega), fun _ => k N hN hs, fun z => absurd z (by omega)⟩) (fun t q1 q2 hn9 h0 N hN hs => by
    have e : N 1 11 = L := (hN.ne (Or.inl (by decide))).trans hL
    have e3 : N 3 0 = D := (hN.ne (Or.inl (by decide))).trans hD
    have hsz := foldS_size (fun t => decide (dirn L t = d ∧ D (33 + t) s ≠ -1)) (fun t => D (33 + t) s) (fun t => t) t.toNat
    have hb := (hI.2.2 t s q1 (by omega) hs0 (by omega)).2
    have skp : ¬ (dirn L t = d ∧ D (33 + t) s ≠ -1) → eX1_listDepartures G K X 7 [(0, rr G 3 0 0), (1, iv d), (2, iv s), (3, rr G 5 q 0), (4, iv (t + 1))] [] N := fun z => hn9 (by omega) N hN (by rw [foldS_step q1, if_neg (by simpa only [decide_eq_true_eq] using z)]; exact hs)
    refine bX1_listDepartures_7 hq0 hq1 ?_
    refine ⟨i32 (by omega), by rw [e]; exact i32 (by omega), fun z => absurd q2 (by rw [e] at z; exact z), fun _ => sp_directionOf (by omega) (by omega) (by rw [e]; exact ht) q1 (by rw [e]; exact q2) (kI_mk ?_)⟩
    rw [e, e3]
    have hdd : dirn L t = 0 ∨ dirn L t = 1 := by unfold dirn; split <;> simp
    refine ⟨i32 (by omega), hd, fun z => skp (fun w => z w.1), fun z => ⟨q1, by omega, hs0, by omega, i32 (by omega), fun y => skp (fun w => w.2 y), fun y => ?_⟩⟩
    refine sp_put hq0 hq1 hs (by omega) (foldS_i32 _ (fun x hx _ => by have := (hI.2.2 (x : Int) s (by omega) (by omega) hs0 (by omega)).2; exact i32 (by omega))) (i32 (by omega)) (fun M2 f2 s2 => kV_mk (hn9 (by omega) M2 (FrR.trans hN f2) ?_))
    rw [foldS_step q1, if_pos (by simp only [decide_eq_true_eq]; exact ⟨z, y⟩)]
    exact s2)
  exact gen (Int.le_refl _) M1 f1 s1
end Dr
