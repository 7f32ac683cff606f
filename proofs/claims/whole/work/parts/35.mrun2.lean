/-! ===== the reference's run, called ===== -/
/-- of region 8 only what P names may have changed -/
def FrX (P : Int → Int → Prop) (M M' : Mem) : Prop := ∀ a b c k, ¬ (a = 8 ∧ b = 0 ∧ P c k) → M' a b c k = M a b c k
theorem FrX.rf {P : Int → Int → Prop} {M : Mem} : FrX P M M := fun _ _ _ _ _ => rfl
theorem FrX.tr {P : Int → Int → Prop} {M M1 M2 : Mem} (h : FrX P M M1) (h2 : FrX P M1 M2) : FrX P M M2 := fun a b c k q => (h2 a b c k q).trans (h a b c k q)
theorem FrX.mono {P Q : Int → Int → Prop} {M M1 : Mem} (h : FrX P M M1) (hq : ∀ c k, P c k → Q c k) : FrX Q M M1 := fun a b c k q => h a b c k (fun z => q ⟨z.1, z.2.1, hq _ _ z.2.2⟩)
theorem FrX.wr {P : Int → Int → Prop} {M M' : Mem} (h : FrX P M M') {c k : Int} (hp : P c k) (v : Int) : FrX P M (wr M' 8 0 c k v) := fun a b c' k' q => by
  by_cases hz : a = 8 ∧ c' = c ∧ b = 0
  · obtain ⟨rfl, rfl, rfl⟩ := hz
    by_cases hk : k' = k
    · exact absurd ⟨rfl, rfl, hk ▸ hp⟩ q
    · rw [wr_nk hk]
      exact h _ _ _ _ q
  · rw [wr_ne hz]
    exact h a b c' k' q
theorem FrX.row {P : Int → Int → Prop} {M M' : Mem} (h : FrX P M M') {c : Int} (hc : ∀ k, ¬ P c k) : M' 8 0 c = M 8 0 c := funext fun k => h 8 0 c k (fun z => hc k z.2.2)
theorem FrX.ot {P : Int → Int → Prop} {M M' : Mem} (h : FrX P M M') {a : Nat} {b : Int} (hn : a ≠ 8) : M' a b = M a b := funext fun c => funext fun k => h a b c k (fun z => hn z.1)
/-- the run's rows and counters -/
abbrev PR (c k : Int) : Prop := (8 ≤ c ∧ c ≤ 13) ∨ (c = 0 ∧ 18 ≤ k ∧ k ≤ 20)
theorem FrX.g {M M' : Mem} (h : FrX PR M M') : M' 8 0 1 = M 8 0 1 := h.row (fun k => by show ¬ (_ ∨ _); omega)
section Mz
variable {G : GT} {K : List Value → Mem → Prop} {X : String → Mem → Prop} {M : Mem} {L D : LFn}
theorem m_startsTrip (hR : RG (M 8 0 1) L) (ht : WFt L) (hv : WFv L) {v p rd : Int} (h0 : 0 ≤ v) (h1 : v < L 11 3) (p0 : 0 ≤ p) (p1 : p < L 13 v) (hr : I32 rd) (k : ∀ M', FrX PR M M' → M' 8 0 = stE L (M 8 0) v p rd → K [] M') : Call G 1 0 zX12_startsTrip [rr G 8 0 0, iv v, iv p, iv rd] M K X := by
  have hn := hv.1
  have hd := (hv.2 v h0 h1).2.2.2.2 p p0 p1
  have h9 := ht.2 _ hd.1 hd.2
  have g1 : ∀ x, (wr M 8 0 8 v x) 8 0 1 = M 8 0 1 := fun x => wr_nc (by omega)
  have g2 : ∀ x y, (wr (wr M 8 0 8 v x) 8 0 9 v y) 8 0 1 = M 8 0 1 := fun x y => by rw [wr_nc (by omega), wr_nc (by omega)]
  have fr : ∀ x y z, FrX PR M (wr (wr (wr M 8 0 8 v x) 8 0 9 v y) 8 0 10 v z) := fun x y z => ((FrX.rf.wr (Or.inl (by omega)) _).wr (Or.inl (by omega)) _).wr (Or.inl (by omega)) _
  have eq : ∀ x y z, (wr (wr (wr M 8 0 8 v x) 8 0 9 v y) 8 0 10 v z) 8 0 = up1 (up1 (up1 (M 8 0) 8 v x) 9 v y) 10 v z := fun x y z => by rw [wr_reg, wr_reg, wr_reg]
  refine bX12_startsTrip (m_dutyAt hR hv h0 h1 p0 p1 (kI_mk ⟨h0, by omega, m_first (by rw [g1]; exact hR) ht hd.1 hd.2 (kI_mk (m_departs (by rw [g2]; exact hR) ht hd.1 hd.2 (kI_mk ⟨hr, i32 (by omega), fun z => m_departs (by rw [g2]; exact hR) ht hd.1 hd.2 (kI_mk (k _ (fr _ _ _) ?_)), fun z => k _ (fr _ _ _) ?_⟩)))⟩))
  · rw [eq]
    unfold stE
    rw [Int.max_eq_left (by omega)]
  · rw [eq]
    unfold stE
    rw [Int.max_eq_right (by omega)]
theorem m_earliest (hR : RG (M 8 0 1) L) (hv : WFv L) (ht : WFt L) (hI : DI L D) (hE : RDp (M 8 0) L D) (k : K [iv (nextD L D)] M) : Call G 1 0 zX12_earliest [rr G 8 0 0] M K X := by
  have hn := hv.1
  have h := loop_up (E := fun v => 0 ≤ v → eX12_earliest G K X 4 [(0, rr G 8 0 0), (1, iv (nxtN D v.toNat)), (2, iv v)] [] M) hn.1 (fun _ => by
    refine bX12_earliest_4 ?_
    rw [hR.2.2.2.2.2.1]
    exact ⟨i32 (by omega), i32 (by omega), fun _ => k, fun z => absurd z (by omega)⟩) (fun v q1 q2 hn9 _ => by
    have hb := nxt_bd D v.toNat
    rw [nxt_step _ q1] at hn9
    generalize nxtN D v.toNat = b at hb hn9 ⊢
    refine bX12_earliest_4 ?_
    rw [hR.2.2.2.2.2.1]
    refine ⟨i32 (by omega), i32 (by omega), fun z => absurd q2 z, fun _ => ⟨q1, by omega, ?_⟩⟩
    rcases hE.1 v q1 q2 with ⟨e1, e2⟩ | ⟨e1, e2, e3, e4⟩
    · rw [e1]
      refine ⟨i32 (by omega), fun _ => ?_, fun z => absurd (show (-1 : Int) < 0 by omega) z⟩
      rw [if_neg (fun w => w.1 e2)] at hn9
      exact hn9 (by omega)
    · have ho : onTr L D v := by
        rcases hI.1 v q1 q2 with q | q
        · exact absurd q e1
        · exact q
      have hl := (hv.2 v q1 q2).2.2
      have hdv := (hv.2 v q1 q2).2.2.2.2 (D 67 v) ho.1 ho.2.1
      have ho7 := ho.2.2.2.2.2
      have hoi := ho.1
      have ho2 := ho.2.1
      rw [e2]
      refine ⟨i32 (by omega), fun z => absurd z (by omega), fun _ => ⟨i32 (by omega), fun y => ?_, fun y => ?_⟩⟩
      · rw [if_pos ⟨e1, Or.inl (by omega)⟩] at hn9
        exact hn9 (by omega)
      · have hb' : 0 ≤ b ∧ b < v ∧ D 66 b ≠ -1 := by
          rcases hb with w | w
          · omega
          · exact ⟨w.1, by omega, w.2.2⟩
        have hob : onTr L D b := by
          rcases hI.1 b hb'.1 (by omega) with q | q
          · exact absurd q hb'.2.2
          · exact q
        have heb : M 8 0 8 b = D 67 b ∧ M 8 0 10 b = D 69 b := by
          rcases hE.1 b hb'.1 (by omega) with w | w
          · exact absurd w.2 hb'.2.2
          · exact ⟨w.2.1, w.2.2.2⟩
        have hdb := (hv.2 b hb'.1 (by omega)).2.2.2.2 (D 67 b) hob.1 hob.2.1
        have hob7 := hob.2.2.2.2.2
        have htn := ht.1
        have yes : earl D v b → eX12_earliest G K X 4 [(0, rr G 8 0 0), (1, iv v), (2, iv (v + 1))] [] M := fun w => by
          rw [if_pos ⟨e1, Or.inr w⟩] at hn9
          exact hn9 (by omega)
        have no : ¬ earl D v b → eX12_earliest G K X 4 [(0, rr G 8 0 0), (1, iv b), (2, iv (v + 1))] [] M := fun w => by
          rw [if_neg (fun u => by rcases u.2 with u2 | u2; exact absurd u2 (by omega); exact w u2)] at hn9
          exact hn9 (by omega)
        rw [e4, heb.2]
        refine ⟨hb'.1, by omega, i32 (by omega), i32 (by omega), fun w => yes (Or.inl w), fun w => ⟨fun u => no (fun x => by rcases x with x | x; exact w x; exact u x.1), fun u => m_dutyAt hR hv q1 q2 ho.1 ho.2.1 (kI_mk ?_)⟩⟩
        rw [heb.1]
        refine m_dutyAt hR hv hb'.1 (by omega) hob.1 hob.2.1 (kI_mk ?_)
        rw [← ho.2.2.1, ← hob.2.2.1]
        have i1 := ho.2.2.1
        have i2 := hob.2.2.1
        refine ⟨i32 (by omega), i32 (by omega), fun x => no (fun s => by rcases s with s | s; exact w s; exact x s.2), fun x => yes (Or.inr ⟨u, x⟩)⟩)
  exact bX12_earliest (h (Int.le_refl _))
theorem m_arrivesAt (hR : RG (M 8 0 1) L) (ht : WFt L) (hv : WFv L) (hm : WFm L) {v d n : Int} (h0 : 0 ≤ v) (h1 : v < L 11 3) (ho : onTr L D v) (hd : d = dirn L (D 66 v)) (hw : D 69 v < 3000) (hn0 : 0 ≤ n) (hn1 : n ≤ 30) (h8 : M 8 0 8 v = D 67 v)
    (hE : RDp (up1 (up1 (up1 (M 8 0) 12 (12 * D 66 v + nxS D v d) (D 69 v + n)) 9 v (nxS D v d)) 10 v (D 69 v + n)) L (movT D v d n)) (k : ∀ M', FrX PR M M' → RDp (M' 8 0) L (depT L D v d n) → K [] M') : Call G 2 0 zX12_arrivesAt [rr G 8 0 0, iv v, iv (D 66 v), iv (nxS D v d), iv (D 69 v + n)] M K X := by
  have ok := trip_ok hv ht h0 h1 ho
  rw [← hd] at ok
  obtain ⟨o1, o2, o3, o4, o5, o6, o7, o8, o9, o10, o11⟩ := ok
  obtain ⟨a1, a2, a3, a4, a5, a6, a7⟩ := ho
  have hn := hv.1
  have hl := (hv.2 v h0 h1).2.2
  have h7 := ht.2 _ o1 o2
  have hs := hm.2.2.2.2
  refine bX12_arrivesAt ⟨by omega, by omega, h0, by omega, fun M7 e7 => ?_⟩
  have g7 : M7 8 0 1 = M 8 0 1 := by rw [e7, wr_nc (by omega), wr_nc (by omega), wr_nc (by omega)]
  have f7 : FrX PR M M7 := by rw [e7]; exact ((FrX.rf.wr (Or.inl (by omega)) _).wr (Or.inl (by omega)) _).wr (Or.inl (by omega)) _
  have E7 : M7 8 0 = up1 (up1 (up1 (M 8 0) 12 (12 * D 66 v + nxS D v d) (D 69 v + n)) 9 v (nxS D v d)) 10 v (D 69 v + n) := by rw [e7, wr_reg, wr_reg, wr_reg]
  have e88 : M7 8 0 8 v = D 67 v := by rw [E7, up1_nc (by omega), up1_nc (by omega), up1_nc (by omega)]; exact h8
  rw [← E7] at hE
  have hR7 : RG (M7 8 0 1) L := by rw [g7]; exact hR
  refine m_last hR7 ht o1 o2 (kI_mk ?_)
  rw [e88, (hR7.2.2.2.2.2.2.1 v h0 h1).2.1, hR7.2.2.1.1]
  unfold depT at k
  have e67 : ∀ x, movT D v d n 67 x = D 67 x := fun x => movT_other (Or.inl (Or.inr rfl)) o1 o3 (by omega) (by omega)
  refine ⟨i32 (by omega), i32 (by omega), fun z => ⟨by omega, by omega, i32 (by omega), i32 (by omega), fun y => ?_, fun y => ?_⟩, fun z => ?_⟩
  · rw [if_pos z] at k
    refine k _ (f7.wr (Or.inl (by omega)) _) ?_
    rw [wr_reg]
    unfold begT
    rw [if_neg y]
    exact RD_end hE
  · rw [if_pos z] at k
    refine m_startsTrip hR7 ht hv h0 h1 (by omega) y (i32 (by omega)) (fun M' f' e' => kV_mk (k M' (f7.tr f') ?_))
    rw [e']
    exact RD_beg hE hv h0 h1 (by omega) y
  · rw [if_neg z] at k
    exact k M7 f7 hE
end Mz
