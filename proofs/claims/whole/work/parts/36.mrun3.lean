/-! ===== the reference's looks and runs ===== -/
theorem up1_same (L : LFn) (c k : Int) : up1 L c k (L c k) = L := by
  funext c'
  funext k'
  rw [up1_any]
  split
  · rename_i h; rw [h.1, h.2]
  · rfl
theorem RD_cnt {E L D : LFn} (hR : RDp E L D) (x : Int) : RDp (up1 E 0 18 x) L (up1 D 0 2 x) := by
  obtain ⟨r1, r2, r3, r4, r5, r6⟩ := hR
  refine ⟨fun u u0 u1 => ?_, fun d s q0 q1 q2 q3 => ?_, fun t s q0 q1 q2 q3 => ?_, ?_, ?_, ?_⟩
  · rw [up1_nc (c' := 8) (by omega), up1_nc (c' := 9) (by omega), up1_nc (c' := 10) (by omega), up1_nc (c' := 66) (by omega), up1_nc (c' := 67) (by omega), up1_nc (c' := 68) (by omega), up1_nc (c' := 69) (by omega)]
    exact r1 u u0 u1
  · rw [up1_nc (c' := 11) (by omega), up1_nc (c' := 64 + d) (by omega)]
    exact r2 d s q0 q1 q2 q3
  · rw [up1_nc (c' := 12) (by omega), up1_nc (c' := 13) (by omega), up1_nc (c' := 2 + t) (by omega), up1_nc (c' := 33 + t) (by omega)]
    exact r3 t s q0 q1 q2 q3
  · rw [up1_at, up1_at]
  · rw [up1_nk (by omega), up1_nk (by omega)]; exact r5
  · rw [up1_nk (by omega), up1_nk (by omega)]; exact r6
section My
variable {G : GT} {K : List Value → Mem → Prop} {X : String → Mem → Prop} {M : Mem} {L D : LFn}
theorem m_looks (hR : RG (M 8 0 1) L) (ht : WFt L) (hv : WFv L) (hm : WFm L) (hb : WFb L) (hI : DI L D) (hE : RDp (M 8 0) L D) {v : Int} (h0 : 0 ≤ v) (h1 : v < L 11 3) (ho : onTr L D v) (k : ∀ M', FrX PR M M' → RDp (M' 8 0) L (lookD L D v) → K [] M') : Call G 3 0 zX12_looks [rr G 8 0 0, iv v] M K X := by
  have ok := trip_ok hv ht h0 h1 ho
  obtain ⟨o1, o2, o3, o4, o5, o6, o7, o8, o9, o10, o11⟩ := ok
  have hw := ho.2.2.2.2.2
  have hn := hv.1
  have hs := hm.2.2.2.2
  have hb0 := hb.1
  have hsec := hm.1 (secT L D v) o6 o7
  have hbk : -1 ≤ blkA L (secT L D v) (D 69 v) ∧ (blkA L (secT L D v) (D 69 v) = -1 ∨ (0 ≤ blkA L (secT L D v) (D 69 v) ∧ blkA L (secT L D v) (D 69 v) < L 25 3)) := srch_bd _ (Int.le_refl _)
  have hon : D 66 v ≠ -1 := by omega
  have hEv : M 8 0 8 v = D 67 v ∧ M 8 0 9 v = D 68 v ∧ M 8 0 10 v = D 69 v := by
    rcases hE.1 v h0 h1 with q | q
    · exact absurd q.2 hon
    · exact q.2
  have hEl := hE.2.1 (dirn L (D 66 v)) (D 68 v) (by omega) (by omega) o4 o5
  have hl := hI.2.1 (dirn L (D 66 v)) (D 68 v) (by omega) (by omega) o4 o5
  have hlatI : -1 ≤ M 8 0 11 (12 * dirn L (D 66 v) + D 68 v) ∧ M 8 0 11 (12 * dirn L (D 66 v) + D 68 v) ≤ 2999 := by
    rcases hEl with q | q <;> omega
  -- it departs
  have dep : ∀ (b n x : Int) (D' : LFn), ((b < 0 ∧ n = L 2 (secT L D v) ∧ x = 0) ∨ (¬ b < 0 ∧ n = L 3 (secT L D v) ∧ x = 1)) → I32 b → 1 ≤ n → n ≤ 30 → D 69 v < 3000 → (∀ c, c ≠ 0 → D' c = D c) → RDp (up1 (M 8 0) 0 18 (M 8 0 0 18 + x)) L D' → lookD L D v = depT L D' v (dirn L (D 66 v)) n →
      eX12_looks G K X 202 [(0, rr G 8 0 0), (1, iv v), (2, iv (D 66 v)), (3, iv (D 68 v)), (4, iv (D 69 v)), (6, iv (secT L D v)), (7, iv b)] [] M := by
    intro b n x D' hbn hbi n0 n1 hw3 hD' hE' hlk
    have e66 := hD' 66 (by omega)
    have e67 := hD' 67 (by omega)
    have e68 := hD' 68 (by omega)
    have e69 := hD' 69 (by omega)
    have ho' : onTr L D' v := by unfold onTr; rw [e66, e67, e68, e69]; exact ho
    have ens : nxS D' v (dirn L (D 66 v)) = nxS D v (dirn L (D 66 v)) := by unfold nxS; rw [e68]
    have last : ∀ N : Mem, N 8 0 = up1 (up1 (up1 (M 8 0) 11 (12 * dirn L (D 66 v) + D 68 v) (D 69 v)) 13 (12 * D 66 v + D 68 v) (D 69 v)) 0 18 (M 8 0 0 18 + x) → FrX PR M N → eX12_looks G K X 271 [(0, rr G 8 0 0), (4, iv (D 69 v)), (6, iv (secT L D v)), (7, iv b)] [iv (nxS D v (dirn L (D 66 v))), iv (D 66 v), iv v, rr G 8 0 0] N := by
      intro N eN fN
      have gN : N 8 0 1 = M 8 0 1 := fN.g
      have hRN : RG (N 8 0 1) L := by rw [gN]; exact hR
      have hmv := RD_mov (D := D') (d := dirn L (D 66 v)) (n := n) hE' h0 h1 (by rw [e66]; exact hon) (by rw [e66]; exact o1) (by rw [e66]; exact o3) (by rw [e68]; exact o4) (by rw [e68]; exact o5) (by omega) (by omega) (by rw [ens]; exact o9) (by rw [ens]; exact o10) (by rw [e69]; omega)
      unfold mvE at hmv
      rw [e66, e68, e69] at hmv
      have fin : eX12_looks G K X 298 [] [iv n, iv (D 69 v), iv (nxS D v (dirn L (D 66 v))), iv (D 66 v), iv v, rr G 8 0 0] N := by
        have := m_arrivesAt (G := G) (K := kV (fun M1 => K [] M1)) (X := noX) (M := N) (D := D') hRN ht hv hm (v := v) (d := dirn L (D 66 v)) (n := n) h0 h1 ho' (by rw [e66]) (by rw [e69]; exact hw3) (by omega) n1 (by rw [eN, e67, up1_nc (by omega), up1_nc (by omega), up1_nc (by omega)]; exact hEv.1)
          (by rw [eN, e66, e69]; exact hmv) (fun M' f' r' => kV_mk (k M' (fN.tr f') (by rw [hlk]; exact r')))
        rw [e66, e69, ens] at this
        exact bX12_looks_298 this
      rcases hbn with ⟨b0, bn, -⟩ | ⟨b0, bn, -⟩
      · refine bX12_looks_271 ⟨hbi, fun _ => ⟨o6, by omega, ?_⟩, fun z => absurd b0 z⟩
        rw [(hRN.1 _ o6 o7).1, ← bn]
        exact fin
      · refine bX12_looks_271 ⟨hbi, fun z => absurd z b0, fun _ => ⟨by omega, by omega, ?_⟩⟩
        rw [(hRN.1 _ o6 o7).2, ← bn]
        exact fin
    have nine : ∀ N : Mem, N 8 0 = up1 (up1 (M 8 0) 11 (12 * dirn L (D 66 v) + D 68 v) (D 69 v)) 13 (12 * D 66 v + D 68 v) (D 69 v) → FrX PR M N → eX12_looks G K X 247 [(0, rr G 8 0 0), (1, iv v), (2, iv (D 66 v)), (3, iv (D 68 v)), (4, iv (D 69 v)), (6, iv (secT L D v)), (7, iv b)] [iv x, iv (M 8 0 0 18), rr G 8 0 0] N := by
      intro N eN fN
      have fN2 : FrX PR M (wr N 8 0 0 18 (M 8 0 0 18 + x)) := fN.wr (Or.inr (by omega)) _
      have eN2 : wr N 8 0 0 18 (M 8 0 0 18 + x) 8 0 = up1 (up1 (up1 (M 8 0) 11 (12 * dirn L (D 66 v) + D 68 v) (D 69 v)) 13 (12 * D 66 v + D 68 v) (D 69 v)) 0 18 (M 8 0 0 18 + x) := by rw [wr_reg, eN]
      refine bX12_looks_247 (m_direction (by rw [fN2.g]; exact hR) ht o1 o2 (kI_mk ⟨i32 (by omega), fun z => ?_, fun z => ?_⟩))
      · have := last _ eN2 fN2
        rw [show nxS D v (dirn L (D 66 v)) = D 68 v - 1 from if_neg z] at this
        exact this
      · have := last _ eN2 fN2
        rw [show nxS D v (dirn L (D 66 v)) = D 68 v + 1 from if_pos z] at this
        exact this
    refine bX12_looks_202 (m_direction hR ht o1 o2 (kI_mk ⟨by omega, by omega, by omega, by omega, fun M10 e10 => ?_⟩))
    have eM : M10 8 0 = up1 (up1 (M 8 0) 11 (12 * dirn L (D 66 v) + D 68 v) (D 69 v)) 13 (12 * D 66 v + D 68 v) (D 69 v) := by rw [e10, wr_reg, wr_reg]
    have fM : FrX PR M M10 := by rw [e10]; exact (FrX.rf.wr (Or.inl (by omega)) _).wr (Or.inl (by omega)) _
    have e18 : M10 8 0 0 18 = M 8 0 0 18 := by rw [eM, up1_nc (by omega), up1_nc (by omega)]
    have := nine M10 eM fM
    rw [e18]
    rcases hbn with ⟨b0, -, rfl⟩ | ⟨b0, -, rfl⟩
    · exact ⟨hbi, fun _ => this, fun z => absurd b0 z⟩
    · exact ⟨hbi, fun z => absurd z b0, fun _ => this⟩
  -- no gap
  have free : D 69 v < 3000 → ¬ D 69 v < frT L D v → eX12_looks G K X 115 [(0, rr G 8 0 0), (1, iv v), (2, iv (D 66 v)), (3, iv (D 68 v)), (4, iv (D 69 v))] [] M := by
    intro hw3 hfr
    have blk : eX12_looks G K X 130 [(0, rr G 8 0 0), (1, iv v), (2, iv (D 66 v)), (3, iv (D 68 v)), (4, iv (D 69 v))] [iv (secT L D v)] M := by
      refine bX12_looks_130 (m_blockOn hR hb (i32 (by omega)) (i32 (by omega)) (kI_mk ⟨i32 (by omega), fun z => ?_, fun z => ⟨by omega, by omega, ?_⟩⟩))
      · refine dep _ (L 2 (secT L D v)) 0 D (Or.inl ⟨z, rfl, rfl⟩) (i32 (by omega)) (by omega) (by omega) hw3 (fun _ _ => rfl) (by rw [Int.add_zero, up1_same]; exact hE) ?_
        unfold lookD
        rw [if_neg (by omega), if_neg hfr, if_pos (by omega)]
      · rw [(hR.1 _ o6 o7).2]
        refine ⟨i32 (by omega), fun y => ?_, fun y => ⟨by omega, by omega, h0, by omega, fun M27 e27 => ?_⟩⟩
        · refine dep _ (L 3 (secT L D v)) 1 (up1 D 0 2 (D 0 2 + 1)) (Or.inr ⟨z, rfl, rfl⟩) (i32 (by omega)) (by omega) (by omega) hw3 (fun c hc => up1_nc hc) (by rw [hE.2.2.2.1]; exact RD_cnt hE _) ?_
          unfold lookD
          rw [if_neg (by omega), if_neg hfr, if_neg (by omega), if_pos (by omega)]
        · have hbb := hR.2.2.2.2.2.2.2.2 (blkA L (secT L D v) (D 69 v)) (by omega) (by omega)
          rw [hbb.2.2, wr_at] at e27
          refine k M27 ?_ ?_
          · rw [e27]; exact (FrX.rf.wr (Or.inl (by omega)) _).wr (Or.inr (by omega)) _
          · rw [e27, wr_reg, wr_reg, hE.2.2.2.2.2]
            unfold lookD
            rw [if_neg (by omega), if_neg hfr, if_neg (by omega), if_neg (by omega)]
            exact (RD_wait hE h0 h1 hon).2
    refine bX12_looks_115 (m_direction hR ht o1 o2 (kI_mk ⟨i32 (by omega), fun z => ?_, fun z => ?_⟩))
    · rw [show secT L D v = D 68 v - 1 from if_neg z] at blk
      exact blk
    · rw [show secT L D v = D 68 v from if_pos z] at blk
      exact blk
  refine bX12_looks ⟨h0, by omega, ?_⟩
  rw [hEv.1]
  refine m_dutyAt hR hv h0 h1 ho.1 ho.2.1 (kI_mk ?_)
  rw [← ho.2.2.1, hEv.2.1, hEv.2.2]
  refine ⟨i32 (by omega), fun z => m_direction hR ht o1 o2 (kI_mk ⟨by omega, by omega, i32 (by omega), fun y => ?_, fun y => ⟨i32 (by omega), ?_⟩⟩), fun z => ?_⟩
  · exact free z (by unfold frT; omega)
  · rw [hR.2.2.1.2.2]
    have hlat : M 8 0 11 (12 * dirn L (D 66 v) + D 68 v) = D (64 + dirn L (D 66 v)) (D 68 v) := by
      rcases hEl with q | q
      · omega
      · exact q.2
    rw [hlat] at y ⊢
    refine ⟨i32 (by omega), fun w => free z (by unfold frT; omega), fun w => fun M34 e34 => fun M37 e37 => ?_⟩
    have e10 : M34 8 0 10 v = D (64 + dirn L (D 66 v)) (D 68 v) + L 5 2 := by rw [e34, wr_at]
    have e19 : M34 8 0 0 19 = D 0 3 := by rw [e34, wr_nc (by omega)]; exact hE.2.2.2.2.1
    rw [e10, e19] at e37
    refine k M37 ?_ ?_
    · rw [e37, e34]; exact (FrX.rf.wr (Or.inl (by omega)) _).wr (Or.inr (by omega)) _
    · rw [e37, wr_reg, e34, wr_reg]
      unfold lookD
      rw [if_neg (by omega), if_pos (by unfold frT; omega)]
      exact (RD_wait hE h0 h1 hon).1
  · refine k _ (FrX.rf.wr (Or.inl (by omega)) _) ?_
    rw [wr_reg]
    unfold lookD
    rw [if_pos (by omega)]
    exact RD_off hE
end My
