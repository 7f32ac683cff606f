/-! ===== what the line's changes do ===== -/
def up1 (L : LFn) (c k v : Int) : LFn := fun c' => if c' = c then upI (L c) k v else L c'
def upr (L : LFn) (c : Int) (f : Int → Int) : LFn := fun c' => if c' = c then f else L c'
theorem upr_at (L : LFn) (c : Int) (f : Int → Int) : upr L c f c = f := if_pos rfl
theorem upr_ne {L : LFn} {c c' : Int} {f : Int → Int} (h : c' ≠ c) : upr L c f c' = L c' := if_neg h
theorem up1_at (L : LFn) (c k v : Int) : up1 L c k v c k = v := by unfold up1 upI; rw [if_pos rfl, if_pos rfl]
theorem up1_nc {L : LFn} {c k v c' : Int} (h : c' ≠ c) : up1 L c k v c' = L c' := if_neg h
theorem up1_nk {L : LFn} {c k v k' : Int} (h : k' ≠ k) : up1 L c k v c k' = L c k' := by unfold up1 upI; rw [if_pos rfl, if_neg h]
theorem up1_any (L : LFn) (c k v c' k' : Int) : up1 L c k v c' k' = if c' = c ∧ k' = k then v else L c' k' := by
  by_cases h : c' = c
  · by_cases hk : k' = k
    · rw [if_pos ⟨h, hk⟩, h, hk, up1_at]
    · rw [if_neg (fun q => hk q.2), h, up1_nk hk]
  · rw [if_neg (fun q => h q.1), up1_nc h]
theorem up1_upr (L : LFn) (c : Int) (f : Int → Int) (k v : Int) : up1 (upr L c f) c k v = upr L c (upI f k v) := by
  funext c'
  by_cases h : c' = c
  · rw [h, upr_at]
    unfold up1
    rw [if_pos rfl, upr_at]
  · rw [upr_ne h, up1_nc h, upr_ne h]
theorem upr_self (L : LFn) (c : Int) : upr L c (L c) = L := by
  funext c'
  by_cases h : c' = c
  · rw [h, upr_at]
  · rw [upr_ne h]
/-- those from p + 1 to n moved up by one -/
def shU (f : Int → Int) (p n : Int) : Int → Int := fun k => if p < k ∧ k ≤ n then f (k - 1) else f k
theorem shU_self (f : Int → Int) (n : Int) : shU f n n = f := by
  funext k
  exact if_neg (by omega)
theorem shU_step (f : Int → Int) {q n : Int} (h : q + 1 ≤ n) : upI (shU f (q + 1) n) (q + 1) (shU f (q + 1) n q) = shU f q n := by
  have e : shU f (q + 1) n q = f q := if_neg (by omega)
  rw [e]
  funext k
  unfold upI shU
  by_cases hk : k = q + 1
  · rw [if_pos hk, if_pos (by omega), hk]
    congr 1
    omega
  · rw [if_neg hk]
    by_cases hk2 : q + 1 < k ∧ k ≤ n
    · rw [if_pos hk2, if_pos (by omega)]
    · rw [if_neg hk2, if_neg (by omega)]
/-- the n from st on taken from g, from fr on -/
def tkF (f g : Int → Int) (st fr n : Int) : Int → Int := fun k => if st ≤ k ∧ k < st + n then g (fr + (k - st)) else f k
theorem tkF_0 (f g : Int → Int) (st fr : Int) : tkF f g st fr 0 = f := by
  funext k
  exact if_neg (by omega)
theorem tkF_step (f g : Int → Int) {st fr n : Int} (h : 0 ≤ n) : upI (tkF f g st fr n) (st + n) (g (fr + n)) = tkF f g st fr (n + 1) := by
  funext k
  unfold upI tkF
  by_cases hk : k = st + n
  · rw [if_pos hk, if_pos (by omega), hk]
    congr 1
    omega
  · rw [if_neg hk]
    by_cases hk2 : st ≤ k ∧ k < st + n
    · rw [if_pos hk2, if_pos (by omega)]
    · rw [if_neg hk2, if_neg (by omega)]
theorem wr_line (M : Mem) (i c k v : Int) : wr M 1 i c k v 1 i = up1 (M 1 i) c k v := by
  funext c'
  by_cases h : c' = c
  · rw [h]
    unfold wr up1
    rw [wrow_at, if_pos rfl]
  · rw [wr_nc h, up1_nc h]
theorem wrow_line (M : Mem) (i c : Int) (f : Int → Int) : wrow M 1 i c f 1 i = upr (M 1 i) c f := by
  funext c'
  by_cases h : c' = c
  · rw [h, wrow_at, upr_at]
  · rw [wrow_nc h, upr_ne h]
def FrL (i : Int) (M M' : Mem) : Prop := FrR 1 i (fun _ => True) M M'
theorem FrL.ne {i : Int} {M M' : Mem} (h : FrL i M M') {a : Nat} {b : Int} (hn : a ≠ 1 ∨ b ≠ i) : M' a b = M a b := funext fun c => h a b c (fun z => by rcases hn with w | w; exact w z.1; exact w z.2.1)
theorem FrL.rf {i : Int} {M : Mem} : FrL i M M := FrR.rf
theorem FrL.wr {i : Int} {M M' : Mem} (h : FrL i M M') (c k v : Int) : FrL i M (wr M' 1 i c k v) := FrR.wr h trivial
theorem FrL.tr {i : Int} {M M1 M2 : Mem} (h : FrL i M M1) (h2 : FrL i M1 M2) : FrL i M M2 := FrR.trans h h2
-- the changes
def addA (L : LFn) (a b d : Int) : LFn := up1 (up1 (up1 (up1 (up1 L 7 (L 6 4) a) 8 (L 6 4) b) 9 (L 6 4) d) 10 (L 6 4) 0) 6 4 (L 6 4 + 1)
def addV (L : LFn) (d : Int) : LFn := up1 (up1 (up1 L 12 (L 11 3) d) 13 (L 11 3) 0) 11 3 (L 11 3 + 1)
def insE (f : Int → Int) (p n t : Int) : Int → Int := upI (shU f p n) p t
def insL (L : LFn) (v p t : Int) : LFn := up1 (upr L (15 + v) (insE (L (15 + v)) p (L 13 v) t)) 13 v (L 13 v + 1)
def outF (L : LFn) (t : Int) : LFn := if vehOf L t = -1 then L else up1 L 13 (vehOf L t) (posOf L t (vehOf L t))
def outB (L : LFn) (t : Int) : LFn := if vehOf L t = -1 then L else up1 L 13 (vehOf L t) (posOf L t (vehOf L t) + 1)
def addK (L : LFn) (s a b : Int) : LFn := up1 (up1 (up1 (up1 L 26 (L 25 3) s) 27 (L 25 3) a) 28 (L 25 3) b) 25 3 (L 25 3 + 1)
def shf (f : Int → Int) (b n : Int) : Int → Int := fun k => if b ≤ k ∧ k < n - 1 then f (k + 1) else f k
def rmK (L : LFn) (b : Int) : LFn := up1 (upr (upr (upr L 26 (shf (L 26) b (L 25 3))) 27 (shf (L 27) b (L 25 3))) 28 (shf (L 28) b (L 25 3))) 25 3 (L 25 3 - 1)
def joinL (L N : LFn) (v st w fr : Int) : LFn := up1 (upr L (15 + v) (tkF (L (15 + v)) (N (15 + w)) st fr (N 13 w - fr))) 13 v (st + (N 13 w - fr))
section Ops
variable {G : GT} {K : List Value → Mem → Prop} {X : String → Mem → Prop} {M : Mem} {i j : Int}
theorem sp_addActive (hi0 : 0 ≤ i) (hi1 : i < 12) (hn0 : 0 ≤ M 1 i 6 4) (hn1 : M 1 i 6 4 < 30) {a b d : Int} (k : ∀ M', FrL i M M' → M' 1 i = addA (M 1 i) a b d → K [iv (M 1 i 6 4)] M') : Call G 0 0 zX8_addActive [rr G 1 i 6, iv a, iv b, iv d] M K X := by
  refine bX8_addActive hi0 hi1 ⟨i32 (by omega), fun _ => ⟨hn0, hn1, fun M10 e10 => ?_⟩, fun z => absurd hn1 z⟩
  have e64 : M10 1 i 6 4 = M 1 i 6 4 := by rw [e10, wr_nc (by omega), wr_nc (by omega), wr_nc (by omega)]
  rw [e64]
  refine ⟨hn0, hn1, fun M16 e16 => ?_⟩
  have e : M16 1 i 6 4 = M 1 i 6 4 + 1 := by rw [e16, wr_at]
  rw [e, show M 1 i 6 4 + 1 - 1 = M 1 i 6 4 by omega]
  refine k M16 ?_ ?_
  · rw [e16, e10]
    exact ((((FrL.rf.wr _ _ _).wr _ _ _).wr _ _ _).wr _ _ _).wr _ _ _
  · rw [e16, e10]
    simp only [wr_line]
    rfl
theorem sp_addTo (hi0 : 0 ≤ i) (hi1 : i < 12) (hn0 : 0 ≤ M 1 i 11 3) (hn1 : M 1 i 11 3 < 10) {d : Int} (k : ∀ M', FrL i M M' → M' 1 i = addV (M 1 i) d → K [iv (M 1 i 11 3)] M') : Call G 0 0 zX2_addTo [rr G 1 i 11, iv d] M K X := by
  refine bX2_addTo hi0 hi1 ⟨i32 (by omega), fun _ => ⟨hn0, hn1, fun M10 e10 => ?_⟩, fun z => absurd hn1 z⟩
  have e : M10 1 i 11 3 = M 1 i 11 3 + 1 := by rw [e10, wr_at]
  rw [e, show M 1 i 11 3 + 1 - 1 = M 1 i 11 3 by omega]
  refine k M10 ?_ ?_
  · rw [e10]
    exact ((FrL.rf.wr _ _ _).wr _ _ _).wr _ _ _
  · rw [e10]
    simp only [wr_line]
    rfl
theorem sp_addBlock (hi0 : 0 ≤ i) (hi1 : i < 12) (hn0 : 0 ≤ M 1 i 25 3) (hn1 : M 1 i 25 3 < 6) {s a b : Int} (k : ∀ M', FrL i M M' → M' 1 i = addK (M 1 i) s a b → K [iv (M 1 i 25 3)] M') : Call G 0 0 zX0_addBlock [rr G 1 i 25, iv s, iv a, iv b] M K X := by
  refine bX0_addBlock hi0 hi1 ⟨i32 (by omega), fun _ => ⟨hn0, hn1, fun M10 e10 => ?_⟩, fun z => absurd hn1 z⟩
  have e : M10 1 i 25 3 = M 1 i 25 3 := by rw [e10, wr_nc (by omega), wr_nc (by omega), wr_nc (by omega)]
  rw [wr_at, e, show M 1 i 25 3 + 1 - 1 = M 1 i 25 3 by omega]
  refine k _ ?_ ?_
  · rw [e10]
    exact (((FrL.rf.wr _ _ _).wr _ _ _).wr _ _ _).wr _ _ _
  · rw [e10]
    simp only [wr_line]
    rfl
theorem sp_takeOutFrom (hi0 : 0 ≤ i) (hi1 : i < 12) (hv : WFv (M 1 i)) (ht : WFt (M 1 i)) {t : Int} (hti : I32 t) (k : ∀ M', FrL i M M' → M' 1 i = outF (M 1 i) t → K [] M') : Call G 2 0 zX2_takeOutFrom [rr G 1 i 11, iv t] M K X := by
  have hn := hv.1
  have hb : -1 ≤ vehOf (M 1 i) t ∧ (vehOf (M 1 i) t = -1 ∨ (0 ≤ vehOf (M 1 i) t ∧ vehOf (M 1 i) t < M 1 i 11 3)) := srch_bd _ (Int.le_refl _)
  refine bX2_takeOutFrom hi0 hi1 (sp_vehicleOf hi0 hi1 hv ht hti (kI_mk ⟨i32 (by omega), fun z => ?_, fun z => sp_positionOf hi0 hi1 hv ht hti (by omega) (by omega) (kI_mk ⟨by omega, by omega, ?_⟩)⟩))
  · exact k M FrL.rf (by unfold outF; rw [if_pos z])
  · exact k _ (FrL.rf.wr _ _ _) (by unfold outF; rw [if_neg z, wr_line])
theorem sp_takeOutBehind (hi0 : 0 ≤ i) (hi1 : i < 12) (hv : WFv (M 1 i)) (ht : WFt (M 1 i)) {t : Int} (hti : I32 t) (k : ∀ M', FrL i M M' → M' 1 i = outB (M 1 i) t → K [] M') : Call G 2 0 zX2_takeOutBehind [rr G 1 i 11, iv t] M K X := by
  have hn := hv.1
  have hb : -1 ≤ vehOf (M 1 i) t ∧ (vehOf (M 1 i) t = -1 ∨ (0 ≤ vehOf (M 1 i) t ∧ vehOf (M 1 i) t < M 1 i 11 3)) := srch_bd _ (Int.le_refl _)
  refine bX2_takeOutBehind hi0 hi1 (sp_vehicleOf hi0 hi1 hv ht hti (kI_mk ⟨i32 (by omega), fun z => ?_, fun z => sp_positionOf hi0 hi1 hv ht hti (by omega) (by omega) (kI_mk ⟨by omega, by omega, ?_⟩)⟩))
  · exact k M FrL.rf (by unfold outB; rw [if_pos z])
  · exact k _ (FrL.rf.wr _ _ _) (by unfold outB; rw [if_neg z, wr_line])
theorem sp_insert (hi0 : 0 ≤ i) (hi1 : i < 12) {v p t : Int} (h0 : 0 ≤ v) (h1 : v < 10) (hl0 : 0 ≤ M 1 i 13 v) (hl1 : M 1 i 13 v < 30) (hp0 : 0 ≤ p) (hp1 : p ≤ M 1 i 13 v) (k : ∀ M', FrL i M M' → M' 1 i = insL (M 1 i) v p t → K [] M') : Call G 0 0 zX2_insert [rr G 1 i 11, iv v, iv p, iv t] M K X := by
  refine bX2_insert hi0 hi1 ⟨h0, h1, i32 (by omega), fun _ => ?_, fun z => absurd hl1 z⟩
  generalize hn : M 1 i 13 v = n at hl0 hl1 hp1
  have gen : ∀ q : Nat, p + q ≤ n → ∀ N : Mem, FrL i M N → N 1 i = upr (M 1 i) (15 + v) (shU (M 1 i (15 + v)) (p + q) n) →
      eX2_insert G K X 20 [(0, rr G 1 i 11), (1, iv v), (2, iv p), (3, iv t), (4, iv (p + q))] [] N := by
    intro q
    induction q with
    | zero =>
      intro hq N hN e
      refine bX2_insert_20 hi0 hi1 ⟨i32 (by omega), i32 (by omega), fun _ => ⟨h0, h1, hp0, by omega, fun M14 e14 => ?_⟩, fun z => absurd z (by omega)⟩
      refine k M14 (by rw [e14]; exact (hN.wr _ _ _).wr _ _ _) ?_
      rw [e14, wr_nc (by omega)]
      have e13 : N 1 i 13 v = n := by rw [e, upr_ne (by omega)]; exact hn
      rw [e13, wr_line, wr_line, e, up1_upr]
      unfold insL insE
      rw [hn, show p + ((0 : Nat) : Int) = p by omega]
    | succ q ih =>
      intro hq N hN e
      refine bX2_insert_20 hi0 hi1 ⟨i32 (by omega), i32 (by omega), fun z => absurd (show p < p + ((q + 1 : Nat) : Int) by omega) z, fun _ => ⟨h0, h1, by omega, by omega, by omega, by omega, ?_⟩⟩
      rw [show p + ((q + 1 : Nat) : Int) + (-1) = p + q by omega]
      refine ih (by omega) _ (hN.wr _ _ _) ?_
      rw [wr_line, e, upr_at, up1_upr, show p + ((q + 1 : Nat) : Int) - 1 = p + q by omega, show p + ((q + 1 : Nat) : Int) = p + q + 1 by omega, shU_step _ (by omega)]
  have := gen (n - p).toNat (by omega) M FrL.rf (by rw [show p + (((n - p).toNat : Nat) : Int) = n by omega, shU_self, upr_self])
  rw [show p + (((n - p).toNat : Nat) : Int) = n by omega] at this
  exact this
theorem sp_removeBlock (hi0 : 0 ≤ i) (hi1 : i < 12) {b : Int} (h0 : 0 ≤ b) (h1 : b < M 1 i 25 3) (hn1 : M 1 i 25 3 ≤ 6) (k : ∀ M', FrL i M M' → M' 1 i = rmK (M 1 i) b → K [] M') : Call G 0 0 zX0_removeBlock [rr G 1 i 25, iv b] M K X := by
  generalize hn : M 1 i 25 3 = n at h1 hn1
  have gen := loop_up (E := fun q => b + 1 ≤ q → ∀ N : Mem, FrL i M N → N 1 i = upr (upr (upr (M 1 i) 26 (shf (M 1 i 26) b q)) 27 (shf (M 1 i 27) b q)) 28 (shf (M 1 i 28) b q) → eX0_removeBlock G K X 4 [(0, rr G 1 i 25), (2, iv q)] [] N) (a := b + 1) (b := n) (by omega) (fun _ N hN e => by
    have e25 : N 1 i 25 3 = n := by rw [e, upr_ne (by omega), upr_ne (by omega), upr_ne (by omega)]; exact hn
    refine bX0_removeBlock_4 hi0 hi1 ⟨i32 (by omega), by rw [e25]; exact i32 (by omega), fun _ => k _ (hN.wr _ _ _) ?_, fun z => absurd z (by omega)⟩
    rw [wr_line, e25, e]
    unfold rmK
    rw [hn]) (fun q q1 q2 hn9 _ N hN e => by
    have e25 : N 1 i 25 3 = n := by rw [e, upr_ne (by omega), upr_ne (by omega), upr_ne (by omega)]; exact hn
    refine bX0_removeBlock_4 hi0 hi1 ⟨i32 (by omega), by rw [e25]; exact i32 (by omega), fun z => absurd q2 (by rw [e25] at z; exact z), fun _ => ⟨by omega, by omega, by omega, by omega, fun M15 e15 => hn9 (by omega) _ ?_ ?_⟩⟩
    · rw [e15]; exact ((hN.wr _ _ _).wr _ _ _).wr _ _ _
    · have hs : ∀ f : Int → Int, upI (shf f b q) (q - 1) (shf f b q q) = shf f b (q + 1) := by
        intro f
        funext k
        unfold upI shf
        by_cases hk : k = q - 1
        · rw [if_pos hk, if_neg (by omega), if_pos (by omega), hk, show q - 1 + 1 = q by omega]
        · rw [if_neg hk]
          by_cases hk2 : b ≤ k ∧ k < q - 1
          · rw [if_pos hk2, if_pos (by omega)]
          · rw [if_neg hk2, if_neg (by omega)]
      have e28 : M15 1 i 28 q = shf (M 1 i 28) b q q := by rw [e15, wr_nc (by omega), wr_nc (by omega), e, upr_at]
      have e27 : N 1 i 27 q = shf (M 1 i 27) b q q := by rw [e, upr_ne (by omega), upr_at]
      have e26 : N 1 i 26 q = shf (M 1 i 26) b q q := by rw [e, upr_ne (by omega), upr_ne (by omega), upr_at]
      rw [wr_line, e28, e15, wr_line, wr_line, e27, e26, e]
      funext c
      by_cases h28 : c = 28
      · subst h28
        rw [upr_at]
        unfold up1
        rw [if_pos rfl, if_neg (by omega), if_neg (by omega), upr_at]
        exact hs _
      · rw [up1_nc h28, upr_ne h28]
        by_cases h27 : c = 27
        · subst h27
          rw [upr_at]
          unfold up1
          rw [if_pos rfl, if_neg (by omega), upr_ne (by omega), upr_at]
          exact hs _
        · rw [up1_nc h27, upr_ne h27]
          by_cases h26 : c = 26
          · subst h26
            rw [upr_at]
            unfold up1
            rw [if_pos rfl, upr_ne (by omega), upr_ne (by omega), upr_at]
            exact hs _
          · rw [up1_nc h26, upr_ne h26, upr_ne h28, upr_ne h27, upr_ne h26])
  refine bX0_removeBlock hi0 hi1 (gen (Int.le_refl _) M FrL.rf ?_)
  have hs : ∀ f : Int → Int, shf f b (b + 1) = f := by
    intro f
    funext k
    exact if_neg (by omega)
  rw [hs, hs, hs]
  funext c
  by_cases h28 : c = 28
  · rw [h28, upr_at]
  · rw [upr_ne h28]
    by_cases h27 : c = 27
    · rw [h27, upr_at]
    · rw [upr_ne h27]
      by_cases h26 : c = 26
      · rw [h26, upr_at]
      · rw [upr_ne h26]
theorem sp_join (hi0 : 0 ≤ i) (hi1 : i < 12) (hj0 : 0 ≤ j) (hj1 : j < 12) (hij : i ≠ j) {v st w fr : Int} (h0 : 0 ≤ v) (h1 : v < 10) (hw0 : 0 ≤ w) (hw1 : w < 10) (hf0 : 0 ≤ fr) (hf1 : fr ≤ M 1 j 13 w) (hl : M 1 j 13 w ≤ 30) (hs0 : 0 ≤ st) (hs1 : st + (M 1 j 13 w - fr) ≤ 30) (k : ∀ M', FrL i M M' → M' 1 i = joinL (M 1 i) (M 1 j) v st w fr → K [] M') : Call G 0 0 zX2_join [rr G 1 i 11, iv v, iv st, rr G 1 j 11, iv w, iv fr] M K X := by
  generalize hn : M 1 j 13 w = n at hf1 hl hs1
  have gen := loop_up (E := fun q => fr ≤ q → ∀ N : Mem, FrL i M N → N 1 i = upr (M 1 i) (15 + v) (tkF (M 1 i (15 + v)) (M 1 j (15 + w)) st fr (q - fr)) → eX2_join G K X 7 [(0, rr G 1 i 11), (1, iv v), (3, rr G 1 j 11), (4, iv w), (6, iv (st + (q - fr))), (7, iv q)] [] N) (a := fr) (b := n) hf1 (fun _ N hN e => by
    have ej : N 1 j = M 1 j := hN.ne (Or.inr (fun z => hij z.symm))
    refine bX2_join_7 hi0 hi1 hj0 hj1 ⟨hw0, hw1, i32 (by omega), by rw [ej, hn]; exact i32 (by omega), fun _ => ⟨h0, h1, k _ (hN.wr _ _ _) ?_⟩, fun z => absurd z (by rw [ej, hn]; omega)⟩
    rw [wr_line, e]
    unfold joinL
    rw [hn]) (fun q q1 q2 hn9 _ N hN e => by
    have ej : N 1 j = M 1 j := hN.ne (Or.inr (fun z => hij z.symm))
    refine bX2_join_7 hi0 hi1 hj0 hj1 ⟨hw0, hw1, i32 (by omega), by rw [ej, hn]; exact i32 (by omega), fun z => absurd q2 (by rw [ej, hn] at z; exact z), fun _ => ⟨i32 (by omega), fun z => absurd z (by omega), fun _ => ⟨h0, h1, by omega, by omega, by omega, ?_⟩⟩⟩
    rw [show st + (q - fr) + 1 = st + (q + 1 - fr) by omega]
    refine hn9 (by omega) _ (hN.wr _ _ _) ?_
    rw [wr_line, e, ej, up1_upr, show q + 1 - fr = (q - fr) + 1 by omega, ← tkF_step _ _ (by omega), show fr + (q - fr) = q by omega])
  have := gen (Int.le_refl _) M FrL.rf (by rw [Int.sub_self, tkF_0, upr_self])
  rw [show st + (fr - fr) = st by omega] at this
  exact bX2_join hi0 hi1 hj0 hj1 this
end Ops
