/-! ===== searches; duties, reasons ===== -/
/-- the first place of p from k on, below b; -1: none -/
def srchN (p : Int → Bool) (k : Int) : Nat → Int
  | 0 => -1
  | n + 1 => if p k then k else srchN p (k + 1) n
def srch (p : Int → Bool) (k b : Int) : Int := srchN p k (b - k).toNat
theorem srch_end {p : Int → Bool} {k b : Int} (h : b ≤ k) : srch p k b = -1 := by
  unfold srch
  rw [show (b - k).toNat = 0 by omega]
  rfl
theorem srch_hit {p : Int → Bool} {k b : Int} (h : k < b) (hp : p k = true) : srch p k b = k := by
  unfold srch
  rw [show (b - k).toNat = (b - (k + 1)).toNat + 1 by omega]
  simp [srchN, hp]
theorem srch_next {p : Int → Bool} {k b : Int} (h : k < b) (hp : p k = false) : srch p k b = srch p (k + 1) b := by
  unfold srch
  rw [show (b - k).toNat = (b - (k + 1)).toNat + 1 by omega]
  simp [srchN, hp]
theorem srch_spec {p : Int → Bool} {k b : Int} : (srch p k b = -1 ∧ ∀ x, k ≤ x → x < b → p x = false) ∨ (k ≤ srch p k b ∧ srch p k b < b ∧ p (srch p k b) = true ∧ ∀ x, k ≤ x → x < srch p k b → p x = false) := by
  have key : ∀ n : Nat, ∀ k : Int, (b - k).toNat = n → (srch p k b = -1 ∧ ∀ x, k ≤ x → x < b → p x = false) ∨ (k ≤ srch p k b ∧ srch p k b < b ∧ p (srch p k b) = true ∧ ∀ x, k ≤ x → x < srch p k b → p x = false) := by
    intro n
    induction n with
    | zero => intro k h; exact Or.inl ⟨srch_end (by omega), fun x _ _ => by omega⟩
    | succ n ih =>
      intro k h
      by_cases hp : p k = true
      · rw [srch_hit (by omega) hp]
        exact Or.inr ⟨by omega, by omega, hp, fun x _ _ => by omega⟩
      · have hp' : p k = false := by simpa using hp
        rw [srch_next (by omega) hp']
        rcases ih (k + 1) (by omega) with ⟨h1, h2⟩ | ⟨h1, h2, h3, h4⟩
        · exact Or.inl ⟨h1, fun x q1 q2 => by
            by_cases hx : x = k
            · rw [hx]; exact hp'
            · exact h2 x (by omega) q2⟩
        · exact Or.inr ⟨by omega, h2, h3, fun x q1 q2 => by
            by_cases hx : x = k
            · rw [hx]; exact hp'
            · exact h4 x (by omega) q2⟩
  exact key _ k rfl
theorem srch_bd (p : Int → Bool) {k b : Int} (hk : 0 ≤ k) : -1 ≤ srch p k b ∧ (srch p k b = -1 ∨ (k ≤ srch p k b ∧ srch p k b < b)) := by
  rcases srch_spec (p := p) (k := k) (b := b) with ⟨h, -⟩ | ⟨h1, h2, -⟩
  · omega
  · omega
theorem srch_congr {p q : Int → Bool} {k b : Int} (h : ∀ x, k ≤ x → x < b → p x = q x) : srch p k b = srch q k b := by
  have key : ∀ n : Nat, ∀ k : Int, (b - k).toNat = n → (∀ x, k ≤ x → x < b → p x = q x) → srch p k b = srch q k b := by
    intro n
    induction n with
    | zero => intro k h _; rw [srch_end (by omega), srch_end (by omega)]
    | succ n ih =>
      intro k h hh
      have e := hh k (by omega) (by omega)
      by_cases hp : p k = true
      · rw [srch_hit (by omega) hp, srch_hit (by omega) (by rw [← e]; exact hp)]
      · have hp' : p k = false := by simpa using hp
        rw [srch_next (p := p) (k := k) (by omega) hp', srch_next (p := q) (k := k) (by omega) (by rw [← e]; exact hp'), ih (k + 1) (by omega) (fun x q1 q2 => hh x (by omega) q2)]
  exact key _ k rfl h
/-- the first place from k on where p doesn't hold; b if there is none below b -/
def skip (p : Int → Bool) (k b : Int) : Int := if srch (fun x => !p x) k b = -1 then b else srch (fun x => !p x) k b
-- duties
def posOf (L : LFn) (t v : Int) : Int := srch (fun p => decide (L (15 + v) p = t)) 0 (L 13 v)
def vehOf (L : LFn) (t : Int) : Int := srch (fun v => decide (posOf L t v ≠ -1)) 0 (L 11 3)
/-- how many of a duty depart before m -/
def tbf (L : LFn) (m v : Int) : Int := skip (fun p => decide (L 9 (L (15 + v) p) < m)) 0 (L 13 v)
def rsn (L : LFn) (f l v : Int) : Int :=
  if tbf L (L 9 f) v < L 13 v ∧ L 9 (L (15 + v) (tbf L (L 9 f) v)) = L 9 f then 3
  else if 0 < tbf L (L 9 f) v ∧ ¬ fol L f (L (15 + v) (tbf L (L 9 f) v - 1)) then 4
  else if tbf L (L 9 f) v < L 13 v ∧ ¬ fol L (L (15 + v) (tbf L (L 9 f) v)) l then 5
  else if tbf L (L 9 f) v = 0 ∧ L 7 f ≠ hst L v then 6 else 0
def rsnG (L : LFn) (t v : Int) : Int := if L 10 t ≠ 0 then 1 else if vehOf L t ≠ -1 then 2 else rsn L t t v
def rsnR (L : LFn) (f s v : Int) : Int := if L 10 f ≠ 0 ∨ L 10 s ≠ 0 ∨ f = s then 1 else if vehOf L f ≠ -1 ∨ vehOf L s ≠ -1 then 2 else if ¬ fol L s f then 7 else rsn L f s v
theorem skip_bd (p : Int → Bool) {k b : Int} (hk : 0 ≤ k) (hb : k ≤ b) : k ≤ skip p k b ∧ skip p k b ≤ b := by
  unfold skip
  have h1 := srch_bd (fun x => !p x) (k := k) (b := b) hk
  split <;> omega
theorem tbf_bd {L : LFn} {m v : Int} (h : 0 ≤ L 13 v) : 0 ≤ tbf L m v ∧ tbf L m v ≤ L 13 v := skip_bd _ (Int.le_refl _) h
section Sp1
variable {G : GT} {K : List Value → Mem → Prop} {X : String → Mem → Prop} {M : Mem} {i : Int}
theorem sp_firstTripOf (hi0 : 0 ≤ i) (hi1 : i < 12) (hv : WFv (M 1 i)) {v : Int} (h0 : 0 ≤ v) (h1 : v < M 1 i 11 3) (k : K [iv (if 0 < M 1 i 13 v then M 1 i (15 + v) 0 else -1)] M) : Call G 0 0 zX2_firstTripOf [rr G 1 i 11, iv v] M K X := by
  have h := hv.2 v h0 h1
  have hn := hv.1
  refine bX2_firstTripOf hi0 hi1 ⟨h0, by omega, i32 (by omega), fun q => ?_, fun q => ?_⟩
  · rw [if_neg q] at k; exact k
  · rw [if_pos q] at k; exact k
theorem sp_lastTripOf (hi0 : 0 ≤ i) (hi1 : i < 12) (hv : WFv (M 1 i)) {v : Int} (h0 : 0 ≤ v) (h1 : v < M 1 i 11 3) (k : K [iv (if 0 < M 1 i 13 v then M 1 i (15 + v) (M 1 i 13 v - 1) else -1)] M) : Call G 0 0 zX2_lastTripOf [rr G 1 i 11, iv v] M K X := by
  have h := hv.2 v h0 h1
  have hn := hv.1
  refine bX2_lastTripOf hi0 hi1 ⟨h0, by omega, i32 (by omega), fun q => ?_, fun q => ⟨by omega, by omega, ?_⟩⟩
  · rw [if_neg q] at k; exact k
  · rw [if_pos q] at k; exact k
theorem sp_homeStopOf (hi0 : 0 ≤ i) (hi1 : i < 12) (hv : WFv (M 1 i)) {v : Int} (h0 : 0 ≤ v) (h1 : v < M 1 i 11 3) (k : K [iv (hst (M 1 i) v)] M) : Call G 0 0 zX2_homeStopOf [rr G 1 i 11, iv v] M K X := by
  have h := hv.2 v h0 h1
  have hn := hv.1
  unfold hst at k
  refine bX2_homeStopOf hi0 hi1 ⟨h0, by omega, i32 (by omega), fun q => ?_, fun q => ?_⟩
  · rw [if_neg q] at k; exact k
  · rw [if_pos q] at k; exact k
theorem sp_positionOf (hi0 : 0 ≤ i) (hi1 : i < 12) (hv : WFv (M 1 i)) (ht : WFt (M 1 i)) {t v : Int} (hti : I32 t) (h0 : 0 ≤ v) (h1 : v < M 1 i 11 3) (k : K [iv (posOf (M 1 i) t v)] M) : Call G 0 0 zX2_positionOf [rr G 1 i 11, iv t, iv v] M K X := by
  have h := hv.2 v h0 h1
  have hn := hv.1
  have hn2 := ht.1
  refine bX2_positionOf hi0 hi1 (loop_up (E := fun p => K [iv (srch (fun p => decide (M 1 i (15 + v) p = t)) p (M 1 i 13 v))] M → eX2_positionOf G K X 2 [(0, rr G 1 i 11), (1, iv t), (2, iv v), (3, iv p)] [] M) (b := M 1 i 13 v) (by omega) (fun hk => ?_) (fun p q1 q2 hn9 hk => ?_) k)
  · rw [srch_end (Int.le_refl _)] at hk
    exact bX2_positionOf_2 hi0 hi1 ⟨h0, by omega, i32 (by omega), i32 (by omega), fun _ => hk, fun q => absurd q (by omega)⟩
  · have hd := h.2.2.2.2 p q1 q2
    refine bX2_positionOf_2 hi0 hi1 ⟨h0, by omega, i32 (by omega), i32 (by omega), fun q => absurd q2 q, fun _ => ⟨q1, by omega, i32 (by omega), hti, fun z => ?_, fun z => ?_⟩⟩
    · exact hn9 (by rw [srch_next q2 (by simpa using z)] at hk; exact hk)
    · rw [srch_hit q2 (by simpa using z)] at hk; exact hk
theorem sp_vehicleOf (hi0 : 0 ≤ i) (hi1 : i < 12) (hv : WFv (M 1 i)) (ht : WFt (M 1 i)) {t : Int} (hti : I32 t) (k : K [iv (vehOf (M 1 i) t)] M) : Call G 1 0 zX2_vehicleOf [rr G 1 i 11, iv t] M K X := by
  have hn := hv.1
  refine bX2_vehicleOf hi0 hi1 (loop_up (E := fun v => K [iv (srch (fun v => decide (posOf (M 1 i) t v ≠ -1)) v (M 1 i 11 3))] M → eX2_vehicleOf G K X 2 [(0, rr G 1 i 11), (1, iv t), (2, iv v)] [] M) (b := M 1 i 11 3) (by omega) (fun hk => ?_) (fun v q1 q2 hn9 hk => ?_) k)
  · rw [srch_end (Int.le_refl _)] at hk
    exact bX2_vehicleOf_2 hi0 hi1 ⟨i32 (by omega), i32 (by omega), fun _ => hk, fun q => absurd q (by omega)⟩
  · have h := hv.2 v q1 q2
    have hp : -1 ≤ posOf (M 1 i) t v ∧ (posOf (M 1 i) t v = -1 ∨ (0 ≤ posOf (M 1 i) t v ∧ posOf (M 1 i) t v < M 1 i 13 v)) := srch_bd _ (Int.le_refl _)
    refine bX2_vehicleOf_2 hi0 hi1 ⟨i32 (by omega), i32 (by omega), fun q => absurd q2 q, fun _ => sp_positionOf hi0 hi1 hv ht hti q1 q2 (kI_mk ⟨i32 (by omega), fun z => ?_, fun z => ?_⟩)⟩
    · exact hn9 (by rw [srch_next q2 (by simpa using z)] at hk; exact hk)
    · rw [srch_hit q2 (by simpa using z)] at hk; exact hk
theorem sp_tripsBefore (hi0 : 0 ≤ i) (hi1 : i < 12) (hv : WFv (M 1 i)) (ht : WFt (M 1 i)) {m v : Int} (hmi : I32 m) (h0 : 0 ≤ v) (h1 : v < M 1 i 11 3) (k : K [iv (tbf (M 1 i) m v)] M) : Call G 0 0 zX4_tripsBefore [rr G 1 i 0, iv m, iv v] M K X := by
  have h := hv.2 v h0 h1
  have hn := hv.1
  have hn2 := ht.1
  have gen : ∀ q : Int, 0 ≤ q → q ≤ M 1 i 13 v → K [iv (skip (fun p => decide (M 1 i 9 (M 1 i (15 + v) p) < m)) q (M 1 i 13 v))] M → eX4_tripsBefore G K X 2 [(0, rr G 1 i 0), (1, iv m), (2, iv v), (3, iv q)] [] M := by
    intro q hq0 hq1
    refine loop_up (E := fun q => K [iv (skip (fun p => decide (M 1 i 9 (M 1 i (15 + v) p) < m)) q (M 1 i 13 v))] M → eX4_tripsBefore G K X 2 [(0, rr G 1 i 0), (1, iv m), (2, iv v), (3, iv q)] [] M) hq1 (fun hk => ?_) (fun p q1 q2 hn9 hk => ?_)
    · unfold skip at hk
      rw [srch_end (Int.le_refl _), if_pos rfl] at hk
      exact bX4_tripsBefore_2 hi0 hi1 ⟨h0, by omega, i32 (by omega), i32 (by omega), fun _ => hk, fun q => absurd q (by omega)⟩
    · have hd := h.2.2.2.2 p (by omega) q2
      have ht2 := ht.2 _ hd.1 hd.2
      refine bX4_tripsBefore_2 hi0 hi1 ⟨h0, by omega, i32 (by omega), i32 (by omega), fun q => absurd q2 q, fun _ => ⟨by omega, by omega, by omega, by omega, i32 (by omega), hmi, fun z => ?_, fun z => ?_⟩⟩
      · unfold skip at hk
        rw [srch_hit q2 (by simpa using z), if_neg (by omega)] at hk
        exact hk
      · refine hn9 ?_
        unfold skip at hk ⊢
        rw [srch_next q2 (by simpa using z)] at hk
        exact hk
  exact bX4_tripsBefore hi0 hi1 (gen 0 (by omega) (by omega) k)
theorem sp_positionFor (hi0 : 0 ≤ i) (hi1 : i < 12) (hv : WFv (M 1 i)) (ht : WFt (M 1 i)) {t v : Int} (ht0 : 0 ≤ t) (ht1 : t < M 1 i 6 4) (h0 : 0 ≤ v) (h1 : v < M 1 i 11 3) (k : K [iv (tbf (M 1 i) (M 1 i 9 t) v)] M) : Call G 1 0 zX4_positionFor [rr G 1 i 0, iv t, iv v] M K X := by
  have h := ht.2 t ht0 ht1
  have hn := ht.1
  exact bX4_positionFor hi0 hi1 ⟨ht0, by omega, sp_tripsBefore hi0 hi1 hv ht (i32 (by omega)) h0 h1 (kI_mk k)⟩
theorem sp_reasonInDuty (hi0 : 0 ≤ i) (hi1 : i < 12) (hv : WFv (M 1 i)) (ht : WFt (M 1 i)) (hm : WFm (M 1 i)) {f l v : Int} (hf0 : 0 ≤ f) (hf1 : f < M 1 i 6 4) (hl0 : 0 ≤ l) (hl1 : l < M 1 i 6 4) (h0 : 0 ≤ v) (h1 : v < M 1 i 11 3) (k : K [iv (rsn (M 1 i) f l v)] M) : Call G 3 0 zX4_reasonInDuty [rr G 1 i 0, iv f, iv l, iv v] M K X := by
  have h := hv.2 v h0 h1
  have hn := hv.1
  have hn2 := ht.1
  have hf := ht.2 f hf0 hf1
  have hb := tbf_bd (L := M 1 i) (m := M 1 i 9 f) (v := v) (by omega)
  unfold rsn at k
  generalize hq : tbf (M 1 i) (M 1 i 9 f) v = at0 at k hb
  -- the last test
  have s131 : ∀ bf : Int, (bf = -1 ↔ at0 = 0) → I32 bf → K [iv (if at0 = 0 ∧ M 1 i 7 f ≠ hst (M 1 i) v then 6 else 0)] M → eX4_reasonInDuty G K X 131 [(0, rr G 1 i 0), (1, iv f), (3, iv v), (5, iv bf)] [] M := by
    intro bf hbf hbi hk
    refine bX4_reasonInDuty_131 hi0 hi1 ⟨hbi, fun z => ?_, fun z => ⟨hf0, by omega, sp_homeStopOf hi0 hi1 hv h0 h1 (kI_mk ⟨i32 (by omega), ?_, fun y => ?_, fun y => ?_⟩)⟩⟩
    · rw [if_neg (fun y => z (hbf.mpr y.1))] at hk
      exact bX4_reasonInDuty_160 hi0 hi1 hk
    · unfold hst; split <;> exact i32 (by omega)
    · rw [if_neg (fun q => q.2 y)] at hk
      exact bX4_reasonInDuty_160 hi0 hi1 hk
    · rw [if_pos ⟨hbf.mp z, y⟩] at hk
      exact hk
  have s113 : ∀ bf bh : Int, (bf = -1 ↔ at0 = 0) → I32 bf → ((¬ at0 < M 1 i 13 v ∧ bh = -1) ∨ (at0 < M 1 i 13 v ∧ bh = M 1 i (15 + v) at0)) → K [iv (if at0 < M 1 i 13 v ∧ ¬ fol (M 1 i) (M 1 i (15 + v) at0) l then 5 else if at0 = 0 ∧ M 1 i 7 f ≠ hst (M 1 i) v then 6 else 0)] M → eX4_reasonInDuty G K X 113 [(0, rr G 1 i 0), (1, iv f), (2, iv l), (3, iv v), (5, iv bf), (6, iv bh)] [] M := by
    intro bf bh hbf hbi hbh hk
    rcases hbh with ⟨z, rfl⟩ | ⟨z, rfl⟩
    · rw [if_neg (fun y => z y.1)] at hk
      exact bX4_reasonInDuty_113 hi0 hi1 ⟨i32 (by omega), fun _ => s131 bf hbf hbi hk, fun y => absurd rfl y⟩
    · have hd := h.2.2.2.2 at0 hb.1 z
      refine bX4_reasonInDuty_113 hi0 hi1 ⟨i32 (by omega), fun y => by omega, fun _ => sp_canFollow hi0 hi1 ht hm hd.1 hd.2 hl0 hl1 (kI_mk ⟨b2i_i32 _, fun y => ?_, fun y => ?_⟩)⟩
      · have y' : fol (M 1 i) (M 1 i (15 + v) at0) l := Classical.byContradiction fun w => y (b2i_0.mpr w)
        rw [if_neg (fun q => q.2 y')] at hk
        exact s131 bf hbf hbi hk
      · rw [if_pos ⟨z, b2i_0.mp y⟩] at hk
        exact hk
  have s95 : ∀ bf bh : Int, ((at0 = 0 ∧ bf = -1) ∨ (0 < at0 ∧ bf = M 1 i (15 + v) (at0 - 1))) → ((¬ at0 < M 1 i 13 v ∧ bh = -1) ∨ (at0 < M 1 i 13 v ∧ bh = M 1 i (15 + v) at0)) → K [iv (if 0 < at0 ∧ ¬ fol (M 1 i) f (M 1 i (15 + v) (at0 - 1)) then 4 else if at0 < M 1 i 13 v ∧ ¬ fol (M 1 i) (M 1 i (15 + v) at0) l then 5 else if at0 = 0 ∧ M 1 i 7 f ≠ hst (M 1 i) v then 6 else 0)] M → eX4_reasonInDuty G K X 95 [(0, rr G 1 i 0), (1, iv f), (2, iv l), (3, iv v), (5, iv bf), (6, iv bh)] [] M := by
    intro bf bh hbf hbh hk
    rcases hbf with ⟨z, rfl⟩ | ⟨z, rfl⟩
    · rw [if_neg (fun y => by omega)] at hk
      exact bX4_reasonInDuty_95 hi0 hi1 ⟨i32 (by omega), fun _ => s113 (-1) bh (by omega) (i32 (by omega)) hbh hk, fun y => absurd rfl y⟩
    · have hd := h.2.2.2.2 (at0 - 1) (by omega) (by omega)
      refine bX4_reasonInDuty_95 hi0 hi1 ⟨i32 (by omega), fun y => by omega, fun _ => sp_canFollow hi0 hi1 ht hm hf0 hf1 hd.1 hd.2 (kI_mk ⟨b2i_i32 _, fun y => ?_, fun y => ?_⟩)⟩
      · have y' : fol (M 1 i) f (M 1 i (15 + v) (at0 - 1)) := Classical.byContradiction fun w => y (b2i_0.mpr w)
        rw [if_neg (fun q => q.2 y')] at hk
        exact s113 _ bh (by omega) (i32 (by omega)) hbh hk
      · rw [if_pos ⟨z, b2i_0.mp y⟩] at hk
        exact hk
  have s63 : ∀ bf bh : Int, ((at0 = 0 ∧ bf = -1) ∨ (0 < at0 ∧ bf = M 1 i (15 + v) (at0 - 1))) → ((¬ at0 < M 1 i 13 v ∧ bh = -1) ∨ (at0 < M 1 i 13 v ∧ bh = M 1 i (15 + v) at0)) → eX4_reasonInDuty G K X 63 [(0, rr G 1 i 0), (1, iv f), (2, iv l), (3, iv v), (5, iv bf)] [iv bh] M := by
    intro bf bh hbf hbh
    rcases hbh with ⟨z, rfl⟩ | ⟨z, rfl⟩
    · rw [if_neg (fun y => z y.1)] at k
      exact bX4_reasonInDuty_63 hi0 hi1 ⟨i32 (by omega), fun _ => s95 bf (-1) hbf (Or.inl ⟨z, rfl⟩) k, fun y => absurd rfl y⟩
    · have hd := h.2.2.2.2 at0 hb.1 z
      have ht2 := ht.2 _ hd.1 hd.2
      refine bX4_reasonInDuty_63 hi0 hi1 ⟨i32 (by omega), fun y => by omega, fun _ => ⟨hd.1, by omega, hf0, by omega, i32 (by omega), i32 (by omega), fun y => ?_, fun y => ?_⟩⟩
      · rw [if_neg (fun q => y q.2)] at k
        exact s95 bf _ hbf (Or.inr ⟨z, rfl⟩) k
      · rw [if_pos ⟨z, y⟩] at k
        exact k
  have s31 : ∀ bf : Int, ((at0 = 0 ∧ bf = -1) ∨ (0 < at0 ∧ bf = M 1 i (15 + v) (at0 - 1))) → eX4_reasonInDuty G K X 31 [(0, rr G 1 i 0), (1, iv f), (2, iv l), (3, iv v), (4, iv at0)] [iv bf] M := by
    intro bf hbf
    exact bX4_reasonInDuty_31 hi0 hi1 ⟨h0, by omega, i32 (by omega), i32 (by omega), fun z => s63 bf (-1) hbf (Or.inl ⟨z, rfl⟩), fun z => ⟨hb.1, by omega, s63 bf _ hbf (Or.inr ⟨z, rfl⟩)⟩⟩
  exact bX4_reasonInDuty hi0 hi1 (sp_positionFor hi0 hi1 hv ht hf0 hf1 h0 h1 (kI_mk (by
    rw [hq]
    exact ⟨i32 (by omega), fun z => s31 (-1) (Or.inl ⟨by omega, rfl⟩), fun z => ⟨h0, by omega, by omega, by omega, s31 _ (Or.inr ⟨z, rfl⟩)⟩⟩)))
theorem sp_reasonAgainst (hi0 : 0 ≤ i) (hi1 : i < 12) (hv : WFv (M 1 i)) (ht : WFt (M 1 i)) (hm : WFm (M 1 i)) {t v : Int} (ht0 : 0 ≤ t) (ht1 : t < M 1 i 6 4) (h0 : 0 ≤ v) (h1 : v < M 1 i 11 3) (k : K [iv (rsnG (M 1 i) t v)] M) : Call G 4 0 zX4_reasonAgainst [rr G 1 i 0, iv t, iv v] M K X := by
  have h := ht.2 t ht0 ht1
  have hn := ht.1
  have hnv := hv.1
  unfold rsnG at k
  have hb : -1 ≤ vehOf (M 1 i) t ∧ (vehOf (M 1 i) t = -1 ∨ (0 ≤ vehOf (M 1 i) t ∧ vehOf (M 1 i) t < M 1 i 11 3)) := srch_bd _ (Int.le_refl _)
  refine bX4_reasonAgainst hi0 hi1 ⟨ht0, by omega, i32 (by omega), fun z => ?_, fun z => ?_⟩
  · rw [if_neg (fun y => y z)] at k
    refine sp_vehicleOf hi0 hi1 hv ht (i32 (by omega)) (kI_mk ⟨i32 (by omega), fun y => ?_, fun y => ?_⟩)
    · rw [if_neg (fun q => q y)] at k
      exact sp_reasonInDuty hi0 hi1 hv ht hm ht0 ht1 ht0 ht1 h0 h1 (kI_mk k)
    · rw [if_pos y] at k
      exact k
  · rw [if_pos z] at k
    exact k
theorem sp_reasonAgainstRound (hi0 : 0 ≤ i) (hi1 : i < 12) (hv : WFv (M 1 i)) (ht : WFt (M 1 i)) (hm : WFm (M 1 i)) {f s v : Int} (hf0 : 0 ≤ f) (hf1 : f < M 1 i 6 4) (hs0 : 0 ≤ s) (hs1 : s < M 1 i 6 4) (h0 : 0 ≤ v) (h1 : v < M 1 i 11 3) (k : K [iv (rsnR (M 1 i) f s v)] M) : Call G 4 0 zX4_reasonAgainstRound [rr G 1 i 0, iv f, iv s, iv v] M K X := by
  have h := ht.2 f hf0 hf1
  have h2 := ht.2 s hs0 hs1
  have hn := ht.1
  have hnv := hv.1
  unfold rsnR at k
  have hb : -1 ≤ vehOf (M 1 i) f ∧ (vehOf (M 1 i) f = -1 ∨ (0 ≤ vehOf (M 1 i) f ∧ vehOf (M 1 i) f < M 1 i 11 3)) := srch_bd _ (Int.le_refl _)
  have hb2 : -1 ≤ vehOf (M 1 i) s ∧ (vehOf (M 1 i) s = -1 ∨ (0 ≤ vehOf (M 1 i) s ∧ vehOf (M 1 i) s < M 1 i 11 3)) := srch_bd _ (Int.le_refl _)
  refine bX4_reasonAgainstRound hi0 hi1 ⟨hf0, by omega, i32 (by omega), fun z => ?_, fun z => ⟨hs0, by omega, i32 (by omega), fun y => ?_, fun y => ⟨i32 (by omega), i32 (by omega), fun w => ?_, fun w => ?_⟩⟩⟩
  · rw [if_pos (Or.inl z)] at k; exact k
  · rw [if_pos (Or.inr (Or.inl y))] at k; exact k
  · rw [if_neg (by omega)] at k
    refine sp_vehicleOf hi0 hi1 hv ht (i32 (by omega)) (kI_mk ⟨i32 (by omega), fun u => ?_, fun u => ?_⟩)
    · rw [if_pos (Or.inl u)] at k; exact k
    · refine sp_vehicleOf hi0 hi1 hv ht (i32 (by omega)) (kI_mk ⟨i32 (by omega), fun u2 => ?_, fun u2 => ?_⟩)
      · rw [if_neg (by omega)] at k
        refine sp_canFollow hi0 hi1 ht hm hs0 hs1 hf0 hf1 (kI_mk ⟨b2i_i32 _, fun u3 => ?_, fun u3 => ?_⟩)
        · rw [if_neg (fun q => u3 (b2i_0.mpr q))] at k
          exact sp_reasonInDuty hi0 hi1 hv ht hm hf0 hf1 hs0 hs1 h0 h1 (kI_mk k)
        · rw [if_pos (b2i_0.mp u3)] at k; exact k
      · rw [if_pos (Or.inr u2)] at k; exact k
  · rw [if_pos (Or.inr (Or.inr w))] at k; exact k
end Sp1
