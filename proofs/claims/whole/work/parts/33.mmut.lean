/-! ===== the reference: copying, remembering ===== -/
theorem RG_eq {g g' : Int → Int} {L : LFn} (hn : WFn L) (h : ∀ k, 0 ≤ k → k < 500 → g' k = g k) (hR : RG g L) : RG g' L := by
  obtain ⟨ht, hm, hv, hb⟩ := hn
  have nt := ht.1
  have nv := hv.1
  have nb := hb.1
  obtain ⟨r1, r2, r3, r4, r5, r6, r7, r8, r9⟩ := hR
  refine ⟨fun k h0 h1 => ?_, fun s h0 h1 => ?_, ⟨?_, ?_, ?_⟩, ?_, fun t h0 h1 => ?_, ?_, fun v h0 h1 => ?_, ?_, fun b h0 h1 => ?_⟩
  · rw [h _ (by omega) (by omega), h _ (by omega) (by omega)]; exact r1 k h0 h1
  · rw [h _ (by omega) (by omega)]; exact r2 s h0 h1
  · rw [h _ (by omega) (by omega)]; exact r3.1
  · rw [h _ (by omega) (by omega)]; exact r3.2.1
  · rw [h _ (by omega) (by omega)]; exact r3.2.2
  · rw [h _ (by omega) (by omega)]; exact r4
  · rw [h _ (by omega) (by omega), h _ (by omega) (by omega), h _ (by omega) (by omega), h _ (by omega) (by omega)]; exact r5 t h0 h1
  · rw [h _ (by omega) (by omega)]; exact r6
  · have h13 := (hv.2 v h0 h1).2.2
    rw [h _ (by omega) (by omega), h _ (by omega) (by omega)]
    exact ⟨(r7 v h0 h1).1, (r7 v h0 h1).2.1, fun p p0 p1 => by rw [h _ (by omega) (by omega)]; exact (r7 v h0 h1).2.2 p p0 p1⟩
  · rw [h _ (by omega) (by omega)]; exact r8
  · rw [h _ (by omega) (by omega), h _ (by omega) (by omega), h _ (by omega) (by omega)]; exact r9 b h0 h1
/-- what the reference has kept: n lines H -/
def Pas (M : Mem) (n : Int) (H : Int → LFn) : Prop := M 8 0 0 5 = n ∧ (0 ≤ n ∧ n ≤ 8) ∧ ∀ r, 0 ≤ r → r < n → RG (fun k => M 8 0 4 (500 * r + k)) (H r)
def pushN (n : Int) : Int := if n < 8 then n + 1 else 8
def pushH (n : Int) (H : Int → LFn) (S : LFn) : Int → LFn := if n < 8 then (fun r => if r = n then S else H r) else (fun r => if r = 7 then S else H (r + 1))
/-- of region 8 only row c, or what is kept, may have changed -/
def FrG (c : Int) (M M' : Mem) : Prop := ∀ a' b' c', ¬ (a' = 8 ∧ b' = 0 ∧ c' = c) → M' a' b' c' = M a' b' c'
def FrP (M M' : Mem) : Prop := ∀ a b c k, ¬ (a = 8 ∧ b = 0 ∧ (c = 4 ∨ (c = 0 ∧ k = 5))) → M' a b c k = M a b c k
theorem FrP.g {M M' : Mem} (h : FrP M M') {c : Int} (hc : c ≠ 4 ∧ c ≠ 0) : M' 8 0 c = M 8 0 c := funext fun k => h 8 0 c k (by omega)
theorem FrP.ot {M M' : Mem} (h : FrP M M') {a : Nat} {b : Int} (hn : a ≠ 8) : M' a b = M a b := funext fun c => funext fun k => h a b c k (fun z => hn z.1)
theorem FrP.row {M M' : Mem} (h : FrP M M') (k v : Int) : FrP M (wr M' 8 0 4 k v) := fun a b c' k' q => by
  rw [wr_ne (fun z => q ⟨z.1, z.2.2, Or.inl z.2.1⟩)]
  exact h a b c' k' q
theorem FrP.siz {M M' : Mem} (h : FrP M M') (v : Int) : FrP M (wr M' 8 0 0 5 v) := fun a b c' k' q => by
  by_cases hz : a = 8 ∧ c' = 0 ∧ b = 0
  · obtain ⟨rfl, rfl, rfl⟩ := hz
    rw [wr_nk (fun z => q ⟨rfl, rfl, Or.inr ⟨rfl, z⟩⟩)]
    exact h _ _ _ _ q
  · rw [wr_ne hz]
    exact h a b c' k' q
theorem FrP.rf {M : Mem} : FrP M M := fun _ _ _ _ _ => rfl
section Mm
variable {G : GT} {K : List Value → Mem → Prop} {X : String → Mem → Prop} {M : Mem} {L : LFn}
theorem m_copies {oa ob : Int} (hoad : dom 8 0 oa) (hoae : ∀ r, entR G 8 0 (oa).toNat r = aI (cyG G 0) 500 r) (hobd : dom 8 0 ob) (hobe : ∀ r, entR G 8 0 (ob).toNat r = aI (cyG G 0) 500 r) (hab : oa ≠ ob) (k : ∀ M', FrG ob M M' → (∀ k, 0 ≤ k → k < 500 → M' 8 0 ob k = M 8 0 oa k) → K [] M') : Call G 0 0 zX12_copies [rr G 8 0 0, rr G 8 0 oa, rr G 8 0 ob] M K X := by
  have gen := loop_up (E := fun x => 0 ≤ x → ∀ N : Mem, FrG ob M N → (∀ k, 0 ≤ k → k < x → N 8 0 ob k = M 8 0 oa k) → eX12_copies G K X 2 [(1, rr G 8 0 oa), (2, rr G 8 0 ob), (3, iv x)] [] N) (a := 0) (b := 500) (by omega) (fun _ N fN eN => by
    exact bX12_copies_2 hoad hoae hobd hobe ⟨i32 (by omega), fun _ => k N fN eN, fun z => absurd z (by omega)⟩) (fun x q1 q2 hn9 _ N fN eN => by
    refine bX12_copies_2 hoad hoae hobd hobe ⟨i32 (by omega), fun z => absurd q2 z, fun _ => ⟨q1, hn9 (by omega) _ (fun a b c hq => ?_) (fun k k0 k1 => ?_)⟩⟩
    · rw [wr_ne (fun z => hq ⟨z.1, z.2.2, z.2.1⟩)]
      exact fN a b c hq
    · by_cases hk : k = x
      · rw [hk, wr_at, fN 8 0 oa (fun z => hab z.2.2)]
      · rw [wr_nk hk]; exact eN k k0 (by omega))
  exact bX12_copies hoad hoae hobd hobe (gen (Int.le_refl _) M (fun _ _ _ _ => rfl) (fun k _ _ => by omega))
theorem m_remembers {n : Int} {H : Int → LFn} {S : LFn} (hP : Pas M n H) (hS : RG (M 8 0 3) S) (hw : WFn S) (hwH : ∀ r, 0 ≤ r → r < n → WFn (H r)) (k : ∀ M', FrP M M' → Pas M' (pushN n) (pushH n H S) → K [] M') : Call G 0 0 zX12_remembers [rr G 8 0 0] M K X := by
  obtain ⟨p1, p2, p3⟩ := hP
  -- the last copy
  have last : ∀ m : Int, 0 ≤ m → m < 8 → ∀ H' : Int → LFn, (∀ r, 0 ≤ r → r < m → WFn (H' r)) → pushN n = m + 1 → (∀ r, 0 ≤ r → r < m → pushH n H S r = H' r) → pushH n H S m = S → ∀ N : Mem, FrP M N → N 8 0 0 5 = m → (∀ r, 0 ≤ r → r < m → RG (fun k => N 8 0 4 (500 * r + k)) (H' r)) → eX12_remembers G K X 52 [(0, rr G 8 0 0), (1, iv 0)] [] N := by
    intro m m0 m1 H' hwH' en eH eS N fN e5 r5
    have e3 : N 8 0 3 = M 8 0 3 := fN.g (by omega)
    have gen := loop_up (E := fun x => 0 ≤ x → ∀ N' : Mem, FrP M N' → N' 8 0 0 5 = m → (∀ k, 0 ≤ k → k < x → N' 8 0 4 (500 * m + k) = M 8 0 3 k) → (∀ k, 0 ≤ k → k < 500 * m → N' 8 0 4 k = N 8 0 4 k) → eX12_remembers G K X 52 [(0, rr G 8 0 0), (1, iv x)] [] N') (a := 0) (b := 500) (by omega) (fun _ N' f' e5' eN oN => by
      refine bX12_remembers_52 ⟨i32 (by omega), fun _ => k _ (f'.siz _) ⟨by rw [wr_at, e5', en], by omega, fun r r0 r1 => ?_⟩, fun z => absurd z (by omega)⟩
      rw [wr_nc (by omega)]
      by_cases hr : r = m
      · rw [hr, eS]
        exact RG_eq hw (fun k k0 k1 => eN k k0 k1) hS
      · rw [eH r r0 (by omega)]
        exact RG_eq (hwH' r r0 (by omega)) (fun k k0 k1 => oN _ (by omega) (by omega)) (r5 r r0 (by omega))) (fun x q1 q2 hn9 _ N' f' e5' eN oN => by
      have e3' : N' 8 0 3 = M 8 0 3 := f'.g (by omega)
      refine bX12_remembers_52 ⟨i32 (by omega), fun z => absurd q2 z, fun _ => ⟨q1, by omega, by omega, ?_⟩⟩
      rw [e5', e3']
      refine hn9 (by omega) _ (f'.row _ _) (by rw [wr_nc (by omega)]; exact e5') (fun k k0 k1 => ?_) (fun k k0 k1 => ?_)
      · by_cases hk : k = x
        · rw [hk, wr_at]
        · rw [wr_nk (by omega)]; exact eN k k0 (by omega)
      · rw [wr_nk (by omega)]; exact oN k k0 k1)
    exact gen (Int.le_refl _) N fN e5 (fun k _ _ => by omega) (fun k _ _ => rfl)
  refine bX12_remembers ⟨i32 (by omega), fun z => ?_, fun z => ?_⟩
  · refine last n p2.1 (by omega) H hwH (by unfold pushN; rw [if_pos (by omega)]) (fun r r0 r1 => ?_) ?_ M FrP.rf p1 p3
    · unfold pushH
      rw [if_pos (by omega)]
      exact if_neg (by omega)
    · unfold pushH
      rw [if_pos (by omega)]
      exact if_pos rfl
  · have gen := loop_up (E := fun x => 0 ≤ x → ∀ N : Mem, FrP M N → N 8 0 0 5 = 8 → (∀ k, 0 ≤ k → k < x → N 8 0 4 k = M 8 0 4 (k + 500)) → (∀ k, x ≤ k → N 8 0 4 k = M 8 0 4 k) → eX12_remembers G K X 11 [(0, rr G 8 0 0), (1, iv x)] [] N) (a := 0) (b := 3500) (by omega) (fun _ N fN e5 eN oN => by
      refine bX12_remembers_11 ⟨i32 (by omega), fun _ => ?_, fun z => absurd z (by omega)⟩
      refine last 7 (by omega) (by omega) (fun r => H (r + 1)) (fun r r0 r1 => hwH _ (by omega) (by omega)) (by unfold pushN; rw [if_neg (by omega)]; rfl) (fun r r0 r1 => ?_) ?_ _ (fN.siz _) (by rw [wr_at, e5]; rfl) (fun r r0 r1 => ?_)
      · unfold pushH
        rw [if_neg (by omega)]
        exact if_neg (by omega)
      · unfold pushH
        rw [if_neg (by omega)]
        exact if_pos rfl
      · rw [wr_nc (by omega)]
        refine RG_eq (hwH (r + 1) (by omega) (by omega)) (fun k k0 k1 => ?_) (p3 (r + 1) (by omega) (by omega))
        show N 8 0 4 (500 * r + k) = M 8 0 4 (500 * (r + 1) + k)
        rw [eN _ (by omega) (by omega)]
        congr 1
        omega) (fun x q1 q2 hn9 _ N fN e5 eN oN => by
      refine bX12_remembers_11 ⟨i32 (by omega), fun z => absurd q2 z, fun _ => ⟨by omega, by omega, by omega, by omega, ?_⟩⟩
      rw [oN _ (by omega)]
      refine hn9 (by omega) _ (fN.row _ _) (by rw [wr_nc (by omega)]; exact e5) (fun k k0 k1 => ?_) (fun k k0 => ?_)
      · by_cases hk : k = x
        · rw [hk, wr_at]
        · rw [wr_nk hk]; exact eN k k0 (by omega)
      · rw [wr_nk (by omega)]; exact oN k (by omega))
    exact gen (Int.le_refl _) M FrP.rf (by omega) (fun k _ _ => by omega) (fun k _ => rfl)
end Mm
