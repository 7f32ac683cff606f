/-! ===== the reference: least cost, pair by pair; both sides alike ===== -/
section Ss3
variable {G : GT} {K : List Value → Mem → Prop} {X : String → Mem → Prop} {M : Mem} {L : LFn} {pr n : Int}
theorem m_leastCost (hR : RG (M 8 0 1) L) (ht : WFt L) (hm : WFm L) (hpi : I32 pr) (kx : ¬ (0 ≤ pr ∧ pr ≤ 1000) → K [iv 0] (wr M 8 0 0 7 1))
    (k : 0 ≤ pr ∧ pr ≤ 1000 → ∀ M' W, FrX PLC (wr M 8 0 0 7 0) M' → OPT (wLC L pr) (L 6 4) W → K [iv (pr * actv L - W)] M') : Call G 5 0 zX12_leastCost [rr G 8 0 0, iv pr] M K X := by
  have nt := ht.1
  have hdep : ∀ b, 0 ≤ b → b < L 6 4 → 0 ≤ L 9 b ∧ L 9 b ≤ 1439 := fun b b0 b1 => by have := ht.2 b b0 b1; omega
  have harr : ∀ a, 0 ≤ a → a < L 6 4 → 1 ≤ arr L a ∧ arr L a ≤ 1538 := fun a a0 a1 => (arr_bd hm ht a0 a1).2.2
  refine bX12_leastCost (m_in hpi (i32 (by omega)) (i32 (by omega)) (kI_mk ⟨b2i_i32 _, fun z => kx (b2i_0.mp z), fun z => ?_⟩))
  have hp : 0 ≤ pr ∧ pr ≤ 1000 := Classical.byContradiction fun u => z (b2i_0.mpr u)
  have k' := k hp
  have hR0 : RG (wr M 8 0 0 7 0 8 0 1) L := by rw [wr_nc (by omega)]; exact hR
  generalize wr M 8 0 0 7 0 = M0 at k' hR0 ⊢
  have e37 : M0 8 0 1 37 = L 6 4 := hR0.2.2.2.1
  have ways := fun (N : Mem) (K : List Value → Mem → Prop) (X : String → Mem → Prop) => @m_waysBy G K X N L pr
  have turn := fun (N : Mem) (K : List Value → Mem → Prop) (X : String → Mem → Prop) => @m_turnsWay G K X N L pr (L 6 4)
  generalize hn : L 6 4 = n at *
  have gl : ∀ N : Mem, FrX PLC M0 N → RG (N 8 0 1) L ∧ N 8 0 1 37 = n := fun N fN => by
    have eg : N 8 0 1 = M0 8 0 1 := fN.row (fun k => by show ¬ (_ ∨ _); omega)
    rw [eg]
    exact ⟨hR0, e37⟩
  -- pair by pair
  have main : ∀ j : Nat, ∀ (N : Mem) (y z : Int → Int) (lam W f : Int), FrX PLC M0 N → Mat L n (N 8 0 14) (N 8 0 18) → DU L pr n (N 8 0 14) (N 8 0 18) y z lam → sumT (fun b => if N 8 0 14 b = -1 then 0 else - pcL L pr (N 8 0 14 b) b) 0 n = W → sumT (fun b => if N 8 0 14 b = -1 then 1 else 0) 0 n = f → f ≤ j →
      eX12_leastCost G K X 71 [(0, rr G 8 0 0), (1, iv pr), (2, iv (pr * actv L - W)), (3, iv 1)] [] N := by
    -- one round, with what follows a turned way
    have round : ∀ (N : Mem) (y z : Int → Int) (lam W f : Int), FrX PLC M0 N → Mat L n (N 8 0 14) (N 8 0 18) → DU L pr n (N 8 0 14) (N 8 0 18) y z lam → sumT (fun b => if N 8 0 14 b = -1 then 0 else - pcL L pr (N 8 0 14 b) b) 0 n = W → sumT (fun b => if N 8 0 14 b = -1 then 1 else 0) 0 n = f →
        (∀ (N2 : Mem) (y z : Int → Int) (lam W2 : Int), FrX PLC M0 N2 → Mat L n (N2 8 0 14) (N2 8 0 18) → DU L pr n (N2 8 0 14) (N2 8 0 18) y z lam → sumT (fun b => if N2 8 0 14 b = -1 then 0 else - pcL L pr (N2 8 0 14 b) b) 0 n = W2 → sumT (fun b => if N2 8 0 14 b = -1 then 1 else 0) 0 n = f - 1 → eX12_leastCost G K X 71 [(0, rr G 8 0 0), (1, iv pr), (2, iv (pr * actv L - W2)), (3, iv 1)] [] N2) →
        eX12_leastCost G K X 71 [(0, rr G 8 0 0), (1, iv pr), (2, iv (pr * actv L - W)), (3, iv 1)] [] N := by
      intro N y z lam W f fN hA hD hS hf go
      refine bX12_leastCost_71 ⟨i32 (by omega), fun w => by omega, fun _ => ways N _ _ (gl N fN).1 ht hm hp.1 hp.2 hA (fun N1 d f1 hW h1 => kV_mk ?_)⟩
      have fN1 : FrX PLC M0 N1 := fN.tr (f1.mono (fun c k h => by rcases h with h | h | h <;> (show _ ∨ _; omega)))
      have e14 : N1 8 0 14 = N 8 0 14 := f1.row (fun k => by show ¬ (_ ∨ _); omega)
      have e18 : N1 8 0 18 = N 8 0 18 := f1.row (fun k => by show ¬ (_ ∨ _); omega)
      rw [← e14, ← e18] at hW hA hD
      rw [← e18] at h1
      have qr : ∀ b, 0 ≤ b → b < n → I32 (N1 8 0 20 b) := fun b b0 b1 => by
        have := hW.2.1 b b0 b1
        have := hdep b b0 b1
        exact i32 (by omega)
      have fin := loop_up (E := fun b => 0 ≤ b → ∀ v : Int, ((v = -1 ∧ ∀ x, 0 ≤ x → x < b → N1 8 0 14 x = -1 → ¬ N1 8 0 20 x < 0) ∨ (0 ≤ v ∧ v < b ∧ N1 8 0 14 v = -1 ∧ N1 8 0 20 v < 0 ∧ ∀ x, 0 ≤ x → x < b → N1 8 0 14 x = -1 → N1 8 0 20 v ≤ N1 8 0 20 x)) →
          eX12_leastCost G K X 86 [(0, rr G 8 0 0), (1, iv pr), (2, iv (pr * actv L - W)), (4, iv v), (5, iv b)] [] N1) (a := 0) (b := n) nt.1 (fun _ v hv => by
        refine bX12_leastCost_86 ⟨i32 (by omega), by rw [(gl N1 fN1).2]; exact i32 (by omega), fun _ => ⟨i32 (by rcases hv with w | w <;> omega), fun w => ?_, fun w => ?_⟩, fun z => absurd z (by rw [(gl N1 fN1).2]; omega)⟩
        · have hv1 : ∀ x, 0 ≤ x → x < n → N1 8 0 14 x = -1 → ¬ N1 8 0 20 x < 0 := by
            rcases hv with u | u
            · exact u.2
            · omega
          have hD2 := du_next (lam' := 0) (fun b b0 b1 => (hdep b b0 b1).2) hp.1 hA hW h1 hD (Int.le_refl _) hD.1 (fun b b0 b1 hb => by have := hv1 b b0 b1 hb; omega)
          exact bX12_leastCost_71 ⟨i32 (by omega), fun _ => k' N1 W fN1 (du_opt nt.1 hA hD2 (by rw [e14]; exact hS)), fun u => absurd rfl u⟩
        · obtain ⟨v0, v1, v2, v3, v4⟩ : 0 ≤ v ∧ v < n ∧ N1 8 0 14 v = -1 ∧ N1 8 0 20 v < 0 ∧ ∀ x, 0 ≤ x → x < n → N1 8 0 14 x = -1 → N1 8 0 20 v ≤ N1 8 0 20 x := by
            rcases hv with u | u
            · omega
            · exact u
          have qn : N1 8 0 20 v ≠ 1000000 := by omega
          have low := (wi_low hA hW h1 hD).1 v v0 v1 qn
          have zv := hD.2.2.2.2.2 v v0 v1 v2
          have hD2 := du_next (lam' := - N1 8 0 20 v) (fun b b0 b1 => (hdep b b0 b1).2) hp.1 hA hW h1 hD (by omega) (by omega) (fun b b0 b1 hb => by have := v4 b b0 b1 hb; omega)
          have hS9 : sumT (fun b => if N1 8 0 14 b = -1 then 0 else - pcL L pr (N1 8 0 14 b) b) 0 n = W := by rw [e14]; exact hS
          have hf9 : sumT (fun b => if N1 8 0 14 b = -1 then 1 else 0) 0 n = f := by rw [e14]; exact hf
          refine ⟨v0, by omega, turn N1 _ _ ht rfl ⟨rfl, rfl, rfl⟩ hA hW h1 hD hD2 v0 v1 v2 qn rfl hS9 hf9 (fun N2 f2 hA2 hD3 hS2 hf2 => kV_mk ?_)⟩
          have fN2 : FrX PLC M0 N2 := fN1.tr (f2.mono (fun c k h => by rcases h with h | h <;> (show _ ∨ _; omega)))
          have := go N2 _ _ _ (W - N1 8 0 20 v) fN2 hA2 hD3 hS2 hf2
          rw [show pr * actv L - (W - N1 8 0 20 v) = pr * actv L - W + N1 8 0 20 v by omega] at this
          exact this) (fun b b0 b1 hn9 _ v hv => by
        have mb := hA.1 b b0 b1
        have qb := qr b b0 b1
        refine bX12_leastCost_86 ⟨i32 (by omega), by rw [(gl N1 fN1).2]; exact i32 (by omega), fun z => absurd b1 (by rw [(gl N1 fN1).2] at z; exact z), fun _ => ⟨b0, by omega, i32 (by omega), fun w => ?_, fun w => ⟨qb, fun u => ?_, fun u => ⟨i32 (by rcases hv with w | w <;> omega), fun r => ?_, fun r => ?_⟩⟩⟩⟩
        · refine hn9 (by omega) v ?_
          rcases hv with r | r
          · exact Or.inl ⟨r.1, fun x x0 x1 hx => r.2 x x0 (by by_cases h : x = b; rw [h] at hx; omega; omega) hx⟩
          · exact Or.inr ⟨r.1, by omega, r.2.2.1, r.2.2.2.1, fun x x0 x1 hx => r.2.2.2.2 x x0 (by by_cases h : x = b; rw [h] at hx; omega; omega) hx⟩
        · refine hn9 (by omega) v ?_
          rcases hv with r | r
          · refine Or.inl ⟨r.1, fun x x0 x1 hx => ?_⟩
            by_cases h : x = b
            · rw [h]; exact u
            · exact r.2 x x0 (by omega) hx
          · refine Or.inr ⟨r.1, by omega, r.2.2.1, r.2.2.2.1, fun x x0 x1 hx => ?_⟩
            by_cases h : x = b
            · rw [h]; omega
            · exact r.2.2.2.2 x x0 (by omega) hx
        · have hv1 : v = -1 ∧ ∀ x, 0 ≤ x → x < b → N1 8 0 14 x = -1 → ¬ N1 8 0 20 x < 0 := by
            rcases hv with u | u
            · exact u
            · omega
          refine hn9 (by omega) b (Or.inr ⟨b0, by omega, by omega, u, fun x x0 x1 hx => ?_⟩)
          by_cases h : x = b
          · rw [h]; exact Int.le_refl _
          · have := hv1.2 x x0 (by omega) hx; omega
        · obtain ⟨v0, v1, v2, v3, v4⟩ : 0 ≤ v ∧ v < b ∧ N1 8 0 14 v = -1 ∧ N1 8 0 20 v < 0 ∧ ∀ x, 0 ≤ x → x < b → N1 8 0 14 x = -1 → N1 8 0 20 v ≤ N1 8 0 20 x := by
            rcases hv with u | u
            · omega
            · exact u
          refine ⟨v0, by omega, qr v v0 (by omega), fun s => hn9 (by omega) v (Or.inr ⟨v0, by omega, v2, v3, fun x x0 x1 hx => ?_⟩), fun s => hn9 (by omega) b (Or.inr ⟨b0, by omega, by omega, u, fun x x0 x1 hx => ?_⟩)⟩
          · by_cases h : x = b
            · rw [h]; omega
            · exact v4 x x0 (by omega) hx
          · by_cases h : x = b
            · rw [h]; exact Int.le_refl _
            · have := v4 x x0 (by omega) hx; omega)
      exact fin (Int.le_refl _) (-1) (Or.inl ⟨rfl, fun x x0 x1 => by omega⟩)
    have fnn : ∀ A : Int → Int, 0 ≤ sumT (fun b => if A b = -1 then (1 : Int) else 0) 0 n := fun A => sumT_nn nt.1 (fun b _ _ => by show (0 : Int) ≤ (if A b = -1 then 1 else 0); split <;> decide)
    intro j
    induction j with
    | zero =>
      intro N y z lam W f fN hA hD hS hf hj
      refine round N y z lam W f fN hA hD hS hf (fun N2 y2 z2 lam2 W2 f2 hA2 hD2 hS2 hf2 => ?_)
      have := fnn (N2 8 0 14)
      omega
    | succ j ih =>
      intro N y z lam W f fN hA hD hS hf hj
      exact round N y z lam W f fN hA hD hS hf (fun N2 y2 z2 lam2 W2 f2 hA2 hD2 hS2 hf2 => ih N2 y2 z2 lam2 W2 (f - 1) f2 hA2 hD2 hS2 hf2 (by omega))
  have init := loop_up (E := fun t => 0 ≤ t → ∀ N : Mem, FrX PLC M0 N → (∀ x, 0 ≤ x → x < t → N 8 0 14 x = -1 ∧ N 8 0 18 x = -1) → eX12_leastCost G K X 31 [(0, rr G 8 0 0), (1, iv pr), (2, iv t)] [] N) (a := 0) (b := n) nt.1 (fun _ N fN zN => by
    refine bX12_leastCost_31 ⟨i32 (by omega), by rw [(gl N fN).2]; exact i32 (by omega), fun _ => m_active (gl N fN).1 ht (kI_mk ?_), fun z => absurd z (by rw [(gl N fN).2]; omega)⟩
    have h := main (sumT (fun b => if N 8 0 14 b = -1 then 1 else 0) 0 n).toNat N (fun _ => 0) (fun _ => 0) 1000 0 _ fN ⟨fun b b0 b1 => Or.inl (zN b b0 b1).1, fun a a0 a1 => Or.inl (zN a a0 a1).2⟩ ⟨by omega, fun _ _ _ => ⟨Int.le_refl _, Int.le_refl _⟩, fun a b a0 a1 b0 b1 hl => ?_, fun b b0 b1 hb => absurd (zN b b0 b1).1 hb, fun _ _ _ _ => rfl, fun _ _ _ _ => rfl⟩ (sumT_z nt.1 (fun b b0 b1 => if_pos (zN b b0 b1).1)) rfl (by
      have := sumT_nn (f := fun b => if N 8 0 14 b = -1 then (1 : Int) else 0) nt.1 (fun b _ _ => by show (0 : Int) ≤ (if N 8 0 14 b = -1 then 1 else 0); split <;> decide)
      omega)
    · rw [show pr * actv L - 0 = pr * actv L by omega] at h
      exact h
    · have q := hl.2.2.2
      have q2 := hm.2.2.2.2
      show - pcL L pr a b ≤ 0 + 0 + 1000
      unfold pcL
      omega) (fun t t1 t2 hn9 _ N fN zN => by
    refine bX12_leastCost_31 ⟨i32 (by omega), by rw [(gl N fN).2]; exact i32 (by omega), fun z => absurd t2 (by rw [(gl N fN).2] at z; exact z), fun _ => ⟨t1, by omega, hn9 (by omega) _ ((fN.wr (Or.inl rfl) _).wr (Or.inr (Or.inl rfl)) _) (fun x x0 x1 => ?_)⟩⟩
    rw [wr_nc (c := 18) (c' := 14) (by omega)]
    by_cases hx : x = t
    · rw [hx, wr_at, wr_at]; exact ⟨rfl, rfl⟩
    · rw [wr_nk hx, wr_nk hx, wr_nc (by omega)]; exact zN x x0 (by omega))
  exact init (Int.le_refl _) M0 FrX.rf (fun x x0 x1 => by omega)
/-- the two sides have the same number -/
theorem mp_same {x W : Int} (hn : 0 ≤ L 6 4) (h : LV (fun r c => - wMP L (r - 1) (c - 1)) (L 6 4) x) (o : OPT (wMP L) (L 6 4) W) : x = -W :=
  lv_opt hn h o (fun a b _ _ _ _ => by rw [show a + 1 - 1 = a by omega, show b + 1 - 1 = b by omega])
theorem lc_same {x W : Int} (hn : 0 ≤ L 6 4) (h : LV (fun r c => - wLC L pr (r - 1) (c - 1)) (L 6 4) x) (o : OPT (wLC L pr) (L 6 4) W) : x = -W :=
  lv_opt hn h o (fun a b _ _ _ _ => by rw [show a + 1 - 1 = a by omega, show b + 1 - 1 = b by omega])
end Ss3
