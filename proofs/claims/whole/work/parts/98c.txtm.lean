/-! ===== the reference reads a text ===== -/
abbrev PN9 (c k : Int) : Prop := c = 0 ∧ (k = 34 ∨ k = 35)
abbrev PX9 (c k : Int) : Prop := c = 23 ∨ (c = 0 ∧ (k = 34 ∨ k = 35 ∨ k = 38))
def Sgn (sg : Int → Int) (ln : Int) : Prop := ∀ k, 0 ≤ k → k < ln → 0 ≤ sg k ∧ sg k ≤ 65535
def hereV (sg : Int → Int) (ln p : Int) : Int := if p < ln then sg p else -1
theorem hereV_i {sg : Int → Int} {ln p : Int} (hS : Sgn sg ln) (p0 : 0 ≤ p) : -1 ≤ hereV sg ln p ∧ hereV sg ln p ≤ 65535 := by
  unfold hereV
  split
  · have := hS p p0 (by assumption); omega
  · omega
theorem hereV_dig {sg : Int → Int} {ln p : Int} : (48 ≤ hereV sg ln p ∧ hereV sg ln p ≤ 57) ↔ (p < ln ∧ dig (sg p)) := by
  unfold hereV
  by_cases h : p < ln
  · rw [if_pos h]; exact ⟨fun z => ⟨h, z⟩, fun z => z.2⟩
  · rw [if_neg h]; exact ⟨fun z => absurd z.1 (by omega), fun z => absurd z.1 h⟩
theorem hereV_ski {sg : Int → Int} {ln p c : Int} (hc : 0 ≤ c) : hereV sg ln p = c ↔ ski sg ln c p := by
  unfold hereV
  by_cases h : p < ln
  · rw [if_pos h]; exact ⟨fun z => ⟨h, z⟩, fun z => z.2⟩
  · rw [if_neg h]; exact ⟨fun z => absurd z (by omega), fun z => absurd z.1 h⟩
theorem TxM_fr {M M' : Mem} {sg : Int → Int} {ln : Int} (h : TxM M sg ln) (f : FrX PX9 M M') : TxM M' sg ln := by
  obtain ⟨t1, t2, t3⟩ := h
  refine ⟨t1, (frx_at f (by show ¬ (_ ∨ _); omega)).trans t2, fun k k0 k1 => ?_⟩
  rw [frx_row f (c := 22) (fun k => by show ¬ (_ ∨ _); omega)]
  exact t3 k k0 k1
theorem px_of {M M' : Mem} (f : FrX PN9 M M') : FrX PX9 M M' := f.mono (fun c k h => by
  rcases h with ⟨h1, h2 | h2⟩
  · exact Or.inr ⟨h1, Or.inl h2⟩
  · exact Or.inr ⟨h1, Or.inr (Or.inl h2)⟩)
section Tm
variable {G : GT} {K : List Value → Mem → Prop} {X : String → Mem → Prop} {M : Mem} {sg : Int → Int} {ln p : Int}
theorem m_here (hT : TxM M sg ln) (hp : M 8 0 0 34 = p) (p0 : 0 ≤ p) (p1 : p ≤ ln) (k : K [iv (hereV sg ln p)] M) : Call G 0 0 zX12_here [rr G 8 0 0] M K X := by
  obtain ⟨t1, t2, t3⟩ := hT
  refine bX12_here ?_
  rw [hp, t2]
  unfold hereV at k
  refine ⟨i32 (by omega), i32 (by omega), fun z => ?_, fun z => ⟨p0, by omega, ?_⟩⟩
  · rw [if_neg z] at k; exact k
  · rw [if_pos z] at k; rw [t3 p p0 z]; exact k
theorem m_number (hT : TxM M sg ln) (hS : Sgn sg ln) (hp : M 8 0 0 34 = p) (p0 : 0 ≤ p) (p1 : p ≤ ln) {mx : Int} (hm0 : 9 ≤ mx) (hm1 : mx ≤ 100000) (k0 : ¬ (p < ln ∧ dig (sg p)) → K [iv 0] M)
    (k1 : (p < ln ∧ dig (sg p)) → ∀ M', FrX PN9 M M' → M' 8 0 0 34 = (num sg ln mx p).2 → ((num sg ln mx p).1 ≠ -1 → M' 8 0 0 35 = (num sg ln mx p).1) → ((num sg ln mx p).1 = -1 → (num sg ln mx p).2 < ln ∧ dig (sg (num sg ln mx p).2)) → K [iv 1] M') : Call G 1 0 zX12_number [rr G 8 0 0, iv mx] M K X := by
  have hl := hT.1
  have gen : (p < ln ∧ dig (sg p)) → ∀ n : Nat, ∀ v q : Int, ∀ N : Mem, FrX PN9 M N → N 8 0 0 34 = q → N 8 0 0 35 = v → 0 ≤ v → v ≤ mx → 0 ≤ q → q ≤ ln → ln - q ≤ n → num sg ln mx p = numN sg ln mx n v q → eX12_number G K X 37 [(0, rr G 8 0 0), (1, iv mx)] [] N := by
    intro hd n
    induction n with
    | zero =>
      intro v q N fN e34 e35 v0 v1 q0 q1 hq hR
      have hT' := TxM_fr hT (px_of fN)
      have hR' : num sg ln mx p = (v, q) := hR
      have hh := hereV_i hS q0
      have fin : K [iv 1] N := k1 hd N fN (by rw [hR', e34]) (fun _ => by rw [hR', e35]) (fun z => by rw [hR'] at z; have z' : v = -1 := z; omega)
      refine bX12_number_37 ?_
      rw [e35]
      refine ⟨i32 (by omega), fun _ => fin, fun _ => m_here hT' e34 q0 q1 (kI_mk (m_in (i32 (by omega)) (i32 (by omega)) (i32 (by omega)) (kI_mk ⟨b2i_i32 _, fun _ => fin, fun z => ?_⟩)))⟩
      have z' := Classical.byContradiction fun w => z (b2i_0.mpr w)
      have := (hereV_dig.mp z').1
      omega
    | succ n ih =>
      intro v q N fN e34 e35 v0 v1 q0 q1 hq hR
      have hT' := TxM_fr hT (px_of fN)
      have hh := hereV_i hS q0
      simp only [numN] at hR
      have fin : num sg ln mx p = (v, q) → K [iv 1] N := fun hR' => k1 hd N fN (by rw [hR', e34]) (fun _ => by rw [hR', e35]) (fun z => by rw [hR'] at z; have z' : v = -1 := z; omega)
      refine bX12_number_37 ?_
      rw [e35]
      refine ⟨i32 (by omega), fun z => fin (by rw [if_neg (fun w => z w.1)] at hR; exact hR), fun z => m_here hT' e34 q0 q1 (kI_mk (m_in (i32 (by omega)) (i32 (by omega)) (i32 (by omega)) (kI_mk ⟨b2i_i32 _, fun y => ?_, fun y => ?_⟩)))⟩
      · have y' := b2i_0.mp y
        exact fin (by rw [if_neg (fun w => y' (hereV_dig.mpr w.2))] at hR; exact hR)
      · have y' := Classical.byContradiction fun w => y (b2i_0.mpr w)
        obtain ⟨y1, y2⟩ := hereV_dig.mp y'
        rw [if_pos ⟨z, y1, y2⟩] at hR
        have eh : hereV sg ln q = sg q := if_pos y1
        refine m_here hT' e34 q0 q1 (kI_mk ?_)
        rw [e35, eh]
        refine ⟨i32 (by omega), i32 (by omega), fun u => ?_, fun u => m_here hT' e34 q0 q1 (kI_mk (fun M35 e35' => ?_))⟩
        · rw [if_pos u] at hR
          exact k1 hd N fN (by rw [hR, e34]) (fun w => absurd (by rw [hR]) w) (fun _ => by rw [hR]; exact ⟨y1, y2⟩)
        · rw [if_neg u] at hR
          rw [e34, eh] at e35'
          refine ih (10 * v + sg q - 48) (q + 1) M35 ?_ ?_ ?_ (by omega) (by omega) (by omega) (by omega) (by omega) hR
          · rw [e35']
            exact FrX.wr (FrX.wr fN (show PN9 0 35 from ⟨rfl, Or.inr rfl⟩) _) (show PN9 0 34 from ⟨rfl, Or.inl rfl⟩) _
          · rw [e35', wr_at]
          · rw [e35', wr_nk (by omega), wr_at]
  have hh := hereV_i hS p0
  refine bX12_number (m_here hT hp p0 p1 (kI_mk (m_in (i32 (by omega)) (i32 (by omega)) (i32 (by omega)) (kI_mk ⟨b2i_i32 _, fun y => ?_, fun y => ?_⟩))))
  · have y' := Classical.byContradiction fun w => y (b2i_0.mpr w)
    have hd := hereV_dig.mp y'
    have eh : hereV sg ln p = sg p := if_pos hd.1
    refine m_here hT hp p0 p1 (kI_mk (fun M16 e16 => ?_))
    rw [hp, eh] at e16
    have hd2 := hd.2
    refine gen hd (ln - p).toNat (sg p - 48) (p + 1) M16 ?_ ?_ ?_ (by omega) (by omega) (by omega) (by omega) (by omega) (if_pos hd)
    · rw [e16]
      exact FrX.wr (FrX.wr FrX.rf (show PN9 0 35 from ⟨rfl, Or.inr rfl⟩) _) (show PN9 0 34 from ⟨rfl, Or.inl rfl⟩) _
    · rw [e16, wr_at]
    · rw [e16, wr_nk (by omega), wr_at]
  · exact k0 (fun w => (b2i_0.mp y) (hereV_dig.mpr w))
theorem m_skips (hT : TxM M sg ln) (hS : Sgn sg ln) (hp : M 8 0 0 34 = p) (p0 : 0 ≤ p) (p1 : p ≤ ln) {c : Int} (hc : I32 c) (c0 : 0 ≤ c) (k : K [iv (b2i (ski sg ln c p))] (wr M 8 0 0 34 (if ski sg ln c p then p + 1 else p))) : Call G 1 0 zX12_skips [rr G 8 0 0, iv c] M K X := by
  have hh := hereV_i hS p0
  refine bX12_skips (m_here hT hp p0 p1 (kI_mk ⟨i32 (by omega), hc, fun z => ?_, fun z => ?_⟩))
  · have z' := (hereV_ski c0).mp z
    rw [b2i_t z', if_pos z'] at k
    rw [hp]
    exact k
  · have z' : ¬ ski sg ln c p := fun w => z ((hereV_ski c0).mpr w)
    rw [b2i_f z', if_neg z', wr_same _ _ _ _ _ _ hp] at k
    exact k
theorem not_sep {sg : Int → Int} {q c : Int} (h : dig (sg q)) (hc : c < 48 ∨ 57 < c) : ¬ ski sg ln c q := fun z => by
  have h1 := h.1
  have h2 := h.2
  have := z.2
  omega
theorem m_tripHere (hT : TxM M sg ln) (hS : Sgn sg ln) (hp : M 8 0 0 34 = p) (p0 : 0 ≤ p) (p1 : p ≤ ln) {n : Int} (hn : M 8 0 0 38 = n) (n0 : 0 ≤ n) (n1 : n ≤ 9)
    (k0 : (trp sg ln p).1 = 0 → ∀ M', FrX PX9 M M' → M' 8 0 0 34 = (trp sg ln p).2.1 → K [iv 0] M')
    (k1 : (trp sg ln p).1 = 1 → ∀ M', FrX PX9 M M' → M' 8 0 0 34 = (trp sg ln p).2.1 → M' 8 0 0 38 = n + 1 → (∀ y, y < 3 * n → M' 8 0 23 y = M 8 0 23 y) → M' 8 0 23 (3 * n) = (trp sg ln p).2.2.1 → M' 8 0 23 (3 * n + 1) = (trp sg ln p).2.2.2.1 → M' 8 0 23 (3 * n + 2) = (trp sg ln p).2.2.2.2 → K [iv 1] M') : Call G 2 0 zX12_tripHere [rr G 8 0 0] M K X := by
  unfold trp at k0 k1
  have b1 := num_bd sg (ln := ln) (mx := 11) (by omega) p0 p1
  have w23 : ∀ {N : Mem} (y v : Int), FrX PX9 M N → FrX PX9 M (wr N 8 0 23 y v) := fun y v f => FrX.wr f (show PX9 23 y from Or.inl rfl) v
  have w34 : ∀ {N : Mem} (v : Int), FrX PX9 M N → FrX PX9 M (wr N 8 0 0 34 v) := fun v f => FrX.wr f (show PX9 0 34 from Or.inr ⟨rfl, Or.inl rfl⟩) v
  have w38 : ∀ {N : Mem} (v : Int), FrX PX9 M N → FrX PX9 M (wr N 8 0 0 38 v) := fun v f => FrX.wr f (show PX9 0 38 from Or.inr ⟨rfl, Or.inr (Or.inr rfl)⟩) v
  have o38 : ∀ {A B : Mem}, FrX PN9 A B → B 8 0 0 38 = A 8 0 0 38 := fun f => frx_at f (by show ¬ (_ ∧ _); omega)
  have o23 : ∀ {A B : Mem}, FrX PN9 A B → B 8 0 23 = A 8 0 23 := fun f => frx_row f (fun k => by show ¬ (_ ∧ _); omega)
  refine bX12_tripHere (m_number hT hS hp p0 p1 (by omega) (by omega) (fun z => kI_mk ⟨i32 (by omega), fun y => absurd rfl y, fun _ => ?_⟩) (fun z N1 f1 s1 v1 w1 => kI_mk ⟨i32 (by omega), fun _ => ?_, fun y => absurd y (by decide)⟩))
  · have e : num sg ln 11 p = (-1, p) := if_neg z
    rw [e, if_pos rfl] at k0
    exact k0 rfl M FrX.rf hp
  generalize num sg ln 11 p = r1 at *
  rw [o38 f1, hn]
  have g1 : FrX PX9 M (wr N1 8 0 23 (3 * n) (N1 8 0 0 35)) := w23 _ _ (px_of f1)
  refine ⟨by omega, by omega, m_skips (TxM_fr hT g1) hS (by rw [wr_nc (by omega)]; exact s1) (by omega) b1.2.2 (i32 (by omega)) (by omega) (kI_mk ⟨b2i_i32 _, fun y => ?_, fun y => ?_⟩)⟩
  · have y' := b2i_0.mp y
    rw [if_neg y']
    by_cases h : r1.1 = -1
    · rw [if_pos h] at k0
      exact k0 rfl _ (w34 _ g1) (wr_at _ _ _ _ _ _)
    · rw [if_neg h, if_pos y'] at k0
      exact k0 rfl _ (w34 _ g1) (wr_at _ _ _ _ _ _)
  have y' : ski sg ln 45 r1.2 := Classical.byContradiction fun w => y (b2i_0.mpr w)
  have h1 : r1.1 ≠ -1 := fun z => not_sep (w1 z).2 (Or.inl (by omega)) y'
  rw [if_neg h1, if_neg (fun w => w y')] at k0 k1
  rw [if_pos y']
  have u1 := y'.1
  obtain ⟨N2, hN2⟩ : ∃ N2, N2 = wr (wr N1 8 0 23 (3 * n) (N1 8 0 0 35)) 8 0 0 34 (r1.2 + 1) := ⟨_, rfl⟩
  rw [← hN2]
  have g2 : FrX PX9 M N2 := by rw [hN2]; exact w34 _ g1
  have s2 : N2 8 0 0 34 = r1.2 + 1 := by rw [hN2, wr_at]
  have n2 : N2 8 0 0 38 = n := by rw [hN2, wr_nk (by omega), wr_nc (by omega), o38 f1, hn]
  have t2 : N2 8 0 23 (3 * n) = r1.1 := by rw [hN2, wr_nc (by omega), wr_at]; exact v1 h1
  have q2 : ∀ y, y < 3 * n → N2 8 0 23 y = M 8 0 23 y := fun y hy => by rw [hN2, wr_nc (by omega), wr_nk (by omega), o23 f1]
  clear hN2 g1 v1 w1 s1
  have b2 := num_bd sg (ln := ln) (mx := 11) (p := r1.2 + 1) (by omega) (by omega) (by omega)
  refine m_number (TxM_fr hT g2) hS s2 (by omega) (by omega) (by omega) (by omega) (fun z => kI_mk ⟨i32 (by omega), fun y => absurd rfl y, fun _ => ?_⟩) (fun z N3 f3 s3 v3 w3 => kI_mk ⟨i32 (by omega), fun _ => ?_, fun y => absurd y (by decide)⟩)
  · have e : num sg ln 11 (r1.2 + 1) = (-1, r1.2 + 1) := if_neg z
    rw [e, if_pos rfl] at k0
    exact k0 rfl N2 g2 s2
  generalize num sg ln 11 (r1.2 + 1) = r2 at *
  rw [o38 f3, n2]
  have g3 : FrX PX9 M (wr N3 8 0 23 (3 * n + 1) (N3 8 0 0 35)) := w23 _ _ (g2.tr (px_of f3))
  refine ⟨by omega, by omega, m_skips (TxM_fr hT g3) hS (by rw [wr_nc (by omega)]; exact s3) (by omega) b2.2.2 (i32 (by omega)) (by omega) (kI_mk ⟨b2i_i32 _, fun y2 => ?_, fun y2 => ?_⟩)⟩
  · have y2' := b2i_0.mp y2
    rw [if_neg y2']
    by_cases h : r2.1 = -1
    · rw [if_pos h] at k0
      exact k0 rfl _ (w34 _ g3) (wr_at _ _ _ _ _ _)
    · rw [if_neg h, if_pos y2'] at k0
      exact k0 rfl _ (w34 _ g3) (wr_at _ _ _ _ _ _)
  have y2' : ski sg ln 64 r2.2 := Classical.byContradiction fun w => y2 (b2i_0.mpr w)
  have h2 : r2.1 ≠ -1 := fun z => not_sep (w3 z).2 (Or.inr (by omega)) y2'
  rw [if_neg h2, if_neg (fun w => w y2')] at k0 k1
  rw [if_pos y2']
  have u2 := y2'.1
  obtain ⟨N4, hN4⟩ : ∃ N4, N4 = wr (wr N3 8 0 23 (3 * n + 1) (N3 8 0 0 35)) 8 0 0 34 (r2.2 + 1) := ⟨_, rfl⟩
  rw [← hN4]
  have g4 : FrX PX9 M N4 := by rw [hN4]; exact w34 _ g3
  have s4 : N4 8 0 0 34 = r2.2 + 1 := by rw [hN4, wr_at]
  have n4 : N4 8 0 0 38 = n := by rw [hN4, wr_nk (by omega), wr_nc (by omega), o38 f3, n2]
  have t4 : N4 8 0 23 (3 * n) = r1.1 := by rw [hN4, wr_nc (by omega), wr_nk (by omega), o23 f3]; exact t2
  have t4' : N4 8 0 23 (3 * n + 1) = r2.1 := by rw [hN4, wr_nc (by omega), wr_at]; exact v3 h2
  have q4 : ∀ y, y < 3 * n → N4 8 0 23 y = M 8 0 23 y := fun y hy => by rw [hN4, wr_nc (by omega), wr_nk (by omega), o23 f3]; exact q2 y hy
  clear hN4 g3 v3 w3 s3
  have b3 := num_bd sg (ln := ln) (mx := 1439) (p := r2.2 + 1) (by omega) (by omega) (by omega)
  refine m_number (TxM_fr hT g4) hS s4 (by omega) (by omega) (by omega) (by omega) (fun z => kI_mk ⟨i32 (by omega), fun y => absurd rfl y, fun _ => ?_⟩) (fun z N5 f5 s5 v5 w5 => kI_mk ⟨i32 (by omega), fun _ => ?_, fun y => absurd y (by decide)⟩)
  · have e : num sg ln 1439 (r2.2 + 1) = (-1, r2.2 + 1) := if_neg z
    rw [e, if_pos rfl] at k0
    exact k0 rfl N4 g4 s4
  generalize num sg ln 1439 (r2.2 + 1) = r3 at *
  rw [o38 f5, n4]
  refine ⟨by omega, by omega, fun N6 e6 => ?_⟩
  have g6 : FrX PX9 M N6 := by rw [e6]; exact w38 _ (w23 _ _ (g4.tr (px_of f5)))
  have s6 : N6 8 0 0 34 = r3.2 := by rw [e6, wr_nk (by omega), wr_nc (by omega)]; exact s5
  refine m_skips (TxM_fr hT g6) hS s6 (by omega) b3.2.2 (i32 (by omega)) (by omega) (kI_mk ⟨b2i_01 _, ?_⟩)
  by_cases y3 : ski sg ln 59 r3.2
  · have h3 : r3.1 ≠ -1 := fun z => not_sep (w5 z).2 (Or.inr (by omega)) y3
    rw [if_neg h3, if_neg (fun w => w y3)] at k1
    rw [b2i_t y3, if_pos y3]
    refine k1 rfl _ (w34 _ g6) (wr_at _ _ _ _ _ _) ?_ (fun y hy => ?_) ?_ ?_ ?_
    · rw [wr_nk (by omega), e6, wr_at]
    · rw [wr_nc (by omega), e6, wr_nc (by omega), wr_nk (by omega), o23 f5]; exact q4 y hy
    · rw [wr_nc (by omega), e6, wr_nc (by omega), wr_nk (by omega), o23 f5]; exact t4
    · rw [wr_nc (by omega), e6, wr_nc (by omega), wr_nk (by omega), o23 f5]; exact t4'
    · rw [wr_nc (by omega), e6, wr_nc (by omega), wr_at]; exact v5 h3
  · rw [b2i_f y3, if_neg y3]
    by_cases h : r3.1 = -1
    · rw [if_pos h] at k0
      exact k0 rfl _ (w34 _ g6) (wr_at _ _ _ _ _ _)
    · rw [if_neg h, if_pos y3] at k0
      exact k0 rfl _ (w34 _ g6) (wr_at _ _ _ _ _ _)
/-- what the reference was told: the first n trips as F -/
def ToldM (M : Mem) (F : T3) (n : Int) : Prop := ∀ x, 0 ≤ x → x < n → M 8 0 23 (3 * x) = F.1 x ∧ M 8 0 23 (3 * x + 1) = F.2.1 x ∧ M 8 0 23 (3 * x + 2) = F.2.2 x
theorem m_isText (F : T3) (hT : TxM M sg ln) (hS : Sgn sg ln)
    (k0 : (txtN sg ln 10 0 0 F).1 = 0 → ∀ M', FrX PX9 M M' → M' 8 0 0 34 = (txtN sg ln 10 0 0 F).2.2.1 → K [iv 0] M')
    (k1 : (txtN sg ln 10 0 0 F).1 = 1 → ∀ M', FrX PX9 M M' → M' 8 0 0 38 = (txtN sg ln 10 0 0 F).2.1 → ToldM M' (txtN sg ln 10 0 0 F).2.2.2 (txtN sg ln 10 0 0 F).2.1 → K [iv 1] M') : Call G 3 0 zX12_isText [rr G 8 0 0] M K X := by
  have hl := hT.1
  generalize hR : txtN sg ln 10 0 0 F = R at k0 k1
  have loop : ∀ m : Nat, m + 1 ≤ 10 → ∀ (N : Mem) (q : Int) (F' : T3), FrX PX9 M N → N 8 0 0 34 = q → N 8 0 0 38 = 9 - m → 6 * (9 - (m : Int)) ≤ q → q ≤ ln → ToldM N F' (9 - m) → R = txtN sg ln (m + 1) (9 - m) q F' → eX12_isText G K X 10 [(0, rr G 8 0 0)] [] N := by
    intro m
    induction m with
    | zero =>
      intro hm N q F' fN e34 e38 hq0 hq1 hF hR
      have tb := trp_bd sg (ln := ln) (p := q) (by omega) hq1
      simp only [txtN] at hR
      refine bX12_isText_10 (m_tripHere (TxM_fr hT fN) hS e34 (by omega) hq1 e38 (by omega) (by omega) (fun z N' f' s' => kI_mk ⟨i32 (by omega), fun y => absurd rfl y, fun _ => ?_⟩) (fun z N' f' s' c' o' a' b' d' => kI_mk ⟨i32 (by omega), fun _ => ?_, fun y => absurd y (by decide)⟩))
      · rw [if_pos z] at hR
        rw [hR] at k0
        exact k0 rfl N' (fN.tr f') s'
      · rw [if_neg (by omega)] at hR
        have h9 : ¬ (trp sg ln q).2.1 < ln := by
          rcases tb.2 with w | w
          · omega
          · omega
        rw [if_neg h9] at hR
        rw [s', (TxM_fr hT (fN.tr f')).2.1]
        refine ⟨i32 (by omega), i32 (by omega), fun y => absurd y h9, fun _ => ?_⟩
        rw [hR] at k1
        refine k1 rfl N' (fN.tr f') c' (fun x x0 x1 => ?_)
        have x1' : x < 9 - ((0 : Nat) : Int) + 1 := x1
        show N' 8 0 23 (3 * x) = upI F'.1 (9 - ((0 : Nat) : Int)) (trp sg ln q).2.2.1 x ∧ N' 8 0 23 (3 * x + 1) = upI F'.2.1 (9 - ((0 : Nat) : Int)) (trp sg ln q).2.2.2.1 x ∧ N' 8 0 23 (3 * x + 2) = upI F'.2.2 (9 - ((0 : Nat) : Int)) (trp sg ln q).2.2.2.2 x
        by_cases hx : x = 9 - ((0 : Nat) : Int)
        · rw [hx, upI_at, upI_at, upI_at]
          exact ⟨a', b', d'⟩
        · rw [upI_ne hx, upI_ne hx, upI_ne hx, o' _ (by omega), o' _ (by omega), o' _ (by omega)]
          exact hF x x0 (by omega)
    | succ m ih =>
      intro hm N q F' fN e34 e38 hq0 hq1 hF hR
      have tb := trp_bd sg (ln := ln) (p := q) (by omega) hq1
      rw [txtN] at hR
      refine bX12_isText_10 (m_tripHere (TxM_fr hT fN) hS e34 (by omega) hq1 e38 (by omega) (by omega) (fun z N' f' s' => kI_mk ⟨i32 (by omega), fun y => absurd rfl y, fun _ => ?_⟩) (fun z N' f' s' c' o' a' b' d' => kI_mk ⟨i32 (by omega), fun _ => ?_, fun y => absurd y (by decide)⟩))
      · rw [if_pos z] at hR
        rw [hR] at k0
        exact k0 rfl N' (fN.tr f') s'
      · rw [if_neg (by omega)] at hR
        have t9 : q + 6 ≤ (trp sg ln q).2.1 := by
          rcases tb.2 with w | w
          · omega
          · exact w.2.1
        have tol : ToldM N' (upI F'.1 (9 - ((m + 1 : Nat) : Int)) (trp sg ln q).2.2.1, upI F'.2.1 (9 - ((m + 1 : Nat) : Int)) (trp sg ln q).2.2.2.1, upI F'.2.2 (9 - ((m + 1 : Nat) : Int)) (trp sg ln q).2.2.2.2) (9 - ((m + 1 : Nat) : Int) + 1) := fun x x0 x1 => by
          show N' 8 0 23 (3 * x) = upI F'.1 (9 - ((m + 1 : Nat) : Int)) (trp sg ln q).2.2.1 x ∧ N' 8 0 23 (3 * x + 1) = upI F'.2.1 (9 - ((m + 1 : Nat) : Int)) (trp sg ln q).2.2.2.1 x ∧ N' 8 0 23 (3 * x + 2) = upI F'.2.2 (9 - ((m + 1 : Nat) : Int)) (trp sg ln q).2.2.2.2 x
          by_cases hx : x = 9 - ((m + 1 : Nat) : Int)
          · rw [hx, upI_at, upI_at, upI_at]
            exact ⟨a', b', d'⟩
          · rw [upI_ne hx, upI_ne hx, upI_ne hx, o' _ (by omega), o' _ (by omega), o' _ (by omega)]
            exact hF x x0 (by omega)
        rw [s', (TxM_fr hT (fN.tr f')).2.1]
        refine ⟨i32 (by omega), i32 (by omega), fun y => ?_, fun y => ?_⟩
        · rw [if_pos y, show 9 - ((m + 1 : Nat) : Int) + 1 = 9 - (m : Int) by omega] at hR
          rw [show 9 - ((m + 1 : Nat) : Int) + 1 = 9 - (m : Int) by omega] at tol c'
          exact ih (by omega) N' _ _ (fN.tr f') s' c' (by omega) (by omega) tol hR
        · rw [if_neg y] at hR
          rw [hR] at k1
          exact k1 rfl N' (fN.tr f') c' tol
  have f0 : FrX PX9 M (wr (wr M 8 0 0 34 0) 8 0 0 38 0) := FrX.wr (FrX.wr FrX.rf (show PX9 0 34 from Or.inr ⟨rfl, Or.inl rfl⟩) 0) (show PX9 0 38 from Or.inr ⟨rfl, Or.inr (Or.inr rfl)⟩) 0
  exact bX12_isText (loop 9 (by omega) _ 0 F f0 (by rw [wr_nk (by omega), wr_at]) (by rw [wr_at]; rfl) (by omega) (by omega) (fun x x0 x1 => absurd x1 (by show ¬ x < 9 - ((9 : Nat) : Int); omega)) hR.symm)
end Tm
