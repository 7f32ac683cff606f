/-! ===== leaving ===== -/
/-- the rows of those that Q names, by F, the higher first among equals -/
def RowQ (S : S3) (Q : Int → Prop) (F : Int → Int) : Prop := (∀ k, 0 ≤ k → k < S.1 → Q (S.2.2 k)) ∧ (∀ v, Q v → ∃ k, 0 ≤ k ∧ k < S.1 ∧ S.2.2 k = v) ∧ ∀ k l, 0 ≤ k → k < l → l < S.1 → F (S.2.2 k) < F (S.2.2 l) ∨ (F (S.2.2 k) = F (S.2.2 l) ∧ S.2.2 l < S.2.2 k)
theorem rowQ_at {S T : S3} {Q : Int → Prop} {F : Int → Int} (hS : RowQ S Q F) (hT : RowQ T Q F) : ∀ n : Nat, (n : Int) < S.1 → (n : Int) < T.1 → S.2.2 n = T.2.2 n := by
  obtain ⟨a1, a2, a3⟩ := hS
  obtain ⟨b1, b2, b3⟩ := hT
  intro n
  induction n using Nat.strongRecOn with
  | ind n ih =>
    intro h1 h2
    obtain ⟨y, y0, y1, y2⟩ := b2 _ (a1 n (by omega) h1)
    obtain ⟨x, x0, x1, x2⟩ := a2 _ (b1 n (by omega) h2)
    have hy : ¬ y < n := fun q => by
      have e := ih y.toNat (by omega) (by omega) (by omega)
      rw [show ((y.toNat : Nat) : Int) = y by omega] at e
      have := a3 y n y0 q h1
      rw [e, y2] at this
      omega
    have hx : ¬ x < n := fun q => by
      have e := ih x.toNat (by omega) (by omega) (by omega)
      rw [show ((x.toNat : Nat) : Int) = x by omega] at e
      have := b3 x n x0 q h2
      rw [← e, x2] at this
      omega
    by_cases e : y = n
    · rw [← y2, e]
    · by_cases e' : x = n
      · rw [← x2, e']
      · have c1 := b3 n y (by omega) (by omega) y1
        have c2 := a3 n x (by omega) (by omega) x1
        rw [y2] at c1
        rw [x2] at c2
        omega
theorem rowQ_len {S T : S3} {Q : Int → Prop} {F : Int → Int} (hS : RowQ S Q F) (hT : RowQ T Q F) (hT0 : 0 ≤ S.1) : ¬ S.1 < T.1 := by
  intro h
  have at9 := rowQ_at hS hT
  obtain ⟨a1, a2, a3⟩ := hS
  obtain ⟨b1, b2, b3⟩ := hT
  obtain ⟨x, x0, x1, x2⟩ := a2 _ (b1 S.1 hT0 h)
  have e := at9 x.toNat (by omega) (by omega)
  rw [show ((x.toNat : Nat) : Int) = x by omega] at e
  have := b3 x S.1 x0 x1 h
  rw [← e, x2] at this
  omega
theorem posL_hi (f h : Int → Int) (m t : Int) (n : Nat) : (∀ k : Int, posL f h m t n ≤ k → k < n → m < f k ∨ (f k = m ∧ t < h k)) ∧ (0 < posL f h m t n → ¬ (m < f (posL f h m t n - 1) ∨ (f (posL f h m t n - 1) = m ∧ t < h (posL f h m t n - 1)))) := by
  induction n with
  | zero => exact ⟨fun k h1 h2 => by have : (0 : Int) ≤ k := h1; omega, fun h => absurd h (by show ¬ (0 : Int) < 0; omega)⟩
  | succ n ih =>
    simp only [posL]
    split
    · rename_i hq
      refine ⟨fun k h1 h2 => ?_, ih.2⟩
      by_cases e : k = n
      · rw [e]; exact hq
      · exact ih.1 k h1 (by omega)
    · rename_i hq
      refine ⟨fun k h1 h2 => by omega, fun _ => ?_⟩
      rw [show (n : Int) + 1 - 1 = n by omega]
      exact hq
def LexR (S : S3) : Prop := ∀ k l, 0 ≤ k → k < l → l < S.1 → S.2.1 k < S.2.1 l ∨ (S.2.1 k = S.2.1 l ∧ S.2.2 k < S.2.2 l)
theorem putL_lex {S : S3} (h : LexR S) (h0 : 0 ≤ S.1) {m t : Int} (hne : ∀ k, 0 ≤ k → k < S.1 → S.2.2 k ≠ t) : LexR (putL S m t) := by
  have hp := posL_hi S.2.1 S.2.2 m t S.1.toNat
  have hb := posL_bd S.2.1 S.2.2 m t S.1.toNat
  intro k l k0 kl l1
  have l1' : l < S.1 + 1 := l1
  show insF S.2.1 (posL S.2.1 S.2.2 m t S.1.toNat) m k < insF S.2.1 (posL S.2.1 S.2.2 m t S.1.toNat) m l ∨ (insF S.2.1 (posL S.2.1 S.2.2 m t S.1.toNat) m k = insF S.2.1 (posL S.2.1 S.2.2 m t S.1.toNat) m l ∧ insF S.2.2 (posL S.2.1 S.2.2 m t S.1.toNat) t k < insF S.2.2 (posL S.2.1 S.2.2 m t S.1.toNat) t l)
  generalize posL S.2.1 S.2.2 m t S.1.toNat = p at *
  unfold insF
  by_cases hl : l < p
  · simp only [if_pos hl, if_pos (show k < p by omega)]
    exact h k l k0 kl (by omega)
  · by_cases hl2 : l = p
    · simp only [if_neg hl, if_pos hl2, if_pos (show k < p by omega)]
      have h1 := hp.2 (by omega)
      have h2 := hne (p - 1) (by omega) (by omega)
      by_cases hk : k = p - 1
      · rw [hk]; omega
      · have h3 := h k (p - 1) k0 (by omega) (by omega)
        omega
    · by_cases hk : k < p
      · simp only [if_neg hl, if_neg hl2, if_pos hk]
        exact h k (l - 1) k0 (by omega) (by omega)
      · by_cases hk2 : k = p
        · simp only [if_neg hl, if_neg hl2, if_neg hk, if_pos hk2]
          have := hp.1 (l - 1) (by omega) (by omega)
          omega
        · simp only [if_neg hl, if_neg hl2, if_neg hk, if_neg hk2]
          exact h (k - 1) (l - 1) (by omega) (by omega) (by omega)
theorem foldL_lex (p : Int → Bool) (f g : Int → Int) (hg : ∀ x y : Nat, x < y → g x ≠ g y) (n : Nat) : LexR (foldL p f g n) := by
  induction n with
  | zero => intro k l k0 kl l1; exact absurd l1 (by show ¬ l < 0; omega)
  | succ n ih =>
    simp only [foldL]
    split
    · refine putL_lex ih (foldL_size p f g n).1 (fun k k0 k1 => ?_)
      obtain ⟨x, x1, -, x3, -⟩ := foldL_mem (p := p) (f := f) (g := g) n k k0 k1
      rw [x3]
      exact hg x n x1
    · exact ih
theorem foldL_has (p : Int → Bool) (f g : Int → Int) (n : Nat) : ∀ x : Nat, x < n → p x = true → ∃ k, 0 ≤ k ∧ k < (foldL p f g n).1 ∧ (foldL p f g n).2.2 k = g x := by
  induction n with
  | zero => intro x hx; omega
  | succ n ih =>
    intro x hx hp
    have hs := foldL_size p f g n
    simp only [foldL]
    by_cases hn : p n = true
    · rw [if_pos hn]
      have hb := posL_bd (foldL p f g n).2.1 (foldL p f g n).2.2 (f n) (g n) (foldL p f g n).1.toNat
      by_cases e : x = n
      · subst e
        refine ⟨posL (foldL p f g x).2.1 (foldL p f g x).2.2 (f x) (g x) (foldL p f g x).1.toNat, hb.1, ?_, ?_⟩
        · show _ < (foldL p f g x).1 + 1
          omega
        · show insF _ _ _ _ = _
          unfold insF
          rw [if_neg (by omega), if_pos rfl]
      · obtain ⟨k, k0, k1, k2⟩ := ih x (by omega) hp
        by_cases hk : k < posL (foldL p f g n).2.1 (foldL p f g n).2.2 (f n) (g n) (foldL p f g n).1.toNat
        · refine ⟨k, k0, ?_, ?_⟩
          · show _ < (foldL p f g n).1 + 1
            omega
          · show insF _ _ _ _ = _
            unfold insF
            rw [if_pos hk]
            exact k2
        · refine ⟨k + 1, by omega, ?_, ?_⟩
          · show _ < (foldL p f g n).1 + 1
            omega
          · show insF _ _ _ _ = _
            unfold insF
            rw [if_neg (by omega), if_neg (by omega), show k + 1 - 1 = k by omega]
            exact k2
    · rw [if_neg hn]
      by_cases e : x = n
      · rw [e] at hp; exact absurd hp hn
      · exact ih x (by omega) hp
abbrev leaF (L : LFn) (v : Int) : Int := L 9 (L (15 + v) 0)
abbrev leaP (L : LFn) (d v : Int) : Bool := decide (L 12 v = d ∧ 0 < L 13 v)
def leaR (L : LFn) (d : Int) : S3 := foldL (leaP L d) (leaF L) (fun v => -v) (L 11 3).toNat
theorem lea_same {L : LFn} (hn : 0 ≤ L 11 3) (d : Int) : (leaR L d).1 = (leaS L d).1 ∧ ∀ k, 0 ≤ k → k < (leaS L d).1 → (leaR L d).2.2 k = -(leaS L d).2.2 k := by
  have hN : ((L 11 3).toNat : Int) = L 11 3 := by omega
  have sz1 := foldS_size (leaP L d) (leaF L) (fun n => L 11 3 - 1 - n) (L 11 3).toNat
  have sz2 := foldL_size (leaP L d) (leaF L) (fun v => -v) (L 11 3).toNat
  have hS : RowQ (leaS L d) (fun v => 0 ≤ v ∧ v < L 11 3 ∧ leaP L d v = true) (leaF L) := by
    refine ⟨fun k k0 k1 => ?_, fun v hv => ?_, fun k l k0 kl l1 => ?_⟩
    · obtain ⟨x, x1, x2, x3, -⟩ := foldS_mem (p := leaP L d) (f := leaF L) (g := fun n => L 11 3 - 1 - n) (L 11 3).toNat k k0 k1
      have e : (leaS L d).2.2 k = L 11 3 - 1 - x := x3
      rw [e]
      exact ⟨by omega, by omega, x2⟩
    · obtain ⟨k, k0, k1, k2⟩ := foldS_has (leaP L d) (leaF L) (fun n => L 11 3 - 1 - n) (L 11 3).toNat (L 11 3 - 1 - v).toNat (by omega) (by
        show leaP L d (L 11 3 - 1 - (((L 11 3 - 1 - v).toNat : Nat) : Int)) = true
        rw [show L 11 3 - 1 - (((L 11 3 - 1 - v).toNat : Nat) : Int) = v by omega]
        exact hv.2.2)
      refine ⟨k, k0, k1, ?_⟩
      have e : (leaS L d).2.2 k = L 11 3 - 1 - (((L 11 3 - 1 - v).toNat : Nat) : Int) := k2
      rw [e]
      omega
    · have lex : LexS (leaS L d) (fun a b => b < a) := foldS_lex _ _ _ _ (fun x y hxy => by show L 11 3 - 1 - (y : Int) < L 11 3 - 1 - (x : Int); omega) _
      have tim : ∀ k, 0 ≤ k → k < (leaS L d).1 → (leaS L d).2.1 k = leaF L ((leaS L d).2.2 k) := fun k k0 k1 => by
        obtain ⟨x, x1, x2, x3, x4⟩ := foldS_mem (p := leaP L d) (f := leaF L) (g := fun n => L 11 3 - 1 - n) (L 11 3).toNat k k0 k1
        have e3 : (leaS L d).2.2 k = L 11 3 - 1 - x := x3
        have e4 : (leaS L d).2.1 k = leaF L (L 11 3 - 1 - x) := x4
        rw [e3, e4]
      have := lex k l k0 kl l1
      rw [tim k k0 (by omega), tim l (by omega) l1] at this
      exact this
  have hR : RowQ ((leaR L d).1, (leaR L d).2.1, fun k => -(leaR L d).2.2 k) (fun v => 0 ≤ v ∧ v < L 11 3 ∧ leaP L d v = true) (leaF L) := by
    refine ⟨fun k k0 k1 => ?_, fun v hv => ?_, fun k l k0 kl l1 => ?_⟩
    · obtain ⟨x, x1, x2, x3, -⟩ := foldL_mem (p := leaP L d) (f := leaF L) (g := fun v => -v) (L 11 3).toNat k k0 k1
      have e : (leaR L d).2.2 k = -(x : Int) := x3
      show 0 ≤ -(leaR L d).2.2 k ∧ -(leaR L d).2.2 k < L 11 3 ∧ leaP L d (-(leaR L d).2.2 k) = true
      rw [e, show -(-(x : Int)) = x by omega]
      exact ⟨by omega, by omega, x2⟩
    · obtain ⟨k, k0, k1, k2⟩ := foldL_has (leaP L d) (leaF L) (fun v => -v) (L 11 3).toNat v.toNat (by omega) (by
        rw [show ((v.toNat : Nat) : Int) = v by omega]
        exact hv.2.2)
      refine ⟨k, k0, k1, ?_⟩
      have e : (leaR L d).2.2 k = -((v.toNat : Nat) : Int) := k2
      show -(leaR L d).2.2 k = v
      rw [e]
      omega
    · have lex : LexR (leaR L d) := foldL_lex _ _ _ (fun x y hxy => by show -(x : Int) ≠ -(y : Int); omega) _
      have tim : ∀ k, 0 ≤ k → k < (leaR L d).1 → (leaR L d).2.1 k = leaF L (-(leaR L d).2.2 k) := fun k k0 k1 => by
        obtain ⟨x, x1, x2, x3, x4⟩ := foldL_mem (p := leaP L d) (f := leaF L) (g := fun v => -v) (L 11 3).toNat k k0 k1
        have e3 : (leaR L d).2.2 k = -(x : Int) := x3
        have e4 : (leaR L d).2.1 k = leaF L x := x4
        rw [e3, e4, show -(-(x : Int)) = x by omega]
      have l1' : l < (leaR L d).1 := l1
      have := lex k l k0 kl l1'
      rw [tim k k0 (by omega), tim l (by omega) l1'] at this
      show leaF L (-(leaR L d).2.2 k) < leaF L (-(leaR L d).2.2 l) ∨ (leaF L (-(leaR L d).2.2 k) = leaF L (-(leaR L d).2.2 l) ∧ -(leaR L d).2.2 l < -(leaR L d).2.2 k)
      rcases this with q | q
      · exact Or.inl q
      · exact Or.inr ⟨q.1, by omega⟩
  have z1 : 0 ≤ (leaS L d).1 := sz1.1
  have z2 : 0 ≤ (leaR L d).1 := sz2.1
  have n1 := rowQ_len hS hR z1
  have n2 := rowQ_len hR hS z2
  have n1 : ¬ (leaS L d).1 < (leaR L d).1 := n1
  have n2 : ¬ (leaR L d).1 < (leaS L d).1 := n2
  refine ⟨by omega, fun k k0 k1 => ?_⟩
  have e := rowQ_at hS hR k.toNat (by omega) (show ((k.toNat : Nat) : Int) < (leaR L d).1 by omega)
  rw [show ((k.toNat : Nat) : Int) = k by omega] at e
  have e' : (leaS L d).2.2 k = -(leaR L d).2.2 k := e
  omega
def qLeav (L : LFn) (d p : Int) : Int × Int := if ¬ (0 ≤ d ∧ d < 2) then (1, 0) else if ¬ (0 ≤ p ∧ p < (leaS L d).1) then (2, 0) else (0, (leaS L d).2.2 p)
section Lv
variable {G : GT} {K : List Value → Mem → Prop} {X : String → Mem → Prop} {M : Mem} {L : LFn}
theorem p_leaving (hL : M 1 0 = L) (hw : WFn L) {d p : Int} (hd : I32 d) (hp : I32 p) (k : RdP M K X (qLeav L d p).1 [iv (qLeav L d p).2] eIX nsE) : Call G 9 2 zX11_leaving [rr G 0 0 0, iv d, iv p] M K X := by
  obtain ⟨ht, hm, hv, hb⟩ := hw
  unfold qLeav at k
  refine bX11_leaving (sp_requireIndex hd (i32 (by omega)) (fun z => kV_mk ?_) (fun z => ?_))
  · rw [if_neg (fun u => u z)] at k
    refine sp_listLeaving (by omega) (by omega) (by omega) (by omega) (by rw [hL]; exact ht) (by rw [hL]; exact hv) hd (fun M' f s' => kV_mk ?_)
    rw [hL] at s'
    replace k := k.at (SC.q f)
    obtain ⟨⟨s0, s1, s2⟩, s4⟩ := s'
    refine ⟨hp, fun u => ?_, fun u => ⟨by rw [s2]; exact i32 (by omega), fun x => ⟨by omega, by omega, ?_⟩, fun x => ?_⟩⟩
    · rw [if_pos (fun x => by omega)] at k; exact k.k2
    · rw [if_neg (fun v => v ⟨by omega, by omega⟩)] at k
      rw [(s4 p (by omega) (by omega)).2]
      exact k.k0
    · rw [if_pos (fun v => by omega)] at k; exact k.k2
  · rw [if_pos z] at k; exact k.k1
theorem q_leaving (hR : RG (M 8 0 1) L) (hw : WFn L) {d p : Int} (hd : I32 d) (hp : I32 p) (k : RdM M K (qLeav L d p).1 (iv (qLeav L d p).2) (iv 0)) : Call G 1 0 zX12_leaving [rr G 8 0 0, iv d, iv p] M K X := by
  obtain ⟨ht, hm, hv, hb⟩ := hw
  have nv := hv.1
  have nt := ht.1
  unfold qLeav at k
  refine bX12_leaving (m_in hd (i32 (by omega)) (i32 (by omega)) (kI_mk ⟨b2i_i32 _, fun z => ?_, fun z => ?_⟩))
  · rw [if_pos (fun u => (b2i_0.mp z) ⟨u.1, by omega⟩)] at k
    exact k.kE (by decide)
  · have z' := nb z
    rw [if_neg (fun u => u ⟨z'.1, by omega⟩)] at k
    obtain ⟨c1, c2⟩ := m_clear (wr M 8 0 0 7 0)
    have hR0 : RG (wr M 8 0 0 7 0 8 0 1) L := by rw [thr_g]; exact hR
    have same := lea_same nv.1 d
    have gen := loop_up (E := fun v => 0 ≤ v → ∀ N : Mem, FrC (wr M 8 0 0 7 0) N → SeqM N (foldL (leaP L d) (leaF L) (fun v => -v) v.toNat) → eX12_leaving G K X 34 [(0, rr G 8 0 0), (1, iv d), (2, iv p), (3, iv v)] [] N) nv.1 (fun _ N fN sN => by
      have e7 : N 8 0 0 7 = 0 := (fN 8 0 0 7 (by omega)).trans (wr_at _ _ _ _ _ _)
      replace k := k.at ((fz7 M 0).tr fN.z)
      have sN' : SeqM N (leaR L d) := sN
      obtain ⟨⟨s0, s1, s2⟩, s4⟩ := sN'
      refine bX12_leaving_34 ?_
      rw [(RG_C fN hR0).2.2.2.2.2.1]
      refine ⟨i32 (by omega), i32 (by omega), fun _ => m_in hp (i32 (by omega)) (by rw [s2]; exact i32 (by omega)) (kI_mk ⟨b2i_i32 _, fun y => ?_, fun y => ?_⟩), fun q => absurd q (by omega)⟩
      · have y' := b2i_0.mp y
        rw [s2] at y'
        rw [if_pos (fun q => y' ⟨q.1, by omega⟩)] at k
        exact rdm_fails (by decide) k
      · have y' := nb y
        rw [s2] at y'
        rw [if_neg (fun q => q ⟨y'.1, by omega⟩)] at k
        refine ⟨by omega, by omega, ?_⟩
        rw [(s4 p y'.1 (by omega)).2, same.2 p y'.1 (by omega), show - -(leaS L d).2.2 p = (leaS L d).2.2 p by omega]
        exact k.k0 e7) (fun v q1 q2 hn9 _ N fN sN => by
      have hRN := RG_C fN hR0
      have h7 := hRN.2.2.2.2.2.2.1 v q1 q2
      have hl := hv.2 v q1 q2
      have hsz := foldL_size (leaP L d) (leaF L) (fun v => -v) v.toNat
      have skp : ¬ (L 12 v = d ∧ 0 < L 13 v) → eX12_leaving G K X 34 [(0, rr G 8 0 0), (1, iv d), (2, iv p), (3, iv (v + 1))] [] N := fun z => hn9 (by omega) N fN (by rw [foldL_step q1, if_neg (by simpa only [leaP, decide_eq_true_eq] using z)]; exact sN)
      refine bX12_leaving_34 ?_
      rw [hRN.2.2.2.2.2.1, h7.1, h7.2.1]
      refine ⟨i32 (by omega), i32 (by omega), fun q => absurd q2 q, fun _ => ⟨by omega, by omega, i32 (by omega), hd, fun y => skp (fun q => y q.1), fun y => ⟨by omega, by omega, i32 (by omega), fun w => skp (fun q => w q.2), fun w => ?_⟩⟩⟩
      have hd0 := hl.2.2.2.2 0 (by omega) w
      have ht0 := ht.2 _ hd0.1 hd0.2
      refine m_dutyAt hRN hv q1 q2 (by omega) w (kI_mk (m_departs hRN ht hd0.1 hd0.2 (kI_mk (m_comes sN (by omega) (fun x x0 x1 => ?_) (i32 (by omega)) (i32 (by omega)) (fun M2 f2 s2 => kV_mk (hn9 (by omega) M2 (fN.tr f2) ?_))))))
      · obtain ⟨u, u1, u2, u3, u4⟩ := foldL_mem _ x x0 x1
        rw [u3, u4]
        simp only [leaP, decide_eq_true_eq] at u2
        have h3 := (hv.2 (u : Int) (by omega) (by omega)).2.2.2.2 0 (by omega) u2.2
        have h4 := ht.2 _ h3.1 h3.2
        exact ⟨i32 (by show _ ≤ L 9 _ ∧ L 9 _ ≤ _; omega), i32 (by omega)⟩
      · rw [foldL_step q1, if_pos (by simp only [leaP, decide_eq_true_eq]; exact ⟨y, w⟩)]
        exact s2)
    exact gen (Int.le_refl _) _ c1 c2
end Lv
