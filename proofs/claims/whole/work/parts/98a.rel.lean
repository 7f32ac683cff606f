/-! ===== the class and the reference side by side ===== -/
def Tnd (L : LFn) : Prop := ∀ t, 0 ≤ t → t < L 6 4 → L 10 t = 0 → L 4 (L 7 t) ≠ 0 ∧ L 4 (L 8 t) ≠ 0
def GL (L : LFn) : Prop := WFn L ∧ BZ L ∧ Uni L ∧ Tnd L
theorem GL.leq {L N : LFn} (h : LEq N L) (g : GL L) : GL N := by
  obtain ⟨hw, hz, hU, hT⟩ := g
  have hwN := h.wfn hw
  refine ⟨hwN, h.bz hz, ?_, ?_⟩
  · obtain ⟨-, -, -, e6, e7, e11, e12, -, -⟩ := h
    intro v w p q v0 v1 w0 w1 p0 p1 q0 q1 e
    have nv := hw.2.2.1.1
    rw [e11] at v1 w1
    have hv' := e12 v v0 (by omega)
    have hw' := e12 w w0 (by omega)
    have l1 := (hw.2.2.1.2 v v0 v1).2.2
    have l2 := (hw.2.2.1.2 w w0 w1).2.2
    rw [hv'.2.1] at p1
    rw [hw'.2.1] at q1
    rw [hv'.2.2 p p0 (by omega), hw'.2.2 q q0 (by omega)] at e
    exact hU v w p q v0 v1 w0 w1 p0 p1 q0 q1 e
  · obtain ⟨-, e4, -, e6, e7, -, -, -, -⟩ := h
    intro t t0 t1 ha
    rw [e6] at t1
    have nt := hw.1.1
    have h7 := hw.1.2 t t0 t1
    have e := e7 t t0 (by omega)
    rw [e.2.2.2] at ha
    rw [e.1, e.2.1, e4 _ (by omega) (by omega), e4 _ (by omega) (by omega)]
    exact hT t t0 t1 ha
/-- the lines -/
def RelL (M : Mem) : Prop :=
  HI M ∧ GL (M 1 0) ∧ RG (M 8 0 1) (M 1 0) ∧ (Pas M (M 2 0 0 2) (kp M) ∧ ∀ r, 0 ≤ r → r < M 2 0 0 2 → GL (kp M r)) ∧
  M 8 0 0 3 = M 2 0 0 3 ∧ (M 2 0 0 3 ≠ 0 → RG (M 8 0 2) (M 1 2) ∧ GL (M 1 2))
def Ref (M : Mem) : Prop := (M 8 0 0 6 = 0 ∧ M 0 0 0 8 = -1) ∨ (M 8 0 0 6 = M 0 0 0 8 ∧ 1 ≤ M 0 0 0 8 ∧ M 0 0 0 8 ≤ 7)
def RelT (M : Mem) : Prop := TxR M (M 7 0 1) (M 7 0 0 1) ∧ TxM M (M 7 0 1) (M 7 0 0 1)
def RelF (M : Mem) : Prop := M 8 0 0 36 = M 7 0 0 7
def Rel (M : Mem) : Prop := RelL M ∧ Ref M ∧ RelT M ∧ RelF M
theorem RelL.same {M M' : Mem} (h : RelL M) (p1 : ∀ i, i ≠ 1 → i ≠ 11 → M' 1 i = M 1 i) (p2 : M' 2 = M 2) (r1 : RG (M' 8 0 1) (M 1 0)) (q2 : M' 8 0 2 = M 8 0 2) (q4 : M' 8 0 4 = M 8 0 4) (q3 : M' 8 0 0 3 = M 8 0 0 3) (q5 : M' 8 0 0 5 = M 8 0 0 5) : RelL M' := by
  obtain ⟨hH, hG, hR, ⟨hP, hK⟩, hs, hS⟩ := h
  have ek : ∀ r, 0 ≤ r → r < 8 → kp M' r = kp M r := fun r r0 r1 => by
    unfold kp
    rw [p2]
    have := hH.2.1 r r0 r1
    exact p1 _ (by omega) (by omega)
  have n := hP.2.1
  have e10 := p1 0 (by omega) (by omega)
  have e12 := p1 2 (by omega) (by omega)
  refine ⟨?_, ?_, ?_, ⟨⟨?_, ?_, fun r r0 r1 => ?_⟩, fun r r0 r1 => ?_⟩, ?_, fun z => ?_⟩
  · unfold HI; rw [p2]; exact hH
  · rw [e10]; exact hG
  · rw [e10]; exact r1
  · rw [q5, p2]; exact hP.1
  · rw [p2]; exact n
  · rw [p2] at r1
    rw [q4, ek r r0 (by omega)]
    exact hP.2.2 r r0 r1
  · rw [p2] at r1
    rw [ek r r0 (by omega)]
    exact hK r r0 r1
  · rw [q3, p2]; exact hs
  · rw [p2] at z
    rw [q2, e12]
    exact hS z
theorem Ref.same {M M' : Mem} (h : Ref M) (p : M' 0 0 0 8 = M 0 0 0 8) (q : M' 8 0 0 6 = M 8 0 0 6) : Ref M' := by
  unfold Ref; rw [p, q]; exact h
theorem RelT.same {M M' : Mem} (h : RelT M) (p : M' 7 0 1 = M 7 0 1) (p1 : M' 7 0 0 1 = M 7 0 0 1) (q : M' 8 0 22 = M 8 0 22) (q1 : M' 8 0 0 33 = M 8 0 0 33) : RelT M' := by
  obtain ⟨⟨a1, a2, a3, a4⟩, b1, b2, b3⟩ := h
  refine ⟨⟨?_, ?_, ?_, fun k k0 k1 => ?_⟩, ?_, ?_, fun k k0 k1 => ?_⟩
  · rw [p1]; exact a1
  · rfl
  · rfl
  · rw [p]; exact a4 k k0 k1
  · rw [p1]; exact b1
  · rw [q1, p1]; exact b2
  · rw [p1] at k1; rw [q, p]; exact b3 k k0 k1
theorem RelF.same {M M' : Mem} (h : RelF M) (p : M' 7 0 0 7 = M 7 0 0 7) (q : M' 8 0 0 36 = M 8 0 0 36) : RelF M' := by
  unfold RelF; rw [p, q]; exact h
/-- all but region 9 (the law's own) as it was -/
def Ex9 (M M' : Mem) : Prop := ∀ r, r ≠ 9 → M' r = M r
theorem Ex9.rf {M : Mem} : Ex9 M M := fun _ _ => rfl
theorem Ex9.wr {M : Mem} {b c k v : Int} : Ex9 M (wr M 9 b c k v) := fun r hr => funext fun b' => funext fun c' => wr_na hr
theorem frx_row {P : Int → Int → Prop} {M M' : Mem} (f : FrX P M M') {c : Int} (hc : ∀ k, ¬ P c k) : M' 8 0 c = M 8 0 c := f.row hc
theorem frx_at {P : Int → Int → Prop} {M M' : Mem} (f : FrX P M M') {c k : Int} (hc : ¬ P c k) : M' 8 0 c k = M 8 0 c k := f 8 0 c k (fun z => hc z.2.2)
theorem frx_reg {P : Int → Int → Prop} {M M' : Mem} (f : FrX P M M') {a : Nat} (ha : a ≠ 8) : M' a = M a := funext fun b => f.ot ha
/-- behind a call that changes nothing on both sides -/
theorem Rel.read {M M1 Mx M2 : Mem} (h : Rel M) (s : SC M M1) (x : Ex9 M1 Mx) (f : FrX PZ Mx M2) : Rel M2 := by
  obtain ⟨hL, hF, hT, hQ⟩ := h
  have e : ∀ a b, ¬ (a = 1 ∧ b = 11) → (a < 3 ∨ 6 < a) → a ≠ 8 → a ≠ 9 → M2 a b = M a b := fun a b h1 h2 h8 h9 => by
    rw [f.ot h8, x a h9]; exact s a b h1 h2
  have e8 : ∀ c, Mx 8 0 c = M 8 0 c := fun c => by rw [x 8 (by omega), s 8 0 (by omega) (by omega)]
  have r1 : M2 8 0 1 = M 8 0 1 := (frx_row f (fun k => by show ¬ (_ ∨ _); omega)).trans (e8 1)
  refine ⟨hL.same (fun i _ h11 => e 1 i (by omega) (by omega) (by omega) (by omega)) (funext fun b => e 2 b (by omega) (by omega) (by omega) (by omega)) (by rw [r1]; exact hL.2.2.1) ?_ ?_ ?_ ?_, hF.same (by rw [e 0 0 (by omega) (by omega) (by omega) (by omega)]) ?_, hT.same (by rw [e 7 0 (by omega) (by omega) (by omega) (by omega)]) (by rw [e 7 0 (by omega) (by omega) (by omega) (by omega)]) ?_ ?_, hQ.same (by rw [e 7 0 (by omega) (by omega) (by omega) (by omega)]) ?_⟩
  · exact (frx_row f (fun k => by show ¬ (_ ∨ _); omega)).trans (e8 2)
  · exact (frx_row f (fun k => by show ¬ (_ ∨ _); omega)).trans (e8 4)
  · exact (frx_at f (by show ¬ (_ ∨ _); omega)).trans (by rw [e8])
  · exact (frx_at f (by show ¬ (_ ∨ _); omega)).trans (by rw [e8])
  · exact (frx_at f (by show ¬ (_ ∨ _); omega)).trans (by rw [e8])
  · exact (frx_row f (fun k => by show ¬ (_ ∨ _); omega)).trans (e8 22)
  · exact (frx_at f (by show ¬ (_ ∨ _); omega)).trans (by rw [e8])
  · exact (frx_at f (by show ¬ (_ ∨ _); omega)).trans (by rw [e8])
/-- behind a change that fails on both sides -/
theorem Rel.failed {M M1 Mx M2 : Mem} (h : Rel M) (s : SD M M1) (x : Ex9 M1 Mx) (f : FrX PF2 Mx M2) (r : RG (M2 8 0 1) (M 1 0)) : Rel M2 := by
  obtain ⟨hL, hF, hT, hQ⟩ := h
  have e : ∀ a b, (a < 1 ∨ a = 2 ∨ 6 < a) → a ≠ 8 → a ≠ 9 → M2 a b = M a b := fun a b h2 h8 h9 => by
    rw [f.ot h8, x a h9]; exact s.1 a b h2
  have e8 : ∀ c, Mx 8 0 c = M 8 0 c := fun c => by rw [x 8 (by omega), s.1 8 0 (by omega)]
  refine ⟨hL.same (fun i h1 h11 => by rw [f.ot (by omega), x 1 (by omega)]; exact s.2 i h1 h11) (funext fun b => e 2 b (by omega) (by omega) (by omega)) r ?_ ?_ ?_ ?_, hF.same (by rw [e 0 0 (by omega) (by omega) (by omega)]) ?_, hT.same (by rw [e 7 0 (by omega) (by omega) (by omega)]) (by rw [e 7 0 (by omega) (by omega) (by omega)]) ?_ ?_, hQ.same (by rw [e 7 0 (by omega) (by omega) (by omega)]) ?_⟩
  · exact (frx_row f (fun k => by show ¬ (_ ∨ _); omega)).trans (e8 2)
  · exact (frx_row f (fun k => by show ¬ (_ ∨ _); omega)).trans (e8 4)
  · exact (frx_at f (by show ¬ (_ ∨ _); omega)).trans (by rw [e8])
  · exact (frx_at f (by show ¬ (_ ∨ _); omega)).trans (by rw [e8])
  · exact (frx_at f (by show ¬ (_ ∨ _); omega)).trans (by rw [e8])
  · exact (frx_row f (fun k => by show ¬ (_ ∨ _); omega)).trans (e8 22)
  · exact (frx_at f (by show ¬ (_ ∨ _); omega)).trans (by rw [e8])
  · exact (frx_at f (by show ¬ (_ ∨ _); omega)).trans (by rw [e8])
/-- the lines behind a change -/
theorem RelL.chg {M M1 M2 : Mem} {L' : LFn} (h : RelL M) (k1 : M1 1 2 = M 1 2) (k2 : LEq (M1 1 0) L') (k3 : Kept M M1 (M 1 0)) (p1 : M2 1 = M1 1) (p2 : M2 2 = M1 2) (hG : GL L') (r1 : RG (M2 8 0 1) L') (q2 : M2 8 0 2 = M 8 0 2) (q3 : M2 8 0 0 3 = M 8 0 0 3) (hP' : Pas M2 (pushN (M 2 0 0 2)) (pushH (M 2 0 0 2) (kp M) (M 1 0))) : RelL M2 := by
  obtain ⟨hH, hG0, hR, ⟨hP, hK⟩, hs, hS⟩ := h
  obtain ⟨kH, k23, kk, kl⟩ := k3
  obtain ⟨a1, a2, a3⟩ := hP'
  have n := hP.2.1
  have ek : ∀ r, kp M2 r = kp M1 r := fun r => by unfold kp; rw [p1, p2]
  have hn : M1 2 0 0 2 = pushN (M 2 0 0 2) := by
    unfold pushN
    rcases kk with ⟨z1, z2, z3⟩ | ⟨z1, z2, z3⟩
    · rw [if_pos z1]; exact z2
    · rw [if_neg (by omega)]; exact z2
  have each : ∀ r, 0 ≤ r → r < pushN (M 2 0 0 2) → LEq (kp M1 r) (pushH (M 2 0 0 2) (kp M) (M 1 0) r) ∧ GL (pushH (M 2 0 0 2) (kp M) (M 1 0) r) := by
    intro r r0 r1
    unfold pushH pushN at *
    rcases kk with ⟨z1, z2, z3⟩ | ⟨z1, z2, z3⟩
    · rw [if_pos z1] at r1 ⊢
      by_cases hr : r = M 2 0 0 2
      · show LEq (kp M1 r) (if r = M 2 0 0 2 then M 1 0 else kp M r) ∧ GL (if r = M 2 0 0 2 then M 1 0 else kp M r)
        rw [if_pos hr]
        rw [z2, show M 2 0 0 2 + 1 - 1 = r by omega] at kl
        exact ⟨kl, hG0⟩
      · show LEq (kp M1 r) (if r = M 2 0 0 2 then M 1 0 else kp M r) ∧ GL (if r = M 2 0 0 2 then M 1 0 else kp M r)
        rw [if_neg hr, z3 r r0 (by omega)]
        exact ⟨LEq.refl _, hK r r0 (by omega)⟩
    · rw [if_neg (by omega)] at r1 ⊢
      by_cases hr : r = 7
      · show LEq (kp M1 r) (if r = 7 then M 1 0 else kp M (r + 1)) ∧ GL (if r = 7 then M 1 0 else kp M (r + 1))
        rw [if_pos hr]
        rw [z2, show (8 : Int) - 1 = r by omega] at kl
        exact ⟨kl, hG0⟩
      · show LEq (kp M1 r) (if r = 7 then M 1 0 else kp M (r + 1)) ∧ GL (if r = 7 then M 1 0 else kp M (r + 1))
        rw [if_neg hr, z3 r r0 (by omega)]
        exact ⟨LEq.refl _, hK (r + 1) (by omega) (by omega)⟩
  refine ⟨?_, ?_, ?_, ⟨⟨?_, ?_, fun r r0 r1 => ?_⟩, fun r r0 r1 => ?_⟩, ?_, fun z => ?_⟩
  · unfold HI; rw [p2]; exact kH
  · rw [p1]; exact hG.leq k2
  · rw [p1]; exact r1.leq hG.1 k2
  · rw [p2, hn]; exact a1
  · rw [p2, hn]; exact a2
  · rw [p2, hn] at r1
    obtain ⟨b1, b2⟩ := each r r0 r1
    rw [ek]
    exact (a3 r r0 r1).leq b2.1 b1
  · rw [p2, hn] at r1
    obtain ⟨b1, b2⟩ := each r r0 r1
    rw [ek]
    exact b2.leq b1
  · rw [q3, p2, k23]; exact hs
  · rw [p2, k23] at z
    rw [q2, p1, k1]
    exact hS z
/-- behind a change on both sides -/
theorem Rel.chg {M M1 Mx M2 : Mem} {L' : LFn} (h : Rel M) (c : ChP M M1 (M 1 0) L') (hG : GL L') (x : Ex9 M1 Mx) (f : FrX PM2 Mx M2) (r1 : RG (M2 8 0 1) L') (hP : Pas M2 (pushN (M 2 0 0 2)) (pushH (M 2 0 0 2) (kp M) (M 1 0))) : Rel M2 := by
  obtain ⟨hL, hF, hT, hQ⟩ := h
  obtain ⟨c1, c2, c3, c4⟩ := c
  have e : ∀ a, a ≠ 8 → a ≠ 9 → M2 a = M1 a := fun a h8 h9 => by rw [frx_reg f h8, x a h9]
  have e8 : ∀ c, Mx 8 0 c = M 8 0 c := fun c => by rw [x 8 (by omega), c1 8 0 (by omega)]
  refine ⟨hL.chg c2 c3 c4 (e 1 (by omega) (by omega)) (e 2 (by omega) (by omega)) hG r1 ?_ ?_ hP, hF.same (by rw [e 0 (by omega) (by omega), c1 0 0 (by omega)]) ?_, hT.same (by rw [e 7 (by omega) (by omega), c1 7 0 (by omega)]) (by rw [e 7 (by omega) (by omega), c1 7 0 (by omega)]) ?_ ?_, hQ.same (by rw [e 7 (by omega) (by omega), c1 7 0 (by omega)]) ?_⟩
  · exact (frx_row f (fun k => by show ¬ ((_ ∨ _) ∨ _); omega)).trans (e8 2)
  · exact (frx_at f (by show ¬ ((_ ∨ _) ∨ _); omega)).trans (by rw [e8])
  · exact (frx_at f (by show ¬ ((_ ∨ _) ∨ _); omega)).trans (by rw [e8])
  · exact (frx_row f (fun k => by show ¬ ((_ ∨ _) ∨ _); omega)).trans (e8 22)
  · exact (frx_at f (by show ¬ ((_ ∨ _) ∨ _); omega)).trans (by rw [e8])
  · exact (frx_at f (by show ¬ ((_ ∨ _) ∨ _); omega)).trans (by rw [e8])
