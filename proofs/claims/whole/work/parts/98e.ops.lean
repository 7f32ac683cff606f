/-! ===== each call on both sides: the class's answer, and then the reference's ===== -/
/-- the reference's end: code c, and the answer v where c = 0 -/
def EndI (Mx : Mem) (c v : Int) : List Value → Mem → Prop := fun r M2 => (∃ b : Int, r = [iv b] ∧ (c = 0 → b = v)) ∧ M2 8 0 0 7 = c ∧ M2 9 = Mx 9 ∧ Rel M2
def EndD (Mx : Mem) (c : Int) (v : UInt64) : List Value → Mem → Prop := fun r M2 => (∃ b : UInt64, r = [.double b] ∧ (c = 0 → b = v)) ∧ M2 8 0 0 7 = c ∧ M2 9 = Mx 9 ∧ Rel M2
def EndV (Mx : Mem) (c : Int) : List Value → Mem → Prop := fun r M2 => r = [] ∧ M2 8 0 0 7 = c ∧ M2 9 = Mx 9 ∧ Rel M2
def NxI (G : GT) (d : Nat) (z : YT) (Bs : List Value) (M1 : Mem) (c v : Int) : Prop := ∀ Mx, Ex9 M1 Mx → Call G d 0 z Bs Mx (EndI Mx c v) noX
def NxD (G : GT) (d : Nat) (z : YT) (Bs : List Value) (M1 : Mem) (c : Int) (v : UInt64) : Prop := ∀ Mx, Ex9 M1 Mx → Call G d 0 z Bs Mx (EndD Mx c v) noX
def NxV (G : GT) (d : Nat) (z : YT) (Bs : List Value) (M1 : Mem) (c : Int) : Prop := ∀ Mx, Ex9 M1 Mx → Call G d 0 z Bs Mx (EndV Mx c) noX
def OkI (G : GT) (d : Nat) (z : YT) (Bs : List Value) : List Value → Mem → Prop := fun r M1 => ∃ v : Int, r = [iv v] ∧ NxI G d z Bs M1 0 v
def OkB (G : GT) (d : Nat) (z : YT) (Bs : List Value) : List Value → Mem → Prop := fun r M1 => ∃ v : Int, r = [iv v] ∧ (v = 0 ∨ v = 1) ∧ NxI G d z Bs M1 0 v
def OkD (G : GT) (d : Nat) (z : YT) (Bs : List Value) : List Value → Mem → Prop := fun r M1 => ∃ v : UInt64, r = [.double v] ∧ NxD G d z Bs M1 0 v
def OkV (G : GT) (d : Nat) (z : YT) (Bs : List Value) : List Value → Mem → Prop := fun r M1 => r = [] ∧ NxV G d z Bs M1 0
/-- what is thrown, and its code -/
def XkI (G : GT) (d : Nat) (z : YT) (Bs : List Value) (n : Nat) (e1 e2 e3 : String) : String → Mem → Prop := fun E M1 => (E = e1 ∧ NxI G d z Bs M1 1 0) ∨ (2 ≤ n ∧ E = e2 ∧ NxI G d z Bs M1 2 0) ∨ (3 ≤ n ∧ E = e3 ∧ NxI G d z Bs M1 3 0)
def XkD (G : GT) (d : Nat) (z : YT) (Bs : List Value) (n : Nat) (e1 e2 : String) : String → Mem → Prop := fun E M1 => (E = e1 ∧ NxD G d z Bs M1 1 FP.dconst0) ∨ (2 ≤ n ∧ E = e2 ∧ NxD G d z Bs M1 2 FP.dconst0)
def XkV (G : GT) (d : Nat) (z : YT) (Bs : List Value) (e1 : String) : String → Mem → Prop := fun E M1 => E = e1 ∧ NxV G d z Bs M1 1
abbrev eUO : String := "java/lang/UnsupportedOperationException"
section Op
variable {G : GT} {M : Mem} {d n9 : Nat} {z : YT} {Bs : List Value} {e1 e2 e3 : String}
theorem rel_w (h : Rel M) : WFn (M 1 0) := h.1.2.1.1
theorem rel_z (h : Rel M) : BZ (M 1 0) := h.1.2.1.2.1
theorem rel_U (h : Rel M) : Uni (M 1 0) := h.1.2.1.2.2.1
theorem rel_H (h : Rel M) : HI M := h.1.1
theorem rel_K (h : Rel M) : ∀ r, 0 ≤ r → r < M 2 0 0 2 → WFn (kp M r) := fun r r0 r1 => (h.1.2.2.2.1.2 r r0 r1).1
theorem scx_8 {M1 Mx : Mem} (s : SC M M1) (x : Ex9 M1 Mx) : Mx 8 0 = M 8 0 := by rw [x 8 (by omega)]; exact s 8 0 (by omega) (by omega)
theorem scx_R {M1 Mx : Mem} (h : Rel M) (s : SC M M1) (x : Ex9 M1 Mx) : RG (Mx 8 0 1) (M 1 0) := by rw [scx_8 s x]; exact h.1.2.2.1
theorem rd_go (h : Rel M) {c v : Int} (h2 : c = 2 → 2 ≤ n9) (hq : ∀ (Mx : Mem) (K : List Value → Mem → Prop), Mx 8 0 = M 8 0 → RdM Mx K c (iv v) (iv 0) → Call G d 0 z Bs Mx K noX) : RdP M (OkI G d z Bs) (XkI G d z Bs n9 e1 e2 e3) c [iv v] e1 e2 := by
  intro M1 s
  refine ⟨fun y => ⟨v, rfl, fun Mx x => hq Mx _ (scx_8 s x) (fun M2 f e7 => ⟨fun _ => ⟨⟨v, rfl, fun _ => rfl⟩, e7.trans y, frx_reg f (by omega), h.read s x f⟩, fun w => absurd y w⟩)⟩,
    fun y => Or.inl ⟨rfl, fun Mx x => hq Mx _ (scx_8 s x) (fun M2 f e7 => ⟨fun w => absurd w (by omega), fun _ => ⟨⟨0, rfl, fun w => absurd w (by omega)⟩, e7.trans y, frx_reg f (by omega), h.read s x f⟩⟩)⟩,
    fun y => Or.inr (Or.inl ⟨h2 y, rfl, fun Mx x => hq Mx _ (scx_8 s x) (fun M2 f e7 => ⟨fun w => absurd w (by omega), fun _ => ⟨⟨0, rfl, fun w => absurd w (by omega)⟩, e7.trans y, frx_reg f (by omega), h.read s x f⟩⟩)⟩)⟩
theorem rd_goD (h : Rel M) {c : Int} {v : UInt64} (h2 : c = 2 → 2 ≤ n9) (hq : ∀ (Mx : Mem) (K : List Value → Mem → Prop), Mx 8 0 = M 8 0 → RdM Mx K c (.double v) (.double FP.dconst0) → Call G d 0 z Bs Mx K noX) : RdP M (OkD G d z Bs) (XkD G d z Bs n9 e1 e2) c [.double v] e1 e2 := by
  intro M1 s
  refine ⟨fun y => ⟨v, rfl, fun Mx x => hq Mx _ (scx_8 s x) (fun M2 f e7 => ⟨fun _ => ⟨⟨v, rfl, fun _ => rfl⟩, e7.trans y, frx_reg f (by omega), h.read s x f⟩, fun w => absurd y w⟩)⟩,
    fun y => Or.inl ⟨rfl, fun Mx x => hq Mx _ (scx_8 s x) (fun M2 f e7 => ⟨fun w => absurd w (by omega), fun _ => ⟨⟨FP.dconst0, rfl, fun w => absurd w (by omega)⟩, e7.trans y, frx_reg f (by omega), h.read s x f⟩⟩)⟩,
    fun y => Or.inr ⟨h2 y, rfl, fun Mx x => hq Mx _ (scx_8 s x) (fun M2 f e7 => ⟨fun w => absurd w (by omega), fun _ => ⟨⟨FP.dconst0, rfl, fun w => absurd w (by omega)⟩, e7.trans y, frx_reg f (by omega), h.read s x f⟩⟩)⟩⟩
theorem pz7 (Mx : Mem) (c : Int) : FrX PZ Mx (wr Mx 8 0 0 7 c) := FrX.wr FrX.rf (show PZ 0 7 from Or.inr ⟨rfl, Or.inl rfl⟩) c
theorem ans_of {Mx : Mem} {K : List Value → Mem → Prop} {q : Int × Int} (k : RdM Mx K q.1 (iv q.2) (iv 0)) : AnsM Mx K q := by
  unfold AnsM
  have t := k _ (pz7 Mx q.1) (wr_at _ _ _ _ _ _)
  by_cases h : q.1 = 0
  · rw [if_pos h]; exact t.1 h
  · rw [if_neg h]; exact t.2 h
theorem ansC_of {Mx : Mem} {K : List Value → Mem → Prop} {q : Int × Int} (k : RdM Mx K q.1 (iv q.2) (iv 0)) : AnsC Mx K q := by
  intro M' f
  have t := k M' (fun a b c k' hz => by
    rw [f a b c k' (fun w => hz ⟨w.1, w.2.1, by rcases w.2.2 with u | u | u; exact Or.inl (by omega); exact Or.inl (by omega); exact Or.inr ⟨u.1, Or.inr (Or.inl u.2)⟩⟩)]
    exact pz7 Mx q.1 a b c k' hz) (by rw [f 8 0 0 7 (by omega), wr_at])
  by_cases h : q.1 = 0
  · rw [if_pos h]; exact t.1 h
  · rw [if_neg h]; exact t.2 h
theorem rgx {Mx : Mem} (h : Rel M) (e : Mx 8 0 = M 8 0) : RG (Mx 8 0 1) (M 1 0) := by rw [e]; exact h.1.2.2.1
-- reads
theorem ne02 {α : Type} {b : α} : ((0 : Int), b).1 ≠ 2 := fun h => absurd (show (0 : Int) = 2 from h) (by decide)
theorem ne12 {α : Type} {b : α} : ((1 : Int), b).1 ≠ 2 := fun h => absurd (show (1 : Int) = 2 from h) (by decide)
theorem if12 {α : Type} {p : Prop} [Decidable p] {a b : α} : (if p then ((1 : Int), a) else (0, b)).1 ≠ 2 := by
  by_cases h : p
  · rw [if_pos h]; exact ne12
  · rw [if_neg h]; exact ne02
theorem ifc {α : Type} {p : Prop} [Decidable p] {a : α} {y : Int × α} (hy : y.1 ≠ 2) : (if p then ((0 : Int), a) else y).1 ≠ 2 := by
  by_cases h : p
  · rw [if_pos h]; exact ne02
  · rw [if_neg h]; exact hy
theorem nCount {L : LFn} {v : Int} : (qCount L v).1 ≠ 2 := ifc (ifc (ifc (ifc (ifc (ifc (ifc ne12))))))
theorem s_count (h : Rel M) {v : Int} (hi : I32 v) : Call G 8 1 zX11_count [rr G 0 0 0, iv v] M (OkI G 2 zX12_count [rr G 8 0 0, iv v]) (XkI G 2 zX12_count [rr G 8 0 0, iv v] 1 eIA eIA eIA) := by
  have rd := rd_go (G := G) (n9 := 1) (e1 := eIA) (e2 := eIA) (e3 := eIA) h (fun y => absurd y nCount) (fun Mx K e k => q_count (X := noX) (rgx h e) (rel_w h) hi (ans_of k))
  exact p_count rfl (rel_w h) hi (fun y => (rd M SC.rf).1 y) (fun y => (rd M SC.rf).2.1 y)
theorem s_wouldRefuse (h : Rel M) {t v : Int} (hti : I32 t) (hvi : I32 v) : Call G 9 2 zX11_wouldRefuse [rr G 0 0 0, iv t, iv v] M (OkI G 4 zX12_wouldRefuse [rr G 8 0 0, iv t, iv v]) (XkI G 4 zX12_wouldRefuse [rr G 8 0 0, iv t, iv v] 1 eIX eIX eIX) := by
  have rd := rd_go (G := G) (n9 := 1) (e1 := eIX) (e2 := eIX) (e3 := eIX) h (fun y => absurd y (by unfold qWould; exact if12)) (fun Mx K e k => q_wouldRefuse (X := noX) (rgx h e) (rel_w h) hti hvi (ans_of k))
  exact p_wouldRefuse rfl (rel_w h) hti hvi (fun y => (rd M SC.rf).1 y) (fun y => (rd M SC.rf).2.1 y)
theorem s_trip (h : Rel M) {t v : Int} (hti : I32 t) (hvi : I32 v) : Call G 9 2 zX11_trip [rr G 0 0 0, iv t, iv v] M (OkI G 3 zX12_trip [rr G 8 0 0, iv t, iv v]) (XkI G 3 zX12_trip [rr G 8 0 0, iv t, iv v] 2 eIX eIA eIA) := by
  have rd := rd_go (G := G) (n9 := 2) (e1 := eIX) (e2 := eIA) (e3 := eIA) h (fun _ => by decide) (fun Mx K e k => q_trip (X := noX) (rgx h e) (rel_w h) hti hvi (ans_of k))
  exact p_trip rfl (rel_w h) hti hvi (fun y => (rd M SC.rf).1 y) (fun y => (rd M SC.rf).2.1 y) (fun y => (rd M SC.rf).2.2 y)
theorem s_vehicle (h : Rel M) {v w : Int} (hvi : I32 v) (hwi : I32 w) : Call G 9 2 zX11_vehicle [rr G 0 0 0, iv v, iv w] M (OkI G 4 zX12_vehicle [rr G 8 0 0, iv v, iv w]) (XkI G 4 zX12_vehicle [rr G 8 0 0, iv v, iv w] 2 eIX eIA eIA) := by
  have rd := rd_go (G := G) (n9 := 2) (e1 := eIX) (e2 := eIA) (e3 := eIA) h (fun _ => by decide) (fun Mx K e k => q_vehicle (X := noX) (rgx h e) (rel_w h) hvi hwi (ans_of k))
  exact p_vehicle rfl (rel_w h) hvi hwi (fun y => (rd M SC.rf).1 y) (fun y => (rd M SC.rf).2.1 y) (fun y => (rd M SC.rf).2.2 y)
theorem s_bunches (h : Rel M) {a b : Int} (ha : I32 a) (hb : I32 b) : Call G 9 2 zX11_bunches [rr G 0 0 0, iv a, iv b] M (OkI G 4 zX12_bunches [rr G 8 0 0, iv a, iv b]) (XkI G 4 zX12_bunches [rr G 8 0 0, iv a, iv b] 1 eIX eIX eIX) := by
  have rd := rd_go (G := G) (n9 := 1) (e1 := eIX) (e2 := eIX) (e3 := eIX) h (fun y => absurd y (by unfold qBun; exact if12)) (fun Mx K e k => q_bunches (X := noX) (rgx h e) (rel_w h) ha hb (ansC_of k))
  exact p_bunches rfl (rel_w h) ha hb (fun y M' f => (rd M' (SC.q f)).1 y) (fun y => (rd M SC.rf).2.1 y)
theorem s_planned (h : Rel M) {t s : Int} (hti : I32 t) (hsi : I32 s) : Call G 9 2 zX11_planned [rr G 0 0 0, iv t, iv s] M (OkI G 2 zX12_planned [rr G 8 0 0, iv t, iv s]) (XkI G 2 zX12_planned [rr G 8 0 0, iv t, iv s] 2 eIX nsE nsE) :=
  p_planned rfl (rel_w h) hti hsi (rd_go h (fun _ => by decide) (fun Mx K e k => q_planned (X := noX) (rgx h e) (rel_w h) hti hsi k))
theorem s_passage (h : Rel M) {a s p w : Int} (ha : I32 a) (hs : I32 s) (hp : I32 p) (hw : I32 w) : Call G 9 3 zX11_passage [rr G 0 0 0, iv a, iv s, iv p, iv w] M (OkI G 4 zX12_passage [rr G 8 0 0, iv a, iv s, iv p, iv w]) (XkI G 4 zX12_passage [rr G 8 0 0, iv a, iv s, iv p, iv w] 2 eIX nsE nsE) :=
  p_passage rfl (rel_w h) ha hs hp hw (rd_go h (fun _ => by decide) (fun Mx K e k => q_passage (X := noX) (rgx h e) (rel_w h) ha hs hp hw k))
theorem s_headway (h : Rel M) {a s w : Int} (ha : I32 a) (hs : I32 s) (hw : I32 w) : Call G 9 3 zX11_headway [rr G 0 0 0, iv a, iv s, iv w] M (OkI G 4 zX12_headway [rr G 8 0 0, iv a, iv s, iv w]) (XkI G 4 zX12_headway [rr G 8 0 0, iv a, iv s, iv w] 2 eIX nsE nsE) :=
  p_headway rfl (rel_w h) ha hs hw (rd_go h (fun _ => by decide) (fun Mx K e k => q_headway (X := noX) (rgx h e) (rel_w h) ha hs hw k))
theorem s_meanHeadway (h : Rel M) {a s : Int} (ha : I32 a) (hs : I32 s) : Call G 9 3 zX11_meanHeadway [rr G 0 0 0, iv a, iv s] M (OkD G 4 zX12_meanHeadway [rr G 8 0 0, iv a, iv s]) (XkD G 4 zX12_meanHeadway [rr G 8 0 0, iv a, iv s] 2 eIX eAR) :=
  p_meanHeadway rfl (rel_w h) ha hs (rd_goD h (fun _ => by decide) (fun Mx K e k => q_meanHeadway (X := noX) (rgx h e) (rel_w h) ha hs k))
theorem s_duty (h : Rel M) {v p : Int} (hvi : I32 v) (hp : I32 p) : Call G 9 2 zX11_duty [rr G 0 0 0, iv v, iv p] M (OkI G 2 zX12_duty [rr G 8 0 0, iv v, iv p]) (XkI G 2 zX12_duty [rr G 8 0 0, iv v, iv p] 2 eIX nsE nsE) :=
  p_duty rfl (rel_w h) hvi hp (rd_go h (fun _ => by decide) (fun Mx K e k => q_duty (X := noX) (rgx h e) (rel_w h) hvi hp k))
theorem s_nextTrip (h : Rel M) {t : Int} (hti : I32 t) : Call G 9 2 zX11_nextTrip [rr G 0 0 0, iv t] M (OkI G 3 zX12_nextTrip [rr G 8 0 0, iv t]) (XkI G 3 zX12_nextTrip [rr G 8 0 0, iv t] 2 eIX nsE nsE) :=
  p_nextTrip rfl (rel_w h) hti (rd_go h (fun _ => by decide) (fun Mx K e k => q_nextTrip (X := noX) (rgx h e) (rel_w h) hti (ans_of k)))
theorem s_leaving (h : Rel M) {a p : Int} (ha : I32 a) (hp : I32 p) : Call G 9 2 zX11_leaving [rr G 0 0 0, iv a, iv p] M (OkI G 1 zX12_leaving [rr G 8 0 0, iv a, iv p]) (XkI G 1 zX12_leaving [rr G 8 0 0, iv a, iv p] 2 eIX nsE nsE) :=
  p_leaving rfl (rel_w h) ha hp (rd_go h (fun _ => by decide) (fun Mx K e k => q_leaving (X := noX) (rgx h e) (rel_w h) ha hp k))
theorem s_refusal (h : Rel M) : Call G 8 1 zX11_refusal [rr G 0 0 0] M (OkI G 0 zX12_refusal [rr G 8 0 0]) (XkI G 0 zX12_refusal [rr G 8 0 0] 1 nsE nsE nsE) := by
  have hF := h.2.1
  unfold Ref at hF
  have hi : I32 (M 8 0 0 6) := by rcases hF with w | w <;> exact i32 (by omega)
  have eq : ∀ Mx : Mem, Mx 8 0 = M 8 0 → ((if Mx 8 0 0 6 = 0 then ((1 : Int), (0 : Int)) else (0, Mx 8 0 0 6)) = (if M 0 0 0 8 = -1 then ((1 : Int), (0 : Int)) else (0, M 0 0 0 8))) := fun Mx e => by
    rw [e]
    rcases hF with w | w
    · rw [if_pos w.1, if_pos w.2]
    · rw [if_neg (by omega), if_neg (by omega), w.1]
  refine p_refusal (by rcases hF with w | w <;> omega) ?_
  rcases hF with w | w
  · rw [if_pos w.2]
    intro M1 s
    refine ⟨fun y => absurd y (by decide), fun y => absurd y (by decide), fun _ => Or.inl ⟨rfl, fun Mx x => q_refusal (X := noX) ?_ (by rw [scx_8 s x]; exact hi)⟩⟩
    rw [eq Mx (scx_8 s x), if_pos w.2]
    exact ⟨⟨0, rfl, fun y => absurd y (by decide)⟩, wr_at _ _ _ _ _ _, funext fun b => funext fun c => wr_na (by decide), h.read s x (pz7 _ _)⟩
  · rw [if_neg (by omega)]
    intro M1 s
    refine ⟨fun _ => ⟨M 0 0 0 8, rfl, fun Mx x => q_refusal (X := noX) ?_ (by rw [scx_8 s x]; exact hi)⟩, fun y => absurd y (by decide), fun y => absurd y (by decide)⟩
    rw [eq Mx (scx_8 s x), if_neg (by omega)]
    exact ⟨⟨M 0 0 0 8, rfl, fun _ => rfl⟩, wr_at _ _ _ _ _ _, funext fun b => funext fun c => wr_na (by decide), h.read s x (pz7 _ _)⟩
-- the run: the class chooses a line that is the same
theorem rgl {L' : LFn} {Mx : Mem} (h : Rel M) (l : LEq L' (M 1 0)) (e : Mx 8 0 = M 8 0) : RG (Mx 8 0 1) L' := (rgx h e).leq (rel_w h) l
theorem s_actual (h : Rel M) {t s w : Int} (hti : I32 t) (hsi : I32 s) (hwi : I32 w) : Call G 9 2 zX11_actual [rr G 0 0 0, iv t, iv s, iv w] M (OkI G 5 zX12_actual [rr G 8 0 0, iv t, iv s, iv w]) (XkI G 5 zX12_actual [rr G 8 0 0, iv t, iv s, iv w] 2 eIX nsE nsE) :=
  p_actual rfl (rel_w h) (rel_z h) hti hsi hwi (fun L' D0 l b => rd_go h (fun _ => by decide) (fun Mx K e k => q_actual (X := noX) (rgl h l e) (l.wfn (rel_w h)) b hti hsi hwi k))
theorem s_delay (h : Rel M) {t : Int} (hti : I32 t) : Call G 9 2 zX11_delay [rr G 0 0 0, iv t] M (OkI G 5 zX12_delay [rr G 8 0 0, iv t]) (XkI G 5 zX12_delay [rr G 8 0 0, iv t] 2 eIX nsE nsE) :=
  p_delay rfl (rel_w h) (rel_z h) hti (fun L' D0 l b => rd_go h (fun _ => by decide) (fun Mx K e k => q_delay (X := noX) (rgl h l e) (l.wfn (rel_w h)) b hti k))
theorem s_run (h : Rel M) {v : Int} (hvi : I32 v) : Call G 8 1 zX11_run [rr G 0 0 0, iv v] M (OkI G 6 zX12_run [rr G 8 0 0, iv v]) (XkI G 6 zX12_run [rr G 8 0 0, iv v] 1 eIA eIA eIA) :=
  p_run rfl (rel_w h) (rel_z h) hvi (fun L' D0 l b => rd_go h (fun y => absurd y (by unfold qRun; exact if12)) (fun Mx K e k => q_run (X := noX) (rgl h l e) (l.wfn (rel_w h)) b hvi k))
theorem s_actualBunches (h : Rel M) {a s : Int} (ha : I32 a) (hs : I32 s) : Call G 9 2 zX11_actualBunches [rr G 0 0 0, iv a, iv s] M (OkI G 5 zX12_actualBunches [rr G 8 0 0, iv a, iv s]) (XkI G 5 zX12_actualBunches [rr G 8 0 0, iv a, iv s] 1 eIX eIX eIX) :=
  p_actualBunches rfl (rel_w h) (rel_z h) ha hs (fun L' D0 l b => rd_go h (fun y => absurd y (by unfold qABun; exact if12)) (fun Mx K e k => q_actualBunches (X := noX) (rgl h l e) (l.wfn (rel_w h)) b ha hs k))
theorem s_meanDelay (h : Rel M) : Call G 8 1 zX11_meanDelay [rr G 0 0 0] M (OkD G 6 zX12_meanDelay [rr G 8 0 0]) (XkD G 6 zX12_meanDelay [rr G 8 0 0] 1 eAR eAR) :=
  p_meanDelay rfl (rel_w h) (rel_z h) (fun L' D0 l b => rd_goD h (fun y => absurd y (by unfold qMeanD; exact if12)) (fun Mx K e k => q_meanDelay (X := noX) (rgl h l e) (l.wfn (rel_w h)) b k))
theorem s_leastVehicles (h : Rel M) {v : Int} (hvi : I32 v) : Call G 5 0 zX11_leastVehicles [rr G 0 0 0, iv v] M (OkI G 42 zX12_leastVehicles [rr G 8 0 0, iv v]) noX := by
  refine p_leastVehicles (X := noX) rfl (rel_w h) hvi (fun r h0 h1 => ?_)
  intro M1 s
  refine ⟨fun _ => ⟨r, rfl, fun Mx x => q_leastVehicles (X := noX) (rgx h (scx_8 s x)) (rel_w h) hvi (fun r' g0 g1 => ?_)⟩, fun y => absurd y (by decide), fun y => absurd y (by decide)⟩
  have e : r' = r := by
    by_cases hv : v = 0
    · obtain ⟨a, a1, a2⟩ := h0 hv
      obtain ⟨b, b1, b2⟩ := g0 hv
      have := mp_same (rel_w h).1.1.1 a1 b1
      omega
    · rw [h1 hv, g1 hv]
  intro M2 f e7
  exact ⟨fun _ => ⟨⟨r', rfl, fun _ => e⟩, e7, frx_reg f (by omega), h.read s x f⟩, fun y => absurd rfl y⟩
theorem s_leastCost (h : Rel M) {v : Int} (hvi : I32 v) : Call G 8 1 zX11_leastCost [rr G 0 0 0, iv v] M (OkI G 5 zX12_leastCost [rr G 8 0 0, iv v]) (XkI G 5 zX12_leastCost [rr G 8 0 0, iv v] 1 eIA eIA eIA) := by
  refine p_leastCost rfl (rel_w h) hvi (fun c r h0 h1 => rd_go h (fun y => by
    by_cases hv : 0 ≤ v ∧ v ≤ 1000
    · have := (h1 hv).1; omega
    · have := h0 hv; omega) (fun Mx K e k => q_leastCost (X := noX) (rgx h e) (rel_w h) hvi (fun c' r' g0 g1 => ?_)))
  by_cases hv : 0 ≤ v ∧ v ≤ 1000
  · obtain ⟨a0, a, a1, a2⟩ := h1 hv
    obtain ⟨b0, b, b1, b2⟩ := g1 hv
    have := lc_same (rel_w h).1.1.1 a1 b1
    rw [show c' = c by omega, show r' = r by omega]
    exact k
  · have a0 := h0 hv
    have b0 := g0 hv
    intro M2 f e7
    have t := k M2 f (by omega)
    exact ⟨fun y => absurd y (by omega), fun _ => t.2 (by omega)⟩
end Op
