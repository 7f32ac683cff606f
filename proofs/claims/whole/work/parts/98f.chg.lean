/-! ===== changes on both sides ===== -/
section Oc
variable {G : GT} {M : Mem} {d n9 : Nat} {z : YT} {Bs : List Value} {e1 e2 e3 : String}
theorem sdx_8 {M1 Mx : Mem} (s : SD M M1) (x : Ex9 M1 Mx) : Mx 8 0 = M 8 0 := by rw [x 8 (by omega)]; exact s.1 8 0 (by omega)
theorem chx_8 {M1 Mx : Mem} {L L' : LFn} (s : ChP M M1 L L') (x : Ex9 M1 Mx) : Mx 8 0 = M 8 0 := by rw [x 8 (by omega)]; exact s.1 8 0 (by omega)
theorem rel_P {Mx : Mem} (h : Rel M) (e : Mx 8 0 = M 8 0) : Pas Mx (M 2 0 0 2) (kp M) := h.1.2.2.2.1.1.keep (by rw [e]) (by rw [e])
theorem chg_go (h : Rel M) {c a : Int} {L' : LFn} (h2 : c = 2 → 2 ≤ n9) (h3 : c = 3 → 3 ≤ n9) (hG : c = 0 → GL L') (hq : ∀ (Mx : Mem) (K : List Value → Mem → Prop), Mx 8 0 = M 8 0 → ChgM Mx K (M 2 0 0 2) (kp M) (M 1 0) c L' a → Call G d 0 z Bs Mx K noX) : ChgP M (OkI G d z Bs) (XkI G d z Bs n9 e1 e2 e3) (M 1 0) c L' a e1 e2 e3 := by
  have bad : ∀ (c9 : Int) (M1 : Mem), c9 ≠ 0 → SD M M1 → c = c9 → NxI G d z Bs M1 c9 0 := fun c9 M1 hc s y Mx x => hq Mx _ (sdx_8 s x) (fun M2 e7 => ⟨fun w => absurd w (by omega), fun _ f r => ⟨⟨0, rfl, fun w => absurd w hc⟩, e7.trans y, frx_reg f (by omega), h.failed s x f r⟩⟩)
  refine ⟨fun y M1 ch => ⟨a, rfl, fun Mx x => hq Mx _ (chx_8 ch x) (fun M2 e7 => ⟨fun _ f r p => ⟨⟨a, rfl, fun _ => rfl⟩, e7.trans y, frx_reg f (by omega), h.chg ch (hG y) x f r p⟩, fun w => absurd y w⟩)⟩, fun M1 s => ⟨fun y => Or.inl ⟨rfl, bad 1 M1 (by omega) s y⟩, fun y => Or.inr (Or.inl ⟨h2 y, rfl, bad 2 M1 (by omega) s y⟩), fun y => Or.inr (Or.inr ⟨h3 y, rfl, bad 3 M1 (by omega) s y⟩)⟩⟩
theorem chg_goB (h : Rel M) {c a : Int} {L' : LFn} (h2 : c = 2 → 2 ≤ n9) (h3 : c = 3 → 3 ≤ n9) (ha : c = 0 → a = 0 ∨ a = 1) (hG : c = 0 → GL L') (hq : ∀ (Mx : Mem) (K : List Value → Mem → Prop), Mx 8 0 = M 8 0 → ChgM Mx K (M 2 0 0 2) (kp M) (M 1 0) c L' a → Call G d 0 z Bs Mx K noX) : ChgP M (OkB G d z Bs) (XkI G d z Bs n9 e1 e2 e3) (M 1 0) c L' a e1 e2 e3 := by
  have g := chg_go (G := G) (d := d) (z := z) (Bs := Bs) (n9 := n9) (e1 := e1) (e2 := e2) (e3 := e3) h h2 h3 hG hq
  refine ⟨fun y M1 ch => ?_, g.2⟩
  obtain ⟨v, hv, n⟩ := g.1 y M1 ch
  have hJ : J v = J a := by
    have := (List.cons.inj hv).1
    injection this with e
    exact e.symm
  refine ⟨a, rfl, ha y, fun Mx x => hq Mx _ (chx_8 ch x) (fun M2 e7 => ⟨fun _ f r p => ⟨⟨a, rfl, fun _ => rfl⟩, e7.trans y, frx_reg f (by omega), h.chg ch (hG y) x f r p⟩, fun w => absurd y w⟩)⟩
theorem chp_of {M1 : Mem} {L L' : LFn} (a : ∀ r i, r ≠ 1 → r ≠ 2 → M1 r i = M r i) (b : ∀ i, (i < 3 ∨ 10 < i) → i ≠ 0 → M1 1 i = M 1 i) (e : M1 1 0 = L') (k : Kept M M1 L) : ChP M M1 L L' :=
  ⟨fun r i hr => a r i (by omega) (by omega), b 2 (Or.inl (by omega)) (by omega), by rw [e]; exact LEq.refl _, k⟩
theorem pf7 (Mx : Mem) (c : Int) : FrX PF2 Mx (wr Mx 8 0 0 7 c) := FrX.wr FrX.rf (show PF2 0 7 from Or.inr (Or.inr (Or.inr ⟨rfl, Or.inl rfl⟩))) c
theorem cm_0 {Mx : Mem} {K : List Value → Mem → Prop} {n : Int} {H : Int → LFn} {L L' : LFn} {c a : Int} (k : ChgM Mx K n H L c L' a) : c = 0 → MutM Mx K n H L L' a := fun y M' f e7 r p => (k M' (e7.trans y.symm)).1 y (f.mono (fun _ _ w => Or.inl w)) r p
theorem cm_1 {Mx : Mem} {K : List Value → Mem → Prop} {n : Int} {H : Int → LFn} {L L' : LFn} {c a : Int} (k : ChgM Mx K n H L c L' a) (r : RG (Mx 8 0 1) L) : c ≠ 0 → AnsM Mx K (c, 0) := fun y => by
  unfold AnsM
  have t := (k _ (wr_at _ _ _ _ _ _)).2 y (pf7 Mx c) (by rw [wr_nc (by omega)]; exact r)
  rw [if_neg y]
  exact t
-- the calls
theorem s_addTrip (h : Rel M) {a b c : Int} (ha : I32 a) (hb : I32 b) (hc : I32 c) : Call G 9 3 zX11_addTrip [rr G 0 0 0, iv a, iv b, iv c] M (OkI G 3 zX12_addTrip [rr G 8 0 0, iv a, iv b, iv c]) (XkI G 3 zX12_addTrip [rr G 8 0 0, iv a, iv b, iv c] 3 eIX eIA eIS) := by
  have cp := chg_go (G := G) (n9 := 3) (e1 := eIX) (e2 := eIA) (e3 := eIS) h (fun _ => by decide) (fun _ => by decide) (fun y => by
    unfold qAdd at y
    by_cases o1 : 0 ≤ a ∧ a ≤ 11
    · by_cases o2 : 0 ≤ b ∧ b ≤ 11
      · by_cases o3 : tripOK (M 1 0) a b c
        · rw [if_neg (fun w => w o1), if_neg (fun w => w o2), if_neg (fun w => w o3)] at y
          have hn := (rel_w h).1.1
          have o4 : M 1 0 6 4 ≠ 30 := fun w => by rw [if_pos w] at y; omega
          exact gl_addA h.1.2.1 o1 o2 o3 (by omega)
        · rw [if_neg (fun w => w o1), if_neg (fun w => w o2), if_pos o3] at y; omega
      · rw [if_neg (fun w => w o1), if_pos o2] at y; omega
    · rw [if_pos o1] at y; omega) (fun Mx K e k => q_addTrip (X := noX) (rgx h e) (rel_w h) (rel_P h e) (rel_K h) ha hb hc (cm_0 k) (cm_1 k (rgx h e)))
  exact p_addTrip rfl (rel_w h) (rel_z h) (rel_H h) ha hb hc (fun y M' p q r s => cp.1 y M' (chp_of p q r s)) (fun y => (cp.2 M SD.rf).1 y) (fun y => (cp.2 M SD.rf).2.1 y) (fun y => (cp.2 M SD.rf).2.2 y)
theorem s_addVehicle (h : Rel M) {a : Int} (ha : I32 a) : Call G 9 2 zX11_addVehicle [rr G 0 0 0, iv a] M (OkI G 2 zX12_addVehicle [rr G 8 0 0, iv a]) (XkI G 2 zX12_addVehicle [rr G 8 0 0, iv a] 2 eIX eIS eIS) := by
  have cp := chg_go (G := G) (n9 := 2) (e1 := eIX) (e2 := eIS) (e3 := eIS) h (fun _ => by decide) (fun y => by unfold qAddV at y; split at y; omega; split at y <;> omega) (fun y => gl_addV h.1.2.1 y) (fun Mx K e k => q_addVehicle (X := noX) (rgx h e) (rel_w h) (rel_P h e) (rel_K h) ha (cm_0 k) (cm_1 k (rgx h e)))
  exact p_addVehicle rfl (rel_w h) (rel_z h) (rel_H h) ha (fun y M' p q r s => cp.1 y M' (chp_of p q r s)) (fun y => (cp.2 M SD.rf).1 y) (fun y => (cp.2 M SD.rf).2.1 y)
theorem s_block (h : Rel M) {a b c : Int} (ha : I32 a) (hb : I32 b) (hc : I32 c) : Call G 9 2 zX11_block [rr G 0 0 0, iv a, iv b, iv c] M (OkI G 2 zX12_block [rr G 8 0 0, iv a, iv b, iv c]) (XkI G 2 zX12_block [rr G 8 0 0, iv a, iv b, iv c] 3 eIX eIA eIS) := by
  have cp := chg_go (G := G) (n9 := 3) (e1 := eIX) (e2 := eIA) (e3 := eIS) h (fun _ => by decide) (fun _ => by decide) (fun y => gl_addK h.1.2.1 y) (fun Mx K e k => q_block (X := noX) (rgx h e) (rel_w h) (rel_P h e) (rel_K h) ha hb hc (cm_0 k) (cm_1 k (rgx h e)))
  exact p_block rfl (rel_w h) (rel_z h) (rel_H h) ha hb hc (fun y M' p q r s => cp.1 y M' (chp_of p q r s)) (fun y => (cp.2 M SD.rf).1 y) (fun y => (cp.2 M SD.rf).2.1 y) (fun y => (cp.2 M SD.rf).2.2 y)
theorem s_setTurn (h : Rel M) {s a : Int} (hs : I32 s) (ha : a = 0 ∨ a = 1) : Call G 8 1 zX11_setTurn [rr G 0 0 0, iv s, iv a] M (OkB G 2 zX12_setTurn [rr G 8 0 0, iv s, iv a]) (XkI G 2 zX12_setTurn [rr G 8 0 0, iv s, iv a] 2 eIX eIS eIS) := by
  have cp := chg_goB (G := G) (n9 := 2) (e1 := eIX) (e2 := eIS) (e3 := eIS) h (fun _ => by decide) (fun y => by unfold qTurn at y; split at y; omega; split at y <;> omega) (fun y => by
    have hr : 1 ≤ s ∧ s ≤ 10 := Classical.byContradiction fun w => by unfold qTurn at y; rw [if_pos w] at y; omega
    have := (rel_z h).1 s (by omega) (by omega)
    omega) (fun y => gl_turn h.1.2.1 ha y) (fun Mx K e k => q_setTurn (X := noX) (rgx h e) (rel_w h) (rel_P h e) (rel_K h) hs ha (cm_0 k) (cm_1 k (rgx h e)))
  exact p_setTurn rfl (rel_w h) (rel_z h) (rel_H h) hs ha (fun y M' p q r s => cp.1 y M' (chp_of p q r s)) (fun y => (cp.2 M SD.rf).1 y) (fun y => (cp.2 M SD.rf).2.1 y)
theorem s_cancel (h : Rel M) {t a : Int} (ht : I32 t) (ha : a = 0 ∨ a = 1) : Call G 9 2 zX11_cancel [rr G 0 0 0, iv t, iv a] M (OkB G 3 zX12_cancel [rr G 8 0 0, iv t, iv a]) (XkI G 3 zX12_cancel [rr G 8 0 0, iv t, iv a] 2 eIX eIS eIS) := by
  have cp := chg_goB (G := G) (n9 := 2) (e1 := eIX) (e2 := eIS) (e3 := eIS) h (fun _ => by decide) (fun y => by unfold qCan at y; split at y; omega; split at y <;> omega) (fun y => by
    have hr : 0 ≤ t ∧ t < M 1 0 6 4 := Classical.byContradiction fun w => by unfold qCan at y; rw [if_pos w] at y; omega
    have := (rel_w h).1.2 t hr.1 hr.2
    omega) (fun y => gl_canc h.1.2.1 ha y) (fun Mx K e k => q_cancel (X := noX) (rgx h e) (rel_w h) (rel_P h e) (rel_K h) ht ha (fun t0 t1 hact => tnd_trn h.1.2.1.2.2.2 t0 t1 hact) (out_wfn (rel_w h) t).1 (cm_0 k) (cm_1 k (rgx h e)))
  exact p_cancel rfl (rel_w h) (rel_z h) (rel_H h) ht ha (fun y M' p q r s => cp.1 y M' (chp_of p q r s)) (fun y => (cp.2 M SD.rf).1 y) (fun y => (cp.2 M SD.rf).2.1 y)
theorem s_take (h : Rel M) {v : Int} (hv : I32 v) : Call G 9 2 zX11_take [rr G 0 0 0, iv v] M (OkI G 2 zX12_take [rr G 8 0 0, iv v]) (XkI G 2 zX12_take [rr G 8 0 0, iv v] 2 eIX nsE eIS) :=
  p_take rfl (rel_w h) (rel_z h) (rel_H h) (rel_U h) hv (chg_go h (fun _ => by decide) (fun y => by unfold qTake at y; split at y; omega; split at y <;> omega) (fun y => by
    unfold qTake at y
    by_cases o1 : 0 ≤ v ∧ v < M 1 0 11 3
    · rw [if_neg (fun w => w o1)] at y
      have o2 : M 1 0 13 v ≠ 0 := fun w => by rw [if_pos w] at y; omega
      have := ((rel_w h).2.2.1.2 v o1.1 o1.2).2.2.1
      exact gl_cut h.1.2.1 (by omega) (by omega)
    · rw [if_pos o1] at y; omega) (fun Mx K e k => q_take (X := noX) (rgx h e) (rel_w h) (rel_P h e) (rel_K h) hv k))
theorem s_turnShort (h : Rel M) {t s : Int} (ht : I32 t) (hs : I32 s) : Call G 9 2 zX11_turnShort [rr G 0 0 0, iv t, iv s] M (OkI G 3 zX12_turnShort [rr G 8 0 0, iv t, iv s]) (XkI G 3 zX12_turnShort [rr G 8 0 0, iv t, iv s] 2 eIX eIA eIS) :=
  p_turnShort rfl (rel_w h) (rel_z h) (rel_H h) ht hs (chg_go h (fun _ => by decide) (fun y => by unfold qTS at y; split at y; omega; split at y <;> omega) (fun y => gl_short h.1.2.1 y) (fun Mx K e k => q_turnShort (X := noX) (rgx h e) (rel_w h) (rel_P h e) (rel_K h) ht hs k))
theorem s_startLate (h : Rel M) {t s : Int} (ht : I32 t) (hs : I32 s) : Call G 9 2 zX11_startLate [rr G 0 0 0, iv t, iv s] M (OkI G 3 zX12_startLate [rr G 8 0 0, iv t, iv s]) (XkI G 3 zX12_startLate [rr G 8 0 0, iv t, iv s] 2 eIX eIA eIS) :=
  p_startLate rfl (rel_w h) (rel_z h) (rel_H h) ht hs (chg_go h (fun _ => by decide) (fun y => by unfold qSL at y; split at y; omega; split at y; omega; split at y <;> omega) (fun y => gl_late h.1.2.1 y) (fun Mx K e k => q_startLate (X := noX) (rgx h e) (rel_w h) (rel_P h e) (rel_K h) ht hs k))
theorem s_unblock (h : Rel M) {b : Int} (hb : I32 b) : Call G 9 1 zX11_unblock [rr G 0 0 0, iv b] M (OkI G 2 zX12_unblock [rr G 8 0 0, iv b]) (XkI G 2 zX12_unblock [rr G 8 0 0, iv b] 1 eIX eIX eIX) :=
  p_unblock rfl (rel_w h) (rel_z h) (rel_H h) hb (chg_go h (fun y => by unfold qUnb at y; split at y <;> omega) (fun y => by unfold qUnb at y; split at y <;> omega) (fun y => gl_rmK h.1.2.1 y) (fun Mx K e k => q_unblock (X := noX) (rgx h e) (rel_w h) (rel_P h e) (rel_K h) hb k))
theorem s_setSection (h : Rel M) {s a b : Int} (hs : I32 s) (ha : I32 a) (hb : I32 b) : Call G 9 2 zX11_setSection [rr G 0 0 0, iv s, iv a, iv b] M (OkI G 5 zX12_setSection [rr G 8 0 0, iv s, iv a, iv b]) (XkI G 5 zX12_setSection [rr G 8 0 0, iv s, iv a, iv b] 3 eIX eIA eIS) :=
  p_setSection rfl (rel_w h) (rel_z h) (rel_H h) hs ha hb (chg_go h (fun _ => by decide) (fun _ => by decide) (fun y => by
    unfold qSS at y
    by_cases o1 : 0 ≤ s ∧ s ≤ 10
    · by_cases o2 : 1 ≤ a ∧ a ≤ 9
      · by_cases o3 : 0 ≤ b ∧ b ≤ 30
        · exact gl_sect h.1.2.1 o2 o3
        · rw [if_neg (fun w => w o1), if_neg (fun w => w o2), if_pos o3] at y; omega
      · rw [if_neg (fun w => w o1), if_pos o2] at y; omega
    · rw [if_pos o1] at y; omega) (fun Mx K e k => q_setSection (X := noX) (rgx h e) (rel_w h) (rel_P h e) (rel_K h) hs ha hb k))
theorem s_set (h : Rel M) {s a : Int} (hs : I32 s) (ha : I32 a) : Call G 9 2 zX11_set [rr G 0 0 0, iv s, iv a] M (OkI G 5 zX12_set [rr G 8 0 0, iv s, iv a]) (XkI G 5 zX12_set [rr G 8 0 0, iv s, iv a] 3 eIX eIA eIS) :=
  p_set rfl (rel_w h) (rel_z h) (rel_H h) hs ha (chg_go h (fun _ => by decide) (fun _ => by decide) (fun y => by
    unfold qSet at y
    by_cases o1 : 0 ≤ s ∧ s ≤ 2
    · by_cases o2 : loS s ≤ a ∧ a ≤ hiS s
      · exact gl_set h.1.2.1 o1.1 o1.2 o2
      · rw [if_neg (fun w => w o1), if_pos o2] at y; omega
    · rw [if_pos o1] at y; omega) (fun Mx K e k => q_set (X := noX) (rgx h e) (rel_w h) (rel_P h e) (rel_K h) hs ha k))
theorem s_exchange (h : Rel M) {v w m : Int} (hv : I32 v) (hw : I32 w) (hm : I32 m) : Call G 9 3 zX11_exchange [rr G 0 0 0, iv v, iv w, iv m] M (OkI G 5 zX12_exchange [rr G 8 0 0, iv v, iv w, iv m]) (XkI G 5 zX12_exchange [rr G 8 0 0, iv v, iv w, iv m] 3 eIX eIA eIS) :=
  p_exchange rfl (rel_w h) (rel_z h) (rel_H h) (rel_U h) hv hw hm (chg_go h (fun _ => by decide) (fun _ => by decide) (fun y => gl_exc h.1.2.1 y) (fun Mx K e k => q_exchange (X := noX) (rgx h e) (rel_w h) (rel_P h e) (rel_K h) (rel_U h) hv hw hm k))
theorem s_relink (h : Rel M) : Call G 6 0 zX11_relink [rr G 0 0 0] M (OkI G 5 zX12_relink [rr G 8 0 0]) noX := by
  refine p_relink (X := noX) rfl (rel_w h) (rel_z h) (rel_H h) (fun M1 a b e k => ⟨_, rfl, fun Mx x => ?_⟩)
  have e8 : Mx 8 0 = M 8 0 := by rw [x 8 (by omega)]; exact a 8 0 (by omega) (by omega) (by omega) (by omega)
  have ch : ChP M M1 (M 1 0) (lnk (M 1 0)).1 := ⟨fun r i hr => a r i (by omega) (by omega) (by omega) (by omega), b 2 (Or.inl (by omega)) (by omega), by rw [e]; exact LEq.refl _, k⟩
  exact q_relink (X := noX) (rgx h e8) (rel_w h) (rel_P h e8) (rel_K h) (fun M2 f e7 r p => ⟨⟨_, rfl, fun _ => rfl⟩, e7, frx_reg f (by omega), h.chg ch (gl_lnk h.1.2.1) x f r p⟩)
/-- behind a refusal -/
theorem Rel.refused {M Mx M2 : Mem} {c : Int} (h : Rel M) (hc : 1 ≤ c ∧ c ≤ 7) (x : Ex9 (wr M 0 0 0 8 c) Mx) (f : FrX PF Mx M2) (e6 : M2 8 0 0 6 = c) : Rel M2 := by
  obtain ⟨hL, hF, hT, hQ⟩ := h
  have e : ∀ a, a ≠ 0 → a ≠ 8 → a ≠ 9 → M2 a = M a := fun a h0 h8 h9 => by
    rw [frx_reg f h8, x a h9]
    exact funext fun b => funext fun c => wr_na h0
  have e8 : Mx 8 = M 8 := by
    rw [x 8 (by omega)]
    exact funext fun b => funext fun c => wr_na (by omega)
  have r : ∀ c, c ≠ 0 → M2 8 0 c = M 8 0 c := fun c hc => by rw [frx_row f (fun k => by show ¬ (_ ∧ _); omega), e8]
  have o : ∀ k, k ≠ 6 → k ≠ 7 → M2 8 0 0 k = M 8 0 0 k := fun k h6 h7 => by rw [frx_at f (by show ¬ (_ ∧ _); omega), e8]
  refine ⟨hL.same (fun i _ _ => by rw [e 1 (by omega) (by omega) (by omega)]) (e 2 (by omega) (by omega) (by omega)) (by rw [r 1 (by omega)]; exact hL.2.2.1) (r 2 (by omega)) (r 4 (by omega)) (o 3 (by omega) (by omega)) (o 5 (by omega) (by omega)), ?_, hT.same (by rw [e 7 (by omega) (by omega) (by omega)]) (by rw [e 7 (by omega) (by omega) (by omega)]) (r 22 (by omega)) (o 33 (by omega) (by omega)), hQ.same (by rw [e 7 (by omega) (by omega) (by omega)]) (o 36 (by omega) (by omega))⟩
  have e0 : M2 0 0 0 8 = c := by rw [frx_reg f (by omega), x 0 (by omega), wr_at]
  exact Or.inr ⟨by rw [e6, e0], by rw [e0]; exact hc.1, by rw [e0]; exact hc.2⟩
theorem wr0_8 {Mx : Mem} {c : Int} (x : Ex9 (wr M 0 0 0 8 c) Mx) : Mx 8 0 = M 8 0 := by
  rw [x 8 (by omega)]
  exact funext fun c => wr_na (by omega)
theorem s_giveRound (h : Rel M) {f s v : Int} (hf : I32 f) (hs : I32 s) (hv : I32 v) : Call G 9 4 zX11_giveRound [rr G 0 0 0, iv f, iv s, iv v] M (OkI G 4 zX12_giveRound [rr G 8 0 0, iv f, iv s, iv v]) (XkI G 4 zX12_giveRound [rr G 8 0 0, iv f, iv s, iv v] 2 eIX eUO eUO) := by
  have hb := rsnR_bd (M 1 0) f s v
  refine p_giveRound rfl (rel_w h) (rel_z h) (rel_H h) (rel_U h) hf hs hv (fun y M1 ch => ⟨_, rfl, fun Mx x => ?_⟩) (fun y => Or.inl ⟨rfl, fun Mx x => ?_⟩) (fun y => Or.inr (Or.inl ⟨by decide, rfl, fun Mx x => ?_⟩))
  · exact q_giveRound (X := noX) (rgx h (chx_8 ch x)) (rel_w h) (rel_P h (chx_8 ch x)) (rel_K h) (rel_U h) hf hs hv (fun _ M2 g e7 r p => ⟨⟨_, rfl, fun _ => rfl⟩, e7, frx_reg g (by omega), h.chg ch (gl_rnd h.1.2.1 y) x (g.mono (fun _ _ w => Or.inl w)) r p⟩) (fun w => absurd w (by omega)) (fun w => absurd w (by omega))
  · have e8 := sdx_8 (M := M) SD.rf x
    exact q_giveRound (X := noX) (rgx h e8) (rel_w h) (rel_P h e8) (rel_K h) (rel_U h) hf hs hv (fun w => absurd w (by omega)) (fun _ => ⟨⟨0, rfl, fun w => absurd w (by decide)⟩, wr_at _ _ _ _ _ _, funext fun b => funext fun c => wr_na (by decide), h.read SC.rf x (pz7 _ _)⟩) (fun w => absurd w (by omega))
  · have e8 := wr0_8 x
    have hne : rsnR (M 1 0) f s v ≠ 0 := fun w => by
      unfold qGR at y
      by_cases o : (0 ≤ f ∧ f < M 1 0 6 4) ∧ (0 ≤ s ∧ s < M 1 0 6 4) ∧ 0 ≤ v ∧ v < M 1 0 11 3
      · rw [if_neg (fun q => q o), if_neg (fun q => q w)] at y; omega
      · rw [if_pos o] at y; omega
    exact q_giveRound (X := noX) (rgx h e8) (rel_w h) (rel_P h e8) (rel_K h) (rel_U h) hf hs hv (fun w => absurd w (by omega)) (fun w => absurd w (by omega)) (fun _ M2 g e7 e6 => ⟨⟨0, rfl, fun w => absurd w (by decide)⟩, e7, frx_reg g (by omega), h.refused (by omega) x g e6⟩)
theorem s_give (h : Rel M) {t v : Int} (ht : I32 t) (hv : I32 v) : Call G 9 3 zX11_give [rr G 0 0 0, iv t, iv v] M (OkI G 4 zX12_give [rr G 8 0 0, iv t, iv v]) (XkI G 4 zX12_give [rr G 8 0 0, iv t, iv v] 2 eIX eUO eUO) := by
  have hb := rsnG_bd (M 1 0) t v
  have bad : ∀ Mx : Mem, Ex9 M Mx → EndI Mx 1 0 [iv 0] (wr Mx 8 0 0 7 1) := fun Mx x => ⟨⟨0, rfl, fun w => absurd w (by decide)⟩, wr_at _ _ _ _ _ _, funext fun b => funext fun c => wr_na (by decide), h.read SC.rf x (pz7 _ _)⟩
  by_cases ho : 0 ≤ t ∧ t < M 1 0 6 4
  · have hl : 0 ≤ v → v < M 1 0 11 3 → rsnG (M 1 0) t v = 0 → M 1 0 13 v < 30 := fun v0 v1 r => (gl_give h.1.2.1 ho.1 ho.2 v0 v1 r).1
    refine p_give rfl (rel_w h) (rel_z h) (rel_H h) ht hv hl (fun y1 y2 y3 M1 a b e k => ⟨_, rfl, fun Mx x => ?_⟩) (fun y => Or.inl ⟨rfl, fun Mx x => ?_⟩) (fun y1 y2 y3 => Or.inr (Or.inl ⟨by decide, rfl, fun Mx x => ?_⟩))
    · have ch := chp_of (M := M) a b e k
      exact q_give (X := noX) (rgx h (chx_8 ch x)) (rel_w h) (rel_P h (chx_8 ch x)) (rel_K h) ht hv hl (fun _ _ _ M2 g e7 r p => ⟨⟨_, rfl, fun _ => rfl⟩, e7, frx_reg g (by omega), h.chg ch (gl_give h.1.2.1 y1.1 y1.2 y2.1 y2.2 y3).2 x (g.mono (fun _ _ w => Or.inl w)) r p⟩) (fun w => absurd ⟨y1, y2⟩ w) (fun _ _ w => absurd y3 w)
    · have e8 := sdx_8 (M := M) SD.rf x
      exact q_give (X := noX) (rgx h e8) (rel_w h) (rel_P h e8) (rel_K h) ht hv hl (fun z1 z2 => absurd ⟨z1, z2⟩ y) (fun _ => bad Mx x) (fun z1 z2 => absurd ⟨z1, z2⟩ y)
    · have e8 := wr0_8 x
      exact q_give (X := noX) (rgx h e8) (rel_w h) (rel_P h e8) (rel_K h) ht hv hl (fun _ _ w => absurd w y3) (fun w => absurd ⟨y1, y2⟩ w) (fun _ _ _ M2 g e7 e6 => ⟨⟨0, rfl, fun w => absurd w (by decide)⟩, e7, frx_reg g (by omega), h.refused (by omega) x g e6⟩)
  · have hn := (rel_w h).1.1
    refine bX11_give (sp_requireIndex ht (i32 (by omega)) (fun z => absurd z ho) (fun _ => Or.inl ⟨rfl, fun Mx x => ?_⟩))
    have e8 := sdx_8 (M := M) SD.rf x
    exact bX12_give (m_isTrip (rgx h e8) (rel_w h).1 ht (kI_mk ⟨b2i_i32 _, fun _ => bad Mx x, fun w => absurd (Classical.byContradiction fun q => w (b2i_0.mpr q)) ho⟩))
end Oc
