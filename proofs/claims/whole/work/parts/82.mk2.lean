/-! ===== making: objects, rows of rows, writes, calls ===== -/
theorem mm0 {a : Cond} {l : List Cond} : a ∈ a :: l := List.mem_cons_self
theorem mm1 {a b : Cond} {l : List Cond} : b ∈ a :: b :: l := List.mem_cons_of_mem _ List.mem_cons_self
theorem mm2 {a b c : Cond} {l : List Cond} : c ∈ a :: b :: c :: l := List.mem_cons_of_mem _ mm1
theorem mm3 {a b c d : Cond} {l : List Cond} : d ∈ a :: b :: c :: d :: l := List.mem_cons_of_mem _ mm2
theorem arrV_cg {c : ClassId} {n : Nat} {f g : Nat → Value} (h : ∀ j, j < n → f j = g j) : arrV c n f = arrV c n g := by
  unfold arrV
  congr 1
  congr 1
  funext j
  exact h j.val j.isLt
/-- the classes of rows of lines, and of rows of rows, are known at the start -/
def AO (G : GT) : Prop := ∃ args : Array Value, (Cond.arrayOver (.object "TramLines$Line")).before args (s0G G) = true ∧ (Cond.arrayOver (.array .int)).before args (s0G G) = true
theorem aoK {G : GT} {s : State} {args a0 : Array Value} {ty : FieldType} (hV : GV G s) (h : (Cond.arrayOver ty).before a0 (s0G G) = true) : (Cond.arrayOver ty).before args s = true := by
  have h1 : (Cond.arrayOver ty).before a0 ((s0G G).setVm s.vm) = true := by rw [Cond.arrayOver_setVmC hV.2.1.alike]; exact h
  simp only [Cond.before, Cond.holds, Cond.value] at h1 ⊢
  exact h1
section Mk2
variable {G : GT} {Y : YT} {d mc ms n0 w pc : Nat} {es' es : List va_E} {lv : List (Nat × Value)} {st : List Value}
theorem simE_set {A : Nat → Prop} {H H1 : Heap} {i : Nat} {e0 e : va_E} (h : SimE G es H) (hi : es[i]? = some e0) (he : va_P (dG G) vwCl ((wE G es).set i (bG G + i, e)) H1) : SimE G (es.set i e) H1 := by
  unfold SimE
  rw [← wE_set]
  exact he
theorem ec_icmp_ge {a b o : Int} (tgt : Nat) (dd : decode (yC Y) pc = .ok (.if_icmp .ge o, 3)) (ht : (pc : Int) + o = (tgt : Int)) (ha : I32 a) (hb : I32 b) (kt : ¬ a < b → EvE G Y d mc ms n0 es' w tgt lv st es) (kf : a < b → EvE G Y d mc ms n0 es' w (pc + 3) lv st es) : EvE G Y d mc ms n0 es' w pc lv (iv b :: iv a :: st) es := by
  intro p e s m args below meth c H locs ls cells slots C hm hl hs hS hz hc hn
  refine lv_icmp_ge C.1 C.2.1 dd ht (fun q => ?_) (fun q => ?_)
  · exact kt (fun z => by first | exact q ((J_lt ha hb).mpr z) | exact absurd ((J_lt ha hb).mpr z) (by first | exact Int32.not_lt.mpr q | exact q)) p e s m args below meth c H locs ls cells slots C hm hl hs hS hz hc hn
  · exact kf ((J_lt ha hb).mp (by first | exact q | exact Int32.not_le.mp q)) p e s m args below meth c H locs ls cells slots C hm hl hs hS hz hc hn
/-- the words of a class's fields -/
def clOK (ci : Nat) (C : String) (T : u_T) (N : Nat) : Prop := vwCl[ci]? = some (C, T, N) ∧ ∀ w ∈ u_ws C T N, w ∈ lw_all
theorem ec_new {ci N idx q : Nat} {C : String} {T : u_T} {fs : List Value} (ty : Nat → FieldType) (hcl : clOK ci C T N) (hty : ∀ k, k < N → parseFieldDescriptor (T k).2.2.1 = some (ty k)) (hfs : ∀ j, j < N → defaultValue (ty j) = vp_V fs j) (hw : inAll [Cond.classLink (yN Y).cls idx C, Cond.instantiable C N, Cond.initialized C] = true)
    (dd : decode (yC Y) pc = .ok (.new idx, 3)) (h1 : es.length + 1 ≤ n0 + mc) (h2 : w + N ≤ ms) (hq : bG G + es.length = q) (k : EvE G Y d mc ms n0 es' (w + N) (pc + 3) lv (.ref q :: st) (es ++ [.inr (ci, fs)])) : EvE G Y d mc ms n0 es' w pc lv st es := by
  intro p e s m args below meth c H locs ls cells slots C9 hm hl hs hS hz hc hn
  have hV := C9.2.2.2.2.2.2.2.1
  have hts := C9.2.2.2.2.1
  have hi := inAll_mem hw
  have hKn := hV.K.1 ci _ hcl.1
  refine ec_sz hs hS hz hc (fun hH => ?_)
  refine W.newcK C9.1 C9.2.1 C9.2.2.2.1 (hts _ (hi _ mm0)) (hts _ (hi _ mm1)) (hts _ (hi _ mm2)) rfl dd ?_ ?_ hKn.2.1 hH (fun H1 kC hkC e1 z1 o1 => ?_)
  · show cells + 1 ≤ mc
    omega
  · show slots + N ≤ ms
    omega
  · subst hq
    refine k p e s m args below meth c H1 locs ls (cells + 1) (slots + N) C9 hm hl ?_ ⟨Nat.le_trans hS.1 (by omega), fun x h1 h2 => (o1 x (by have := hS.1; omega)).trans (hS.2.1 x h1 h2), hS.2.2⟩ hz (by rw [List.length_append]; show n0 + (cells + 1) ≤ es.length + 1; omega) (by omega)
    unfold SimE
    rw [← wE_app]
    refine (va_P.kept hs (fun k x hx => o1 x.1 (by have := (hs k x hx).lt; omega))).app (fun k x hx => ?_)
    have h0 : k < 1 := (List.getElem?_eq_some_iff.mp hx).1
    rw [show k = 0 by omega] at hx
    cases hx
    exact ⟨_, hcl.1, (u_born ty hts (hcl.2) hKn hkC e1 hty).to hfs⟩
/-- a field, final or not, in the constructor of its class -/
theorem ec_put {ci k i N idx : Nat} {C : String} {T : u_T} {fs : List Value} {v : Value} {ty : FieldType} (t0 : Nat → FieldType) (hcl : clOK ci C T N) (hk : k < N) (hw : inAll [Cond.fieldLink (yN Y).cls idx (T k).1 (T k).2.1 (T k).2.2.1] = true) (hty : ∀ k, k < N → parseFieldDescriptor (T k).2.2.1 = some (t0 k))
    (hnm : ∀ a, a < N → ∀ b, b < N → a ≠ b → (T a).2.1 ≠ (T b).2.1) (hini : (yN Y).name = "<init>") (hdecl : (T k).1 = (yN Y).cls) (hd : parseFieldDescriptor (T k).2.2.1 = some ty) (hn9 : narrow ty v = v) (hfit : fits ty v = true) (hlen : k < fs.length)
    (dd : decode (yC Y) pc = .ok (.putfield idx, 3)) (hi : es[i]? = some (.inr (ci, fs))) (kk : EvE G Y d mc ms n0 es' w (pc + 3) lv st (es.set i (.inr (ci, fs.set k v)))) : EvE G Y d mc ms n0 es' w pc lv (v :: .ref (bG G + i) :: st) es := by
  intro p e s m args below meth c H locs ls cells slots C9 hm hl hs hS hz hc hn
  have hV := C9.2.2.2.2.2.2.2.1
  have hts := C9.2.2.2.2.1
  have hlk := hts _ (inAll_mem hw _ mm0)
  have fin : ∀ (H1 : Heap) (locs1 : List Loc), va_P (dG G) vwCl ((wE G es).set i (bG G + i, .inr (ci, fs.set k v))) H1 → va_D (AG G) ((wE G es).set i (bG G + i, .inr (ci, fs.set k v))) → va_S (AG G) s.heap H1 locs1 → W p (lG G) e (rmC d mc ms) s m args below meth c H1 locs1 cells slots (MQ below (QcE G es') args s mc ms (AG G)) (F0 m (pc + 3) ls st) := fun H1 locs1 hP _ hS1 =>
    kk p e s m args below meth c H1 locs1 ls cells slots C9 hm hl (simE_set (A := AG G) hs hi hP) hS1 hz (by rw [List.length_set]; exact hc) hn
  by_cases hf : (T k).2.2.2 = true
  · exact va_putF C9.1 C9.2.1 hts (hcl.2) t0 hty hnm C9.2.2.2.1 hV.K hs wE_D hS i (wE_at hi) hcl.1 k hk hlk (fun _ h => h) hf (by rw [hm, hini]) hdecl hd hn9 hfit hlen dd fin
  · exact va_put C9.1 C9.2.1 hts (hcl.2) t0 hty hnm C9.2.2.2.1 hV.K hs wE_D hS i (wE_at hi) hcl.1 k hk hlk (fun _ h => h) (by simpa using hf) hd hn9 hfit hlen dd fin
theorem ec_get {ci k i N idx : Nat} {C : String} {T : u_T} {fs : List Value} {v : Value} (hcl : clOK ci C T N) (hk : k < N) (hw : inAll [Cond.fieldLink (yN Y).cls idx (T k).1 (T k).2.1 (T k).2.2.1] = true) (dd : decode (yC Y) pc = .ok (.getfield idx, 3)) (hi : es[i]? = some (.inr (ci, fs))) (hv : fs[k]? = some v)
    (kk : EvE G Y d mc ms n0 es' w (pc + 3) lv (v :: st) es) : EvE G Y d mc ms n0 es' w pc lv (.ref (bG G + i) :: st) es := by
  intro p e s m args below meth c H locs ls cells slots C9 hm hl hs hS hz hc hn
  exact va_get C9.1 C9.2.1 C9.2.2.2.2.1 (hcl.2) C9.2.2.2.1 C9.2.2.2.2.2.2.2.1.K hs i (wE_at hi) hcl.1 k hk (C9.2.2.2.2.1 _ (inAll_mem hw _ mm0)) (fun _ h => h) hv dd (kk p e s m args below meth c H locs ls cells slots C9 hm hl hs hS hz hc hn)
theorem ec_iast {i n : Nat} {k x : Int} {f : Nat → Int32} (dd : decode (yC Y) pc = .ok (.iastore, 1)) (hi : es[i]? = some (.inl (cyG G 0, n, .inl f))) (hn9 : n ≤ 100000) (h0 : 0 ≤ k) (h1 : k < (n : Int)) (kk : EvE G Y d mc ms n0 es' w (pc + 1) lv st (es.set i (.inl (cyG G 0, n, .inl (upd f k.toNat (J x)))))) : EvE G Y d mc ms n0 es' w pc lv (iv x :: iv k :: .ref (bG G + i) :: st) es := by
  intro p e s m args below meth c H locs ls cells slots C hm hl hs hS hz hc hn
  have hii := i32_idx h0 h1 hn9
  refine va_iast C.1 C.2.1 C.2.2.2.2.2.2.2.1.K hs wE_D hS i 0 (wE_at hi) rfl (J_in h0 h1 hn9) dd (fun H1 locs1 hP hD hS => ?_)
  rw [J_clamp hii] at hP
  exact kk p e s m args below meth c H1 locs1 ls cells slots C hm hl (simE_set (A := AG G) hs hi hP) hS hz (by rw [List.length_set]; exact hc) hn
theorem ec_zast {i n : Nat} {k x : Int} {f : Nat → Int32} (dd : decode (yC Y) pc = .ok (.bastore, 1)) (hi : es[i]? = some (.inl (cyG G 1, n, .inl f))) (hn9 : n ≤ 100000) (h0 : 0 ≤ k) (h1 : k < (n : Int)) (hx : vp_nar .boolean (J x) = J x) (kk : EvE G Y d mc ms n0 es' w (pc + 1) lv st (es.set i (.inl (cyG G 1, n, .inl (upd f k.toNat (J x)))))) : EvE G Y d mc ms n0 es' w pc lv (iv x :: iv k :: .ref (bG G + i) :: st) es := by
  intro p e s m args below meth c H locs ls cells slots C hm hl hs hS hz hc hn
  have hii := i32_idx h0 h1 hn9
  refine va_zast C.1 C.2.1 C.2.2.2.2.2.2.2.1.K hs wE_D hS i 1 (wE_at hi) rfl (J_in h0 h1 hn9) dd (fun H1 locs1 hP hD hS => ?_)
  rw [J_clamp hii, hx] at hP
  exact kk p e s m args below meth c H1 locs1 ls cells slots C hm hl (simE_set (A := AG G) hs hi hP) hS hz (by rw [List.length_set]; exact hc) hn
/-- a cell told otherwise -/
theorem ec_tell {i n : Nat} {c : ClassId} {a b : vp_A} (hi : es[i]? = some (.inl (c, a))) (hab : vp_cell c a = vp_cell c b) (k : EvE G Y d mc ms n0 es' w pc lv st (es.set i (.inl (c, b)))) : EvE G Y d mc ms n0 es' w pc lv st es := by
  intro p e s m args below meth c9 H locs ls cells slots C hm hl hs hS hz hc hn
  refine k p e s m args below meth c9 H locs ls cells slots C hm hl ?_ hS hz (by rw [List.length_set]; exact hc) hn
  unfold SimE
  rw [← wE_set]
  refine va_P.set hs wE_D (wE_at hi) ?_ (fun _ _ => rfl)
  have h9 := hs i _ (wE_at hi)
  show H[bG G + i]? = some (vp_cell c b)
  rw [← hab]
  exact h9
/-- a row of lines -/
theorem ec_anew {idx q : Nat} (hw : inAll [Cond.classLink (yN Y).cls idx "TramLines$Line"] = true) (ho : AO G) (dd : decode (yC Y) pc = .ok (.anewarray idx, 3)) {n : Nat} (hn9 : n ≤ 100000) (h1 : es.length + 1 ≤ n0 + mc) (h2 : w + n ≤ ms) (hq : bG G + es.length = q)
    (k : EvE G Y d mc ms n0 es' (w + n) (pc + 3) lv (.ref q :: st) (es ++ [.inl (cyG G 3, n, .inr (.inr (.inr (.inr (fun _ => none)))))])) : EvE G Y d mc ms n0 es' w pc lv (iv (n : Int) :: st) es := by
  intro p e s m args below meth c H locs ls cells slots C hm hl hs hS hz hc hn
  have hV := C.2.2.2.2.2.2.2.1
  have hts := C.2.2.2.2.1
  have hi := inAll_mem hw
  have hni : I32 (n : Int) := by unfold I32; omega
  have hcl : (J (n : Int)).toNatClampNeg = n := by rw [J_clamp hni]; omega
  refine ec_sz hs hS hz hc (fun hH => ?_)
  refine W.anew C.1 C.2.1 C.2.2.2.1 (hts _ (hi _ mm0)) (aoK hV ho.choose_spec.1) rfl dd rfl ?_ (by rw [hcl]; omega) ?_ ?_ (fun cA kA comp f1 f2 f3 f4 => ?_)
  · have h0' : (0 : Int32) = J 0 := rfl
    rw [h0', J_lt hni I32_0]; omega
  · show cells + 1 ≤ mc
    omega
  · rw [hcl]
    show slots + n ≤ ms
    omega
  · rw [hcl]
    have hc9 : cA = cyG G 3 := by
      obtain ⟨kB, cB, -, -, -, h9⟩ := (hV.K.2 3 (cyG G 3, .object "TramLines$Line") rfl).2
      rw [f1] at h9
      exact Option.some.inj h9
    subst hc9
    generalize hH1 : H.push ({ cls := cyG G 3, slots := Array.replicate n .null, vm := .none } : Cell) = H1
    have z1 : H1.size = H.size + 1 := by rw [← hH1, Array.size_push]
    have e1 : H1[H.size]? = some (arrV (cyG G 3) n (fun _ => .null)) := by rw [← hH1, Array.getElem?_push_size, ← arrV_new]
    have o1 : ∀ q : Nat, q < H.size → H1[q]? = H[q]? := fun q hq => by rw [← hH1, Array.getElem?_push, if_neg (Nat.ne_of_lt hq)]
    subst hq
    rw [hH] at e1 o1 ⊢
    refine k p e s m args below meth c H1 locs ls (cells + 1) (slots + n) C hm hl ?_ ⟨Nat.le_trans hS.1 (by omega), fun x h1 h2 => (o1 x (by have := hS.1; omega)).trans (hS.2.1 x h1 h2), hS.2.2⟩ hz (by rw [List.length_append]; show n0 + (cells + 1) ≤ es.length + 1; omega) (by omega)
    unfold SimE
    rw [← wE_app]
    refine (va_P.kept hs (fun k x hx => o1 x.1 (by have := (hs k x hx).lt; omega))).app (fun k x hx => ?_)
    have h0 : k < 1 := (List.getElem?_eq_some_iff.mp hx).1
    rw [show k = 0 by omega] at hx
    cases hx
    exact e1
/-- rows of numbers in a row -/
theorem ec_mna {idx q : Nat} (hw : inAll [Cond.classLink (yN Y).cls idx ("[" ++ (FieldType.array .int).toString), Cond.arrayClass .int] = true) (ho : AO G) (dd : decode (yC Y) pc = .ok (.multianewarray idx 2, 4)) {n k9 : Nat} (hn9 : n ≤ 10000) (hk9 : k9 ≤ 10000) (h1 : es.length + (1 + n) ≤ n0 + mc) (h2 : w + (n + n * k9) ≤ ms) (hq : bG G + es.length = q)
    (k : EvE G Y d mc ms n0 es' (w + (n + n * k9)) (pc + 4) lv (.ref q :: st) (es ++ (aQ (cyG G 4) n (fun j => some (q + 1 + j)) :: List.replicate n (.inl (cyG G 0, k9, .inl (fun _ => (0 : Int32))))))) : EvE G Y d mc ms n0 es' w pc lv (iv (k9 : Int) :: iv (n : Int) :: st) es := by
  intro p e s m args below meth c H locs ls cells slots C hm hl hs hS hz hc hn
  have hV := C.2.2.2.2.2.2.2.1
  have hts := C.2.2.2.2.1
  have hi := inAll_mem hw
  have hni : I32 (n : Int) := by unfold I32; omega
  have hki : I32 (k9 : Int) := by unfold I32; omega
  have hcn : (J (n : Int)).toNatClampNeg = n := by rw [J_clamp hni]; omega
  have hck : (J (k9 : Int)).toNatClampNeg = k9 := by rw [J_clamp hki]; omega
  have h0' : (0 : Int32) = J 0 := rfl
  refine ec_sz hs hS hz hc (fun hH => ?_)
  intro T hT Xs
  obtain ⟨vm₁, cA, comp, -, fA, fC, hO, -, X', step⟩ := Xs.multianewarray2F C.1 C.2.2.2.1 (ty := .int) (index := idx) (hts _ (hi _ mm0)) (aoK hV ho.choose_spec.2) (hts _ (hi _ mm1)) (g := F0 m pc ls (iv (k9 : Int) :: iv (n : Int) :: st)) rfl (by rw [C.2.1]; exact dd) rfl
    (by rw [h0', J_lt hni I32_0]; omega) (by rw [h0', J_lt hki I32_0]; omega) (by rw [hcn]; omega) (by rw [hck]; show k9 * 4 ≤ _; omega) (by rw [hck]; omega) rfl rfl (by rw [hcn]; show cells + (1 + n) ≤ mc; omega) (by rw [hcn, hck]; show slots + (n + n * k9) ≤ ms; omega)
  have ecA : cA = cyG G 4 := by
    have h9 : s.vm.findClass ("[" ++ (FieldType.array .int).toString) = some (cyG G 4) := (hV.K.2 4 (cyG G 4, .array .int) rfl).2
    rw [fA] at h9
    exact Option.some.inj h9
  have ecC : comp = cyG G 0 := by
    have h9 : s.vm.findClass ("[" ++ FieldType.int.toString) = some (cyG G 0) := (hV.K.2 0 (cyG G 0, .int) rfl).2
    have h8 : s.vm.findClass (FieldType.array .int).toString = some (cyG G 0) := h9
    rw [fC] at h8
    exact Option.some.inj h8
  subst ecA
  subst ecC
  rw [hcn, hck] at X' step
  generalize hF : Jvm.Free.Multi.fill (T.setVm vm₁) (cyG G 4) (cyG G 0) n k9 (defaultValue .int) n = F at X' step
  have hTh : (T.setVm vm₁).heap = H := hT
  obtain ⟨f1, f2, -, -⟩ := Jvm.Free.Multi.fill_facts (T.setVm vm₁) (cyG G 4) (cyG G 0) n k9 (defaultValue .int) n
  rw [hF, hTh] at f1 f2
  have hold : ∀ x : Nat, x < H.size → F.heap[x]? = H[x]? := fun x hx => by
    have := Jvm.Free.Multi.fill_old (T.setVm vm₁) (cyG G 4) (cyG G 0) n k9 (defaultValue .int) (a := x) (by rw [hTh]; exact hx) n
    rw [hF, hTh] at this
    exact this
  have hrow : ∀ j : Nat, j < n → F.heap[H.size + 1 + j]? = some (Jvm.Free.Multi.innerC (cyG G 0) k9 (defaultValue .int)) := fun j hj => by
    have := Jvm.Free.Multi.fill_inner (T.setVm vm₁) (cyG G 4) (cyG G 0) n k9 (defaultValue .int) n j hj
    rw [hF, hTh] at this
    exact this
  rw [vr_outer] at f2
  subst hq
  rw [hT, hH] at step
  rw [hH] at f1 f2 hold hrow
  obtain ⟨t, a1, b1⟩ := k p e s m args below meth c F.heap locs ls (cells + 1 + n) (slots + n + n * k9) C hm hl (by
    unfold SimE
    intro k2 x hx
    rw [wE_get] at hx
    by_cases hk2 : k2 < es.length
    · rw [List.getElem?_append_left hk2] at hx
      have h9 : (wE G es)[k2]? = some x := by rw [wE_get]; exact hx
      exact va_P.kept hs (fun k x hx => hold x.1 (by have := (hs k x hx).lt; omega)) k2 x h9
    · rw [List.getElem?_append_right (by omega)] at hx
      by_cases hk3 : k2 = es.length
      · subst hk3
        rw [Nat.sub_self] at hx
        cases hx
        show F.heap[bG G + es.length]? = some (vp_cell _ _)
        rw [vp_cell_q, f2]
        congr 1
        exact arrV_cg (fun j hj => by rw [if_pos hj])
      · obtain ⟨j, hj⟩ : ∃ j, k2 - es.length = j + 1 := ⟨k2 - es.length - 1, by omega⟩
        rw [hj, List.getElem?_cons_succ, List.getElem?_replicate] at hx
        by_cases hjn : j < n
        · rw [if_pos hjn] at hx
          cases hx
          show F.heap[bG G + k2]? = some (vp_cell _ _)
          rw [show bG G + k2 = bG G + es.length + 1 + j by omega, hrow j hjn]
          congr 1
          show ({ cls := cyG G 0, slots := Array.replicate k9 (defaultValue .int), vm := .none } : Cell) = _
          rw [arrV_new]
          rfl
        · rw [if_neg hjn] at hx
          cases hx) ⟨by have := hS.1; omega, fun x h1 h2 => (hold x (by have := hS.1; omega)).trans (hS.2.1 x h1 h2), hS.2.2⟩ hz (by rw [List.length_append, List.length_cons, List.length_replicate]; omega) (by omega) F rfl X'
  exact ⟨t, step t a1, b1⟩
/-- a constructor is called -/
theorem ec_init {Y' : YT} {idx d' mc' ms' : Nat} {es1 : List va_E} {b : Nat} (hw : inAll [Cond.instanceMethod (yN Y'), Cond.initialized (yN Y').cls, Cond.code (yN Y') (yC Y') (yL Y') (yR Y')] = true) (hlk : Cond.methodLink (yN Y).cls idx (yN Y') ∈ lw_all ∨ Cond.methodLinkNest (yN Y).cls idx (yN Y') "TramLines" ∈ lw_tbl) (hy : (yN Y').name = "<init>") (hr : yR Y' = none)
    (hd : (yN Y').cls ≠ "java/lang/invoke/MethodHandle" ∧ (yN Y').cls ≠ "java/lang/invoke/VarHandle" ∧ (parseMethodDescriptor (yN Y').desc).map (fun d => d.parameters.length) = some 0) (dd : decode (yC Y) pc = .ok (.invokespecial idx, 3)) (hlv : d' + 1 ≤ d) (hmx : yL Y' ≤ 27) (hst : (st.map fun v => v.category).sum ≤ 8) (h1 : es.length + mc' ≤ n0 + mc) (h2 : w + ms' ≤ ms) (hlen : es1.length = es.length + mc')
    (hc9 : CallE G d' mc' ms' Y' [.ref b] es es1) (k : EvE G Y d mc ms n0 es' (w + ms') (pc + 3) lv st es1) : EvE G Y d mc ms n0 es' w pc lv (.ref b :: st) es := by
  intro p e s m args below meth c H locs ls cells slots C hm hl hs hS hz hc hn
  have hts := C.2.2.2.2.1
  have hi := inAll_mem hw
  refine ec_sz hs hS hz hc (fun hH => ?_)
  have gin : GoodIn lw_all (wsY Y') := all_in (fun w hw => by
      rcases List.mem_cons.mp hw with rfl | hw
      · exact hi _ mm2
      · exact hw)
  have ews : wsY Y' = Cond.code (yN Y') (yC Y') (yL Y') none :: lw_all := by unfold wsY; rw [hr]
  have rmo : (rmC d' mc' ms').frames + 1 ≤ (rmC d mc ms).frames ∧ 8 + (yL Y' + 11) + (rmC d' mc' ms').locals ≤ (rmC d mc ms).locals := ⟨hlv, by show 8 + (yL Y' + 11) + 46 * d' ≤ 46 * d; omega⟩
  have prs : PreS s H (PcE G [.ref b] es) [.ref b] := ⟨PcE_blind, fun U9 hU hW => ⟨rfl, C.2.2.2.2.2.2.2.1.at hS hU hW, by rw [hU]; exact hs, by rw [hU]; exact hH⟩⟩
  have run : va_Run p (lG G) e (rmC d mc ms) s m args below meth c H locs cells slots mc' ms' (F0 m pc ls (.ref b :: st)) st (QcE G es1 (Value.ref b :: []).toArray) (AG G) := by
    rcases hlk with hlk | hlk
    · exact va_runI (b := b) (As := []) (rest := st) ⟨C.1, C.2.1, C.2.2.1, C.2.2.2.1, hts⟩ hc9 (cwI (rm := rmC d' mc' ms') (bytes := yC Y') (maxL := yL Y') (ws' := lw_all) 0 hts gin ews rfl rfl (hts _ (hi _ mm1)) (hts _ hlk) (hts _ (hi _ mm0)) hy hd rmo) prs rfl rfl hl.1 rfl (lv_room hst) dd ⟨by show cells + mc' ≤ mc; omega, by show slots + ms' ≤ ms; omega⟩
    · have hV := C.2.2.2.2.2.2.2.1
      exact va_runIN (b := b) (As := []) (rest := st) (host := "TramLines") ⟨C.1, C.2.1, C.2.2.1, C.2.2.2.1, hts⟩ hc9 ⟨va_cnB (rm := rmC d' mc' ms') (bytes := yC Y') (maxL := yL Y') (ws' := lw_all) 0 hts gin ews rfl rfl (va_Nw.warmM hV.2.1 (hV.1.2.2.2.1 _ hlk rfl)) (hts _ (hi _ mm1)) hd rmo, hy, hts _ (hi _ mm0)⟩ prs rfl rfl hl.1 rfl (lv_room hst) dd ⟨by show cells + mc' ≤ mc; omega, by show slots + ms' ≤ ms; omega⟩
  intro T hT X
  obtain ⟨v, st₀, t, T', L, h0, X', hL, e1, e2, ⟨⟨hv, hp, hb⟩, hz9, hk⟩, go⟩ := run T hT X
  cases hv
  rw [h0] at hz9 hk
  obtain ⟨t2, a1, b1⟩ := k p e s m args below meth c T'.heap (locs ++ L) ls (cells + mc') (slots + ms') C hm hl (by rw [e1]; exact hp) ⟨by rw [e1]; exact Nat.le_trans hS.1 hz9, fun q g1 g2 => by
      rw [e1, hk q (Nat.lt_of_lt_of_le g1 hS.1) (fun z => g2 z)]
      exact hS.2.1 q g1 g2, fun q hq => by
      rcases List.mem_append.mp hq with h | h
      · exact hS.2.2 q h
      · exact hL q h⟩ hz (by omega) (by omega) T' rfl X'
  exact ⟨t2, go t2 a1, b1⟩
end Mk2
