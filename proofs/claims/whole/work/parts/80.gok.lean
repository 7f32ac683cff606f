/-! ===== the start: classes, arrays, texts, static rows ===== -/
def clNs : List Nat := [4, 6, 4, 11, 4, 4, 4, 8, 5, 3, 5, 4, 8, 9, 39]
theorem cl_words : ((vwCl.zip clNs).all fun q => decide (Cond.instantiable q.1.1 q.2 ∈ lw_tbl) && (u_ws q.1.1 q.1.2.1 q.1.2.2).all fun w => decide (w ∈ lw_tbl)) = true := by decide +kernel
theorem cl_len : vwCl.length = clNs.length := rfl
theorem cl_known {s : State} {args : Array Value} (hts : ∀ w ∈ lw_tbl, w.before args s = true) (c : Nat) (q : vw_C) (hq : vwCl[c]? = some q) : ∃ (cC : ClassId) (iS : Nat → Nat), u_Kn s q.1 q.2.1 q.2.2 cC iS := by
  obtain ⟨hlt, he⟩ := List.getElem?_eq_some_iff.mp hq
  have hz : (vwCl.zip clNs)[c]? = some (q, clNs[c]'(by rw [← cl_len]; exact hlt)) := by
    rw [List.getElem?_zip_eq_some]
    exact ⟨hq, List.getElem?_eq_getElem _⟩
  have h := List.all_eq_true.mp cl_words _ (List.mem_of_getElem? hz)
  simp only [Bool.and_eq_true, decide_eq_true_eq, List.all_eq_true] at h
  exact u_known hts h.2 (hts _ h.1)
theorem arr_of {s : State} {ty : FieldType} {c : ClassId} {k : Class} {comp : ClassId} (hk : s.vm.classes[c]? = some k) (hd : k.kind = .array comp ty) : ArrOfT s c ty := fun _ _ => ⟨(fun _ h => by cases h), k, hk, comp, hd⟩
theorem sa_of {s : State} {args : Array Value} {A : Nat → Prop} (hA : ∀ a : Nat, a < s.heap.size → ¬ A a) {nm : String} {l : List Int} (h1 : (Cond.laysStatic "TramLines" nm "[I").before args s = true) (h2 : (Cond.initialized "TramLines").before args s = true)
    (h3 : (Cond.arrayOf (.static "TramLines" nm "[I") .int).before args s = true) (h4 : (Cond.eq (.length (.static "TramLines" nm "[I")) (.int 3)).before args s = true)
    (h5 : ∀ j : Nat, j < 3 → (Cond.eq (.elem (.static "TramLines" nm "[I") (.int (Int32.ofNat j))) (.int (J (l.getD j 0)))).before args s = true) :
    ∃ t : Nat, va_Z "TramLines" nm "[I" (.ref t) A s s.heap ∧ va_T .int t 3 (fun k => .int (J (l.getD k 0))) A s s.heap := by
  obtain ⟨t, ht, hT⟩ := va_Tof (N := 3) (f := fun k => .int (J (l.getD k 0))) (A := A) (by decide) h3 (va_eqt h4) (fun j hj => va_eqt (h5 j hj)) hA
  exact ⟨t, va_Zref h1 h2 ht hA, hT⟩
theorem str_okB : (lw_tbl.all fun w => match w with | .stringRef own k _ => decide (Cond.exactly (.string own k) "java/lang/String" ∈ flatC (Jvm.Cond.and given_1 narrow_1)) | _ => true) = true := by decide +kernel
theorem str_ok {own tx : String} {k : Nat} (h : Cond.stringRef own k tx ∈ lw_tbl) : Cond.exactly (.string own k) "java/lang/String" ∈ flatC (Jvm.Cond.and given_1 narrow_1) := by
  have h2 := List.all_eq_true.mp str_okB _ h
  exact of_decide_eq_true h2
theorem gok {p : Program} {s : State} {m : MethodId} {meth : Method} {c : Code} (l : Launch) (hflags : l.flags = flags0) {b L : Nat} {xs : Nat → Int32} (C0 : lw_At p s m meth c b L xs) : ∃ G : GT, GOK G ∧ s0G G = s ∧ lG G = l := by
  obtain ⟨hx, hb, hr, hml, hown, hts, hX, hbl, hlk, hgv⟩ := C0
  have fl := flat_of_before _ hgv
  -- classes
  have hcl : ∀ c : Nat, ∃ q2 : ClassId × (Nat → Nat), ∀ q, vwCl[c]? = some q → u_Kn s q.1 q.2.1 q.2.2 q2.1 q2.2 := fun c => by
    cases hq : vwCl[c]? with
    | none => exact ⟨(0, id), fun q h => by cases h⟩
    | some q =>
      obtain ⟨cC, iS, h⟩ := cl_known hts c q hq
      exact ⟨(cC, iS), fun q' h' => by cases h'; exact h⟩
  -- arrays
  have prim : ∀ ty : FieldType, Cond.arrayClass ty ∈ lw_tbl → ∃ cA, ArrOfT s cA ty ∧ s.vm.findClass ("[" ++ ty.toString) = some cA := fun ty h => by
    obtain ⟨cA, k, comp, h1, h2, h3⟩ := Cond.arrayClass_spec (hts _ h)
    exact ⟨cA, arr_of h2 h3, h1⟩
  obtain ⟨c0, a0, r0⟩ := prim .int (List.mem_of_getElem? (i := 166) (tb1 79 (by decide +kernel) rfl))
  obtain ⟨c1, a1, r1⟩ := prim .boolean (List.mem_of_getElem? (i := 167) (tb1 80 (by decide +kernel) rfl))
  obtain ⟨c2, a2, r2⟩ := prim .char (List.mem_of_getElem? (i := 474) (tb2 147 (by decide +kernel) rfl))
  obtain ⟨c5, a5, r5⟩ := prim .long (List.mem_of_getElem? (i := 2009) (tb9 2 (by decide +kernel) rfl))
  obtain ⟨c6, a6, r6⟩ := prim .double (List.mem_of_getElem? (i := 2010) (tb9 3 (by decide +kernel) rfl))
  obtain ⟨cp3, c3, k3, f3, -, g3, d3, n3⟩ := Cond.arrayOver_spec (hts (.arrayOver (.object "TramLines$Line")) (List.mem_of_getElem? (i := 299) (tb1 212 (by decide +kernel) rfl)))
  obtain ⟨cp4, c4, k4, f4, -, g4, d4, n4⟩ := arrayOverA_spec (hts (.arrayOver (.array .int)) (List.mem_of_getElem? (i := 218) (tb1 131 (by decide +kernel) rfl)))
  have hA : ∀ a : Nat, a < s.heap.size → ¬ s.heap.size ≤ a := fun a h => by omega
  have ini : ∀ C : String, Cond.initialized C ∈ lw_tbl → (Cond.initialized C).before #[Value.ref b] s = true := fun C h => hts _ h
  have hT0 : (Cond.initialized "TramLines").before #[Value.ref b] s = true := ini _ (by decide +kernel)
  have hTh : (Cond.initialized "java/lang/Throwable").before #[Value.ref b] s = true := ini _ (by decide +kernel)
  refine ⟨(s, (fun c => (Classical.choose (hcl c)).1, fun c => (Classical.choose (hcl c)).2), (fun k => if k = 0 then c0 else if k = 1 then c1 else if k = 2 then c2 else if k = 3 then c3 else if k = 4 then c4 else if k = 5 then c5 else c6), l), ⟨⟨fun c q hq => Classical.choose_spec (hcl c) q hq, fun k q hk => ?_⟩, ?_, ⟨?_, ?_⟩, fun w hw ht => va_Nw.of ht (hts w hw), fun own k tx hw => ?_, ?_, ?_, ?_⟩, rfl, rfl⟩
  · match k, hk with
    | 0, hk => cases hk; exact ⟨a0, r0⟩
    | 1, hk => cases hk; exact ⟨a1, r1⟩
    | 2, hk => cases hk; exact ⟨a2, r2⟩
    | 3, hk => cases hk; exact ⟨arr_of g3 d3, k3, cp3, g3, d3, f3, n3⟩
    | 4, hk => cases hk; exact ⟨arr_of g4 d4, n4⟩
    | 5, hk => cases hk; exact ⟨a5, r5⟩
    | 6, hk => cases hk; exact ⟨a6, r6⟩
    | k + 7, hk => cases hk
  · show l.stackTraces = false
    unfold Launch.stackTraces
    rw [hflags]
    decide
  · exact vx_Zqof (hts _ (List.mem_of_getElem? (i := 682) (tb3 115 (by decide +kernel) rfl))) hTh (fl _ (by decide +kernel)) hA
  · exact vx_Zqof (hts _ (List.mem_of_getElem? (i := 684) (tb3 117 (by decide +kernel) rfl))) hTh (fl _ (by decide +kernel)) hA
  · have h1 := fl _ (str_ok hw)
    have h2 : ∃ sa, (Term.string own k).eval #[Value.ref b] s none [] s = some (.ref sa) := by
      cases hv : (Term.string own k).eval #[Value.ref b] s none [] s with
      | none => simp [Cond.before, Cond.holds, Cond.value, hv] at h1
      | some w =>
        simp only [Cond.before, Cond.holds, Cond.value, hv] at h1
        cases w with
        | ref t => exact ⟨t, rfl⟩
        | null => cases hc : s.vm.findClass "java/lang/String" <;> rw [hc] at h1 <;> cases h1
        | _ => simp at h1
    obtain ⟨sa, h3⟩ := h2
    exact ⟨sa, vk_R.of (hts _ hw) h3⟩
  · exact sa_of hA (hts _ (List.mem_of_getElem? (i := 839) (tb4 32 (by decide +kernel) rfl))) hT0 (fl _ (by decide +kernel)) (fl _ (by decide +kernel)) (fun j hj => by
      match j, hj with
      | 0, _ => exact fl _ (by decide +kernel)
      | 1, _ => exact fl _ (by decide +kernel)
      | 2, _ => exact fl _ (by decide +kernel))
  · exact sa_of hA (hts _ (List.mem_of_getElem? (i := 841) (tb4 34 (by decide +kernel) rfl))) hT0 (fl _ (by decide +kernel)) (fl _ (by decide +kernel)) (fun j hj => by
      match j, hj with
      | 0, _ => exact fl _ (by decide +kernel)
      | 1, _ => exact fl _ (by decide +kernel)
      | 2, _ => exact fl _ (by decide +kernel))
  · exact sa_of hA (hts _ (List.mem_of_getElem? (i := 139) (tb1 52 (by decide +kernel) rfl))) hT0 (fl _ (by decide +kernel)) (fl _ (by decide +kernel)) (fun j hj => by
      match j, hj with
      | 0, _ => exact fl _ (by decide +kernel)
      | 1, _ => exact fl _ (by decide +kernel)
      | 2, _ => exact fl _ (by decide +kernel))
