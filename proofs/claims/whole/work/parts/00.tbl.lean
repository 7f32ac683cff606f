/-! a place of the words' table by its place in a piece of it (by program) -/
theorem tt_here {l m : List Cond} {j : Nat} {w : Cond} (h : l[j]? = some w) : (l ++ m)[j]? = some w := by
  obtain ⟨hj, _⟩ := List.getElem?_eq_some_iff.mp h
  rw [List.getElem?_append_left hj]
  exact h
theorem tt_there {l m : List Cond} {n i j : Nat} {w : Cond} (hl : l.length = n) (e : n + j = i) (h : m[j]? = some w) : (l ++ m)[i]? = some w := by
  subst hl
  subst e
  rw [List.getElem?_append_right (Nat.le_add_right _ _), Nat.add_sub_cancel_left]
  exact h
theorem tt_len1 : tables_1_1.length = 240 := by decide +kernel
theorem tt_len2 : tables_1_2.length = 240 := by decide +kernel
theorem tt_len3 : tables_1_3.length = 240 := by decide +kernel
theorem tt_len4 : tables_1_4.length = 240 := by decide +kernel
theorem tt_len5 : tables_1_5.length = 240 := by decide +kernel
theorem tt_len6 : tables_1_6.length = 240 := by decide +kernel
theorem tt_len7 : tables_1_7.length = 240 := by decide +kernel
theorem tt_len8 : tables_1_8.length = 240 := by decide +kernel
theorem tt1 (j : Nat) {i : Nat} {w : Cond} (h : tables_1_1[j]? = some w) (e : j = i) : tables_1[i]? = some w := by
  subst e
  exact tt_here h
theorem tt2 (j : Nat) {i : Nat} {w : Cond} (h : tables_1_2[j]? = some w) (e : 240 + (j) = i) : tables_1[i]? = some w := by
  subst e
  exact tt_there tt_len1 rfl (tt_here h)
theorem tt3 (j : Nat) {i : Nat} {w : Cond} (h : tables_1_3[j]? = some w) (e : 240 + (240 + (j)) = i) : tables_1[i]? = some w := by
  subst e
  exact tt_there tt_len1 rfl (tt_there tt_len2 rfl (tt_here h))
theorem tt4 (j : Nat) {i : Nat} {w : Cond} (h : tables_1_4[j]? = some w) (e : 240 + (240 + (240 + (j))) = i) : tables_1[i]? = some w := by
  subst e
  exact tt_there tt_len1 rfl (tt_there tt_len2 rfl (tt_there tt_len3 rfl (tt_here h)))
theorem tt5 (j : Nat) {i : Nat} {w : Cond} (h : tables_1_5[j]? = some w) (e : 240 + (240 + (240 + (240 + (j)))) = i) : tables_1[i]? = some w := by
  subst e
  exact tt_there tt_len1 rfl (tt_there tt_len2 rfl (tt_there tt_len3 rfl (tt_there tt_len4 rfl (tt_here h))))
theorem tt6 (j : Nat) {i : Nat} {w : Cond} (h : tables_1_6[j]? = some w) (e : 240 + (240 + (240 + (240 + (240 + (j))))) = i) : tables_1[i]? = some w := by
  subst e
  exact tt_there tt_len1 rfl (tt_there tt_len2 rfl (tt_there tt_len3 rfl (tt_there tt_len4 rfl (tt_there tt_len5 rfl (tt_here h)))))
theorem tt7 (j : Nat) {i : Nat} {w : Cond} (h : tables_1_7[j]? = some w) (e : 240 + (240 + (240 + (240 + (240 + (240 + (j)))))) = i) : tables_1[i]? = some w := by
  subst e
  exact tt_there tt_len1 rfl (tt_there tt_len2 rfl (tt_there tt_len3 rfl (tt_there tt_len4 rfl (tt_there tt_len5 rfl (tt_there tt_len6 rfl (tt_here h))))))
theorem tt8 (j : Nat) {i : Nat} {w : Cond} (h : tables_1_8[j]? = some w) (e : 240 + (240 + (240 + (240 + (240 + (240 + (240 + (j))))))) = i) : tables_1[i]? = some w := by
  subst e
  exact tt_there tt_len1 rfl (tt_there tt_len2 rfl (tt_there tt_len3 rfl (tt_there tt_len4 rfl (tt_there tt_len5 rfl (tt_there tt_len6 rfl (tt_there tt_len7 rfl (tt_here h)))))))
theorem tt9 (j : Nat) {i : Nat} {w : Cond} (h : tables_1_9[j]? = some w) (e : 240 + (240 + (240 + (240 + (240 + (240 + (240 + (240 + (j)))))))) = i) : tables_1[i]? = some w := by
  subst e
  exact tt_there tt_len1 rfl (tt_there tt_len2 rfl (tt_there tt_len3 rfl (tt_there tt_len4 rfl (tt_there tt_len5 rfl (tt_there tt_len6 rfl (tt_there tt_len7 rfl (tt_there tt_len8 rfl (h))))))))
