/-! the same for lw_tbl (by program) -/
theorem tb_len : (k2_sels lw_privs).length = 87 := by decide +kernel
theorem tb0 (j : Nat) {i : Nat} {w : Cond} (h : (k2_sels lw_privs)[j]? = some w) (e : j = i) : lw_tbl[i]? = some w := by
  subst e
  exact tt_here h
theorem tb1 (j : Nat) {i : Nat} {w : Cond} (h : tables_1_1[j]? = some w) (e : 87 + (j) = i) : lw_tbl[i]? = some w := tt_there tb_len e (tt1 j h rfl)
theorem tb2 (j : Nat) {i : Nat} {w : Cond} (h : tables_1_2[j]? = some w) (e : 87 + (240 + (j)) = i) : lw_tbl[i]? = some w := tt_there tb_len e (tt2 j h rfl)
theorem tb3 (j : Nat) {i : Nat} {w : Cond} (h : tables_1_3[j]? = some w) (e : 87 + (240 + (240 + (j))) = i) : lw_tbl[i]? = some w := tt_there tb_len e (tt3 j h rfl)
theorem tb4 (j : Nat) {i : Nat} {w : Cond} (h : tables_1_4[j]? = some w) (e : 87 + (240 + (240 + (240 + (j)))) = i) : lw_tbl[i]? = some w := tt_there tb_len e (tt4 j h rfl)
theorem tb5 (j : Nat) {i : Nat} {w : Cond} (h : tables_1_5[j]? = some w) (e : 87 + (240 + (240 + (240 + (240 + (j))))) = i) : lw_tbl[i]? = some w := tt_there tb_len e (tt5 j h rfl)
theorem tb6 (j : Nat) {i : Nat} {w : Cond} (h : tables_1_6[j]? = some w) (e : 87 + (240 + (240 + (240 + (240 + (240 + (j)))))) = i) : lw_tbl[i]? = some w := tt_there tb_len e (tt6 j h rfl)
theorem tb7 (j : Nat) {i : Nat} {w : Cond} (h : tables_1_7[j]? = some w) (e : 87 + (240 + (240 + (240 + (240 + (240 + (240 + (j))))))) = i) : lw_tbl[i]? = some w := tt_there tb_len e (tt7 j h rfl)
theorem tb8 (j : Nat) {i : Nat} {w : Cond} (h : tables_1_8[j]? = some w) (e : 87 + (240 + (240 + (240 + (240 + (240 + (240 + (240 + (j)))))))) = i) : lw_tbl[i]? = some w := tt_there tb_len e (tt8 j h rfl)
theorem tb9 (j : Nat) {i : Nat} {w : Cond} (h : tables_1_9[j]? = some w) (e : 87 + (240 + (240 + (240 + (240 + (240 + (240 + (240 + (240 + (j))))))))) = i) : lw_tbl[i]? = some w := tt_there tb_len e (tt9 j h rfl)
