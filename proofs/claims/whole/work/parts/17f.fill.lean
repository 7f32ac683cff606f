/-! ===== Arrays.fill ===== -/
section Fl
variable {G : GT} {K : List Value → Mem → Prop} {X : String → Mem → Prop} {M : Mem}
theorem ev_alen {Y : YT} {R : Room} {u : Nat} {Z : ZT} {pc : Nat} {lv : List (Nat × Value)} {st : List Value} {a n : Nat} {i o : Int} (d : decode (yC Y) pc = .ok (.arraylength, 1)) (hd : dom a i o) (he : ∀ r, entR G a i o.toNat r = aI (cyG G 0) n r) (kk : Ev G Y R u Z (pc + 1) lv (iv (n : Int) :: st) M) : Ev G Y R u Z pc lv (rr G a i o :: st) M := by
  intro p e s m args below meth c H locs ls cells slots C hl hs hS hc hn
  refine va_alen C.1 C.2.1 C.2.2.2.2.2.2.2.1.K hs (off a i o) 0 ((wd_at hd).trans (by unfold entI; rw [he])) rfl (v := J (n : Int)) rfl d ?_
  exact kk p e s m args below meth c H locs ls cells slots C hl hs hS hc hn
def filF (f : Int → Int) (n v : Int) : Int → Int := fun k => if 0 ≤ k ∧ k < n then v else f k
theorem filF_0 (f : Int → Int) (v : Int) : filF f 0 v = f := by
  funext k
  exact if_neg (by omega)
theorem filF_step (f : Int → Int) {n v : Int} (h : 0 ≤ n) : upI (filF f n v) n v = filF f (n + 1) v := by
  funext k
  unfold upI filF
  by_cases hk : k = n
  · rw [if_pos hk, if_pos (by omega)]
  · rw [if_neg hk]
    by_cases h2 : 0 ≤ k ∧ k < n
    · rw [if_pos h2, if_pos (by omega)]
    · rw [if_neg h2, if_neg (by omega)]
theorem wrow_self (M : Mem) (a : Nat) (b c : Int) : wrow M a b c (M a b c) = M := by
  funext a' b' c'
  by_cases h : a' = a ∧ c' = c ∧ b' = b
  · obtain ⟨rfl, rfl, rfl⟩ := h
    rw [wrow_at]
  · exact wrow_ne h
theorem wrow_wr (M : Mem) (a : Nat) (b c k v : Int) (f : Int → Int) : wr (wrow M a b c f) a b c k v = wrow M a b c (upI f k v) := by
  unfold wr
  rw [wrow_at]
  funext a' b' c'
  by_cases h : a' = a ∧ c' = c ∧ b' = b
  · obtain ⟨rfl, rfl, rfl⟩ := h
    rw [wrow_at, wrow_at]
  · rw [wrow_ne h, wrow_ne h, wrow_ne h]
theorem sp_fill {a n : Nat} {i o v : Int} (hd : dom a i o) (he : ∀ r, entR G a i o.toNat r = aI (cyG G 0) n r) (hn9 : n ≤ 100000) (k : K [] (wrow M a i o (filF (M a i o) n v))) : Call G 1 0 zfill [rr G a i o, iv v] M K X := by
  have gen := loop_up (E := fun q => 0 ≤ q → Ex G zfill 1 0 K X 0 5 [(0, rr G a i o), (1, iv v), (2, iv q), (3, iv (n : Int))] [] (wrow M a i o (filF (M a i o) q v))) (a := 0) (b := (n : Int)) (by omega) (fun _ => by
    refine ev_iload_n (j := 2) dJ7_fill_53178_5 rfl rfl ?_
    refine ev_iload_n (j := 3) dJ7_fill_53178_6 rfl rfl ?_
    refine ev_icmp_ge 20 dJ7_fill_53178_7 (by decide) (i32 (by omega)) (i32 (by omega)) (fun _ => ?_) (fun z => absurd z (by omega))
    exact ev_vret dJ7_fill_53178_20 (by decide) rfl k) (fun q q1 q2 hn _ => by
    refine ev_iload_n (j := 2) dJ7_fill_53178_5 rfl rfl ?_
    refine ev_iload_n (j := 3) dJ7_fill_53178_6 rfl rfl ?_
    refine ev_icmp_ge 20 dJ7_fill_53178_7 (by decide) (i32 (by omega)) (i32 (by omega)) (fun z => absurd q2 z) (fun _ => ?_)
    refine ev_aload_n (j := 0) dJ7_fill_53178_10 rfl rfl ?_
    refine ev_iload_n (j := 2) dJ7_fill_53178_11 rfl rfl ?_
    refine ev_iload_n (j := 1) dJ7_fill_53178_12 rfl rfl ?_
    refine ev_iast dJ7_fill_53178_13 hd he hn9 q1 q2 ?_
    rw [wrow_wr, filF_step _ q1]
    refine ev_iinc (j := 2) dJ7_fill_53178_14 rfl (by decide) rfl ?_
    refine ev_goto 5 dJ7_fill_53178_17 (by decide) ?_
    exact ev_sub [1, 2, 0, 3] rfl (hn (by omega)))
  have h := gen (by omega)
  rw [filF_0, wrow_self] at h
  refine call_intro (lv := [(0, rr G a i o), (1, iv v)]) (by decide) rfl (Nat.le_of_ble_eq_true rfl) rfl ?_
  refine ev_iconst dJ7_fill_53178_0 ?_
  refine ev_istore_n dJ7_fill_53178_1 rfl (by decide) rfl ?_
  refine ev_aload_n (j := 1) dJ7_fill_53178_2 rfl rfl ?_
  refine ev_alen dJ7_fill_53178_3 hd he ?_
  refine ev_istore_n dJ7_fill_53178_4 rfl (by decide) rfl ?_
  exact ev_sub [2, 3, 1, 0] rfl h
end Fl
