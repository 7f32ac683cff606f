/-! ===== the memory that the constructors lay ===== -/
def M0 : Mem := fun a b c k => match a with
  | 0 => if k = 8 then -1 else 0
  | 1 => if c = 2 then 3 else if c = 4 then (if k = 0 ∨ k = 11 then 1 else 0) else if c = 5 then (if k = 0 then 2 else if k = 1 then 4 else if k = 2 then 1 else 0) else 0
  | 2 => if c = 1 then 3 + k else 0
  | 7 => if c = 0 then (if k = 7 then -1 else 0) else 0
  | 8 => if c = 1 then g0M k.toNat else if c = 0 then (if k = 36 then -1 else 0) else 0
  | _ => 0
def esA (G : GT) : List va_E := (blkX11 G 0 ++ blkX12 G 477) ++ [.inl (cyG G 5, 1, .inr (.inl (fun _ => 0)))] ++ [.inl (cyG G 6, 1, .inr (.inr (.inr (.inl (fun _ => 0)))))]
def eqE (e e' : va_E) : Prop := match e, e' with
  | .inl (c, a), .inl (c', a') => vp_cell c a = vp_cell c' a'
  | .inr x, .inr y => x = y
  | _, _ => False
def EqAt (G : GT) (n : Nat) : Prop := ∃ e, (esA G)[n]? = some e ∧ eqE e (entI G M0 (un n).1 ((un n).2.1 : Int) ((un n).2.2 : Int))
theorem sp_trk (j : Nat) (hj : j < 12) : (if j = 0 ∨ j = 11 then J 1 else J 0) = J (if (j : Int) = 0 ∨ (j : Int) = 11 then 1 else 0) := by
  by_cases h : j = 0 ∨ j = 11
  · rw [if_pos h, if_pos (by omega)]
  · rw [if_neg h, if_neg (by omega)]
theorem sp_set0 (j : Nat) (hj : j < 3) : J (([2, 4, 1] : List Int).getD j 0) = J (if (j : Int) = 0 then 2 else if (j : Int) = 1 then 4 else if (j : Int) = 2 then 1 else 0) := by
  match j, hj with
  | 0, _ => rfl
  | 1, _ => rfl
  | 2, _ => rfl
  | n + 3, h => exact absurd h (by omega)
theorem eqA_0 {G : GT} : EqAt G 0 := ⟨_, rfl, rfl⟩
theorem eqA_1 {G : GT} : EqAt G 1 := ⟨_, rfl, rfl⟩
theorem eqA_2 {G : GT} : EqAt G 2 := ⟨_, rfl, rfl⟩
theorem eqA_3 {G : GT} : EqAt G 3 := ⟨_, rfl, (vpI_cg (fun _ _ => rfl))⟩
theorem eqA_4 {G : GT} : EqAt G 4 := ⟨_, rfl, (vpI_cg (fun _ _ => rfl))⟩
theorem eqA_5 {G : GT} : EqAt G 5 := ⟨_, rfl, (vpI_cg (fun j hj => sp_trk j hj))⟩
theorem eqA_6 {G : GT} : EqAt G 6 := ⟨_, rfl, (vpI_cg (fun j hj => sp_set0 j hj))⟩
theorem eqA_7 {G : GT} : EqAt G 7 := ⟨_, rfl, rfl⟩
theorem eqA_8 {G : GT} : EqAt G 8 := ⟨_, rfl, (vpI_cg (fun _ _ => rfl))⟩
theorem eqA_9 {G : GT} : EqAt G 9 := ⟨_, rfl, (vpI_cg (fun _ _ => rfl))⟩
theorem eqA_10 {G : GT} : EqAt G 10 := ⟨_, rfl, (vpI_cg (fun _ _ => rfl))⟩
theorem eqA_11 {G : GT} : EqAt G 11 := ⟨_, rfl, (vpI_cg (fun _ _ => rfl))⟩
theorem eqA_12 {G : GT} : EqAt G 12 := ⟨_, rfl, rfl⟩
theorem eqA_13 {G : GT} : EqAt G 13 := ⟨_, rfl, (vpI_cg (fun _ _ => rfl))⟩
theorem eqA_14 {G : GT} : EqAt G 14 := ⟨_, rfl, (vpI_cg (fun _ _ => rfl))⟩
theorem eqA_15 {G : GT} : EqAt G 15 := ⟨_, rfl, (vpQ_cg (fun j _ => congrArg some (show (_ : Nat) = bG G + (1 + (15 + (j : Int)).toNat) by omega)))⟩
theorem eqA_16 {G : GT} : EqAt G 16 := ⟨_, rfl, (vpI_cg (fun _ _ => rfl))⟩
theorem eqA_17 {G : GT} : EqAt G 17 := ⟨_, rfl, (vpI_cg (fun _ _ => rfl))⟩
theorem eqA_18 {G : GT} : EqAt G 18 := ⟨_, rfl, (vpI_cg (fun _ _ => rfl))⟩
theorem eqA_19 {G : GT} : EqAt G 19 := ⟨_, rfl, (vpI_cg (fun _ _ => rfl))⟩
theorem eqA_20 {G : GT} : EqAt G 20 := ⟨_, rfl, (vpI_cg (fun _ _ => rfl))⟩
theorem eqA_21 {G : GT} : EqAt G 21 := ⟨_, rfl, (vpI_cg (fun _ _ => rfl))⟩
theorem eqA_22 {G : GT} : EqAt G 22 := ⟨_, rfl, (vpI_cg (fun _ _ => rfl))⟩
theorem eqA_23 {G : GT} : EqAt G 23 := ⟨_, rfl, (vpI_cg (fun _ _ => rfl))⟩
theorem eqA_24 {G : GT} : EqAt G 24 := ⟨_, rfl, (vpI_cg (fun _ _ => rfl))⟩
theorem eqA_25 {G : GT} : EqAt G 25 := ⟨_, rfl, (vpI_cg (fun _ _ => rfl))⟩
theorem eqA_26 {G : GT} : EqAt G 26 := ⟨_, rfl, rfl⟩
theorem eqA_27 {G : GT} : EqAt G 27 := ⟨_, rfl, (vpI_cg (fun _ _ => rfl))⟩
theorem eqA_28 {G : GT} : EqAt G 28 := ⟨_, rfl, (vpI_cg (fun _ _ => rfl))⟩
theorem eqA_29 {G : GT} : EqAt G 29 := ⟨_, rfl, (vpI_cg (fun _ _ => rfl))⟩
theorem eqA_30 {G : GT} : EqAt G 30 := ⟨_, rfl, rfl⟩
theorem eqA_31 {G : GT} : EqAt G 31 := ⟨_, rfl, rfl⟩
theorem eqA_32 {G : GT} : EqAt G 32 := ⟨_, rfl, (vpI_cg (fun _ _ => rfl))⟩
theorem eqA_33 {G : GT} : EqAt G 33 := ⟨_, rfl, (vpI_cg (fun _ _ => rfl))⟩
theorem eqA_34 {G : GT} : EqAt G 34 := ⟨_, rfl, (vpI_cg (fun j hj => sp_trk j hj))⟩
theorem eqA_35 {G : GT} : EqAt G 35 := ⟨_, rfl, (vpI_cg (fun j hj => sp_set0 j hj))⟩
theorem eqA_36 {G : GT} : EqAt G 36 := ⟨_, rfl, rfl⟩
theorem eqA_37 {G : GT} : EqAt G 37 := ⟨_, rfl, (vpI_cg (fun _ _ => rfl))⟩
theorem eqA_38 {G : GT} : EqAt G 38 := ⟨_, rfl, (vpI_cg (fun _ _ => rfl))⟩
theorem eqA_39 {G : GT} : EqAt G 39 := ⟨_, rfl, (vpI_cg (fun _ _ => rfl))⟩
theorem eqA_40 {G : GT} : EqAt G 40 := ⟨_, rfl, (vpI_cg (fun _ _ => rfl))⟩
theorem eqA_41 {G : GT} : EqAt G 41 := ⟨_, rfl, rfl⟩
theorem eqA_42 {G : GT} : EqAt G 42 := ⟨_, rfl, (vpI_cg (fun _ _ => rfl))⟩
theorem eqA_43 {G : GT} : EqAt G 43 := ⟨_, rfl, (vpI_cg (fun _ _ => rfl))⟩
theorem eqA_44 {G : GT} : EqAt G 44 := ⟨_, rfl, (vpQ_cg (fun j _ => congrArg some (show (_ : Nat) = bG G + (30 + (15 + (j : Int)).toNat) by omega)))⟩
theorem eqA_45 {G : GT} : EqAt G 45 := ⟨_, rfl, (vpI_cg (fun _ _ => rfl))⟩
theorem eqA_46 {G : GT} : EqAt G 46 := ⟨_, rfl, (vpI_cg (fun _ _ => rfl))⟩
theorem eqA_47 {G : GT} : EqAt G 47 := ⟨_, rfl, (vpI_cg (fun _ _ => rfl))⟩
theorem eqA_48 {G : GT} : EqAt G 48 := ⟨_, rfl, (vpI_cg (fun _ _ => rfl))⟩
theorem eqA_49 {G : GT} : EqAt G 49 := ⟨_, rfl, (vpI_cg (fun _ _ => rfl))⟩
theorem eqA_50 {G : GT} : EqAt G 50 := ⟨_, rfl, (vpI_cg (fun _ _ => rfl))⟩
theorem eqA_51 {G : GT} : EqAt G 51 := ⟨_, rfl, (vpI_cg (fun _ _ => rfl))⟩
theorem eqA_52 {G : GT} : EqAt G 52 := ⟨_, rfl, (vpI_cg (fun _ _ => rfl))⟩
theorem eqA_53 {G : GT} : EqAt G 53 := ⟨_, rfl, (vpI_cg (fun _ _ => rfl))⟩
theorem eqA_54 {G : GT} : EqAt G 54 := ⟨_, rfl, (vpI_cg (fun _ _ => rfl))⟩
theorem eqA_55 {G : GT} : EqAt G 55 := ⟨_, rfl, rfl⟩
theorem eqA_56 {G : GT} : EqAt G 56 := ⟨_, rfl, (vpI_cg (fun _ _ => rfl))⟩
theorem eqA_57 {G : GT} : EqAt G 57 := ⟨_, rfl, (vpI_cg (fun _ _ => rfl))⟩
theorem eqA_58 {G : GT} : EqAt G 58 := ⟨_, rfl, (vpI_cg (fun _ _ => rfl))⟩
theorem eqA_59 {G : GT} : EqAt G 59 := ⟨_, rfl, rfl⟩
theorem eqA_60 {G : GT} : EqAt G 60 := ⟨_, rfl, (vpQ_cg (fun j hj => by
    match j, hj with
    | 0, _ => rfl
    | 1, _ => rfl
    | 2, _ => rfl
    | 3, _ => rfl
    | 4, _ => rfl
    | 5, _ => rfl
    | 6, _ => rfl
    | 7, _ => rfl
    | n + 8, h => exact absurd h (by omega)))⟩
theorem eqA_61 {G : GT} : EqAt G 61 := ⟨_, rfl, rfl⟩
theorem eqA_62 {G : GT} : EqAt G 62 := ⟨_, rfl, rfl⟩
theorem eqA_63 {G : GT} : EqAt G 63 := ⟨_, rfl, (vpI_cg (fun _ _ => rfl))⟩
theorem eqA_64 {G : GT} : EqAt G 64 := ⟨_, rfl, (vpI_cg (fun _ _ => rfl))⟩
theorem eqA_65 {G : GT} : EqAt G 65 := ⟨_, rfl, (vpI_cg (fun j hj => sp_trk j hj))⟩
theorem eqA_66 {G : GT} : EqAt G 66 := ⟨_, rfl, (vpI_cg (fun j hj => sp_set0 j hj))⟩
theorem eqA_67 {G : GT} : EqAt G 67 := ⟨_, rfl, rfl⟩
theorem eqA_68 {G : GT} : EqAt G 68 := ⟨_, rfl, (vpI_cg (fun _ _ => rfl))⟩
theorem eqA_69 {G : GT} : EqAt G 69 := ⟨_, rfl, (vpI_cg (fun _ _ => rfl))⟩
theorem eqA_70 {G : GT} : EqAt G 70 := ⟨_, rfl, (vpI_cg (fun _ _ => rfl))⟩
theorem eqA_71 {G : GT} : EqAt G 71 := ⟨_, rfl, (vpI_cg (fun _ _ => rfl))⟩
theorem eqA_72 {G : GT} : EqAt G 72 := ⟨_, rfl, rfl⟩
theorem eqA_73 {G : GT} : EqAt G 73 := ⟨_, rfl, (vpI_cg (fun _ _ => rfl))⟩
theorem eqA_74 {G : GT} : EqAt G 74 := ⟨_, rfl, (vpI_cg (fun _ _ => rfl))⟩
theorem eqA_75 {G : GT} : EqAt G 75 := ⟨_, rfl, (vpQ_cg (fun j _ => congrArg some (show (_ : Nat) = bG G + (61 + (15 + (j : Int)).toNat) by omega)))⟩
theorem eqA_76 {G : GT} : EqAt G 76 := ⟨_, rfl, (vpI_cg (fun _ _ => rfl))⟩
theorem eqA_77 {G : GT} : EqAt G 77 := ⟨_, rfl, (vpI_cg (fun _ _ => rfl))⟩
theorem eqA_78 {G : GT} : EqAt G 78 := ⟨_, rfl, (vpI_cg (fun _ _ => rfl))⟩
theorem eqA_79 {G : GT} : EqAt G 79 := ⟨_, rfl, (vpI_cg (fun _ _ => rfl))⟩
theorem eqA_80 {G : GT} : EqAt G 80 := ⟨_, rfl, (vpI_cg (fun _ _ => rfl))⟩
theorem eqA_81 {G : GT} : EqAt G 81 := ⟨_, rfl, (vpI_cg (fun _ _ => rfl))⟩
theorem eqA_82 {G : GT} : EqAt G 82 := ⟨_, rfl, (vpI_cg (fun _ _ => rfl))⟩
theorem eqA_83 {G : GT} : EqAt G 83 := ⟨_, rfl, (vpI_cg (fun _ _ => rfl))⟩
theorem eqA_84 {G : GT} : EqAt G 84 := ⟨_, rfl, (vpI_cg (fun _ _ => rfl))⟩
theorem eqA_85 {G : GT} : EqAt G 85 := ⟨_, rfl, (vpI_cg (fun _ _ => rfl))⟩
theorem eqA_86 {G : GT} : EqAt G 86 := ⟨_, rfl, rfl⟩
theorem eqA_87 {G : GT} : EqAt G 87 := ⟨_, rfl, (vpI_cg (fun _ _ => rfl))⟩
theorem eqA_88 {G : GT} : EqAt G 88 := ⟨_, rfl, (vpI_cg (fun _ _ => rfl))⟩
theorem eqA_89 {G : GT} : EqAt G 89 := ⟨_, rfl, (vpI_cg (fun _ _ => rfl))⟩
theorem eqA_90 {G : GT} : EqAt G 90 := ⟨_, rfl, rfl⟩
theorem eqA_91 {G : GT} : EqAt G 91 := ⟨_, rfl, rfl⟩
theorem eqA_92 {G : GT} : EqAt G 92 := ⟨_, rfl, (vpI_cg (fun _ _ => rfl))⟩
theorem eqA_93 {G : GT} : EqAt G 93 := ⟨_, rfl, (vpI_cg (fun _ _ => rfl))⟩
theorem eqA_94 {G : GT} : EqAt G 94 := ⟨_, rfl, (vpI_cg (fun j hj => sp_trk j hj))⟩
theorem eqA_95 {G : GT} : EqAt G 95 := ⟨_, rfl, (vpI_cg (fun j hj => sp_set0 j hj))⟩
theorem eqA_96 {G : GT} : EqAt G 96 := ⟨_, rfl, rfl⟩
theorem eqA_97 {G : GT} : EqAt G 97 := ⟨_, rfl, (vpI_cg (fun _ _ => rfl))⟩
theorem eqA_98 {G : GT} : EqAt G 98 := ⟨_, rfl, (vpI_cg (fun _ _ => rfl))⟩
theorem eqA_99 {G : GT} : EqAt G 99 := ⟨_, rfl, (vpI_cg (fun _ _ => rfl))⟩
theorem eqA_100 {G : GT} : EqAt G 100 := ⟨_, rfl, (vpI_cg (fun _ _ => rfl))⟩
theorem eqA_101 {G : GT} : EqAt G 101 := ⟨_, rfl, rfl⟩
theorem eqA_102 {G : GT} : EqAt G 102 := ⟨_, rfl, (vpI_cg (fun _ _ => rfl))⟩
theorem eqA_103 {G : GT} : EqAt G 103 := ⟨_, rfl, (vpI_cg (fun _ _ => rfl))⟩
theorem eqA_104 {G : GT} : EqAt G 104 := ⟨_, rfl, (vpQ_cg (fun j _ => congrArg some (show (_ : Nat) = bG G + (90 + (15 + (j : Int)).toNat) by omega)))⟩
theorem eqA_105 {G : GT} : EqAt G 105 := ⟨_, rfl, (vpI_cg (fun _ _ => rfl))⟩
theorem eqA_106 {G : GT} : EqAt G 106 := ⟨_, rfl, (vpI_cg (fun _ _ => rfl))⟩
theorem eqA_107 {G : GT} : EqAt G 107 := ⟨_, rfl, (vpI_cg (fun _ _ => rfl))⟩
theorem eqA_108 {G : GT} : EqAt G 108 := ⟨_, rfl, (vpI_cg (fun _ _ => rfl))⟩
theorem eqA_109 {G : GT} : EqAt G 109 := ⟨_, rfl, (vpI_cg (fun _ _ => rfl))⟩
theorem eqA_110 {G : GT} : EqAt G 110 := ⟨_, rfl, (vpI_cg (fun _ _ => rfl))⟩
theorem eqA_111 {G : GT} : EqAt G 111 := ⟨_, rfl, (vpI_cg (fun _ _ => rfl))⟩
theorem eqA_112 {G : GT} : EqAt G 112 := ⟨_, rfl, (vpI_cg (fun _ _ => rfl))⟩
theorem eqA_113 {G : GT} : EqAt G 113 := ⟨_, rfl, (vpI_cg (fun _ _ => rfl))⟩
theorem eqA_114 {G : GT} : EqAt G 114 := ⟨_, rfl, (vpI_cg (fun _ _ => rfl))⟩
theorem eqA_115 {G : GT} : EqAt G 115 := ⟨_, rfl, rfl⟩
theorem eqA_116 {G : GT} : EqAt G 116 := ⟨_, rfl, (vpI_cg (fun _ _ => rfl))⟩
theorem eqA_117 {G : GT} : EqAt G 117 := ⟨_, rfl, (vpI_cg (fun _ _ => rfl))⟩
theorem eqA_118 {G : GT} : EqAt G 118 := ⟨_, rfl, (vpI_cg (fun _ _ => rfl))⟩
theorem eqA_119 {G : GT} : EqAt G 119 := ⟨_, rfl, rfl⟩
theorem eqA_120 {G : GT} : EqAt G 120 := ⟨_, rfl, rfl⟩
theorem eqA_121 {G : GT} : EqAt G 121 := ⟨_, rfl, (vpI_cg (fun _ _ => rfl))⟩
theorem eqA_122 {G : GT} : EqAt G 122 := ⟨_, rfl, (vpI_cg (fun _ _ => rfl))⟩
theorem eqA_123 {G : GT} : EqAt G 123 := ⟨_, rfl, (vpI_cg (fun j hj => sp_trk j hj))⟩
theorem eqA_124 {G : GT} : EqAt G 124 := ⟨_, rfl, (vpI_cg (fun j hj => sp_set0 j hj))⟩
theorem eqA_125 {G : GT} : EqAt G 125 := ⟨_, rfl, rfl⟩
theorem eqA_126 {G : GT} : EqAt G 126 := ⟨_, rfl, (vpI_cg (fun _ _ => rfl))⟩
theorem eqA_127 {G : GT} : EqAt G 127 := ⟨_, rfl, (vpI_cg (fun _ _ => rfl))⟩
theorem eqA_128 {G : GT} : EqAt G 128 := ⟨_, rfl, (vpI_cg (fun _ _ => rfl))⟩
theorem eqA_129 {G : GT} : EqAt G 129 := ⟨_, rfl, (vpI_cg (fun _ _ => rfl))⟩
theorem eqA_130 {G : GT} : EqAt G 130 := ⟨_, rfl, rfl⟩
theorem eqA_131 {G : GT} : EqAt G 131 := ⟨_, rfl, (vpI_cg (fun _ _ => rfl))⟩
theorem eqA_132 {G : GT} : EqAt G 132 := ⟨_, rfl, (vpI_cg (fun _ _ => rfl))⟩
theorem eqA_133 {G : GT} : EqAt G 133 := ⟨_, rfl, (vpQ_cg (fun j _ => congrArg some (show (_ : Nat) = bG G + (119 + (15 + (j : Int)).toNat) by omega)))⟩
theorem eqA_134 {G : GT} : EqAt G 134 := ⟨_, rfl, (vpI_cg (fun _ _ => rfl))⟩
theorem eqA_135 {G : GT} : EqAt G 135 := ⟨_, rfl, (vpI_cg (fun _ _ => rfl))⟩
theorem eqA_136 {G : GT} : EqAt G 136 := ⟨_, rfl, (vpI_cg (fun _ _ => rfl))⟩
theorem eqA_137 {G : GT} : EqAt G 137 := ⟨_, rfl, (vpI_cg (fun _ _ => rfl))⟩
theorem eqA_138 {G : GT} : EqAt G 138 := ⟨_, rfl, (vpI_cg (fun _ _ => rfl))⟩
theorem eqA_139 {G : GT} : EqAt G 139 := ⟨_, rfl, (vpI_cg (fun _ _ => rfl))⟩
theorem eqA_140 {G : GT} : EqAt G 140 := ⟨_, rfl, (vpI_cg (fun _ _ => rfl))⟩
theorem eqA_141 {G : GT} : EqAt G 141 := ⟨_, rfl, (vpI_cg (fun _ _ => rfl))⟩
theorem eqA_142 {G : GT} : EqAt G 142 := ⟨_, rfl, (vpI_cg (fun _ _ => rfl))⟩
theorem eqA_143 {G : GT} : EqAt G 143 := ⟨_, rfl, (vpI_cg (fun _ _ => rfl))⟩
theorem eqA_144 {G : GT} : EqAt G 144 := ⟨_, rfl, rfl⟩
theorem eqA_145 {G : GT} : EqAt G 145 := ⟨_, rfl, (vpI_cg (fun _ _ => rfl))⟩
theorem eqA_146 {G : GT} : EqAt G 146 := ⟨_, rfl, (vpI_cg (fun _ _ => rfl))⟩
theorem eqA_147 {G : GT} : EqAt G 147 := ⟨_, rfl, (vpI_cg (fun _ _ => rfl))⟩
theorem eqA_148 {G : GT} : EqAt G 148 := ⟨_, rfl, rfl⟩
theorem eqA_149 {G : GT} : EqAt G 149 := ⟨_, rfl, rfl⟩
theorem eqA_150 {G : GT} : EqAt G 150 := ⟨_, rfl, (vpI_cg (fun _ _ => rfl))⟩
theorem eqA_151 {G : GT} : EqAt G 151 := ⟨_, rfl, (vpI_cg (fun _ _ => rfl))⟩
theorem eqA_152 {G : GT} : EqAt G 152 := ⟨_, rfl, (vpI_cg (fun j hj => sp_trk j hj))⟩
theorem eqA_153 {G : GT} : EqAt G 153 := ⟨_, rfl, (vpI_cg (fun j hj => sp_set0 j hj))⟩
theorem eqA_154 {G : GT} : EqAt G 154 := ⟨_, rfl, rfl⟩
theorem eqA_155 {G : GT} : EqAt G 155 := ⟨_, rfl, (vpI_cg (fun _ _ => rfl))⟩
theorem eqA_156 {G : GT} : EqAt G 156 := ⟨_, rfl, (vpI_cg (fun _ _ => rfl))⟩
theorem eqA_157 {G : GT} : EqAt G 157 := ⟨_, rfl, (vpI_cg (fun _ _ => rfl))⟩
theorem eqA_158 {G : GT} : EqAt G 158 := ⟨_, rfl, (vpI_cg (fun _ _ => rfl))⟩
theorem eqA_159 {G : GT} : EqAt G 159 := ⟨_, rfl, rfl⟩
theorem eqA_160 {G : GT} : EqAt G 160 := ⟨_, rfl, (vpI_cg (fun _ _ => rfl))⟩
theorem eqA_161 {G : GT} : EqAt G 161 := ⟨_, rfl, (vpI_cg (fun _ _ => rfl))⟩
theorem eqA_162 {G : GT} : EqAt G 162 := ⟨_, rfl, (vpQ_cg (fun j _ => congrArg some (show (_ : Nat) = bG G + (148 + (15 + (j : Int)).toNat) by omega)))⟩
theorem eqA_163 {G : GT} : EqAt G 163 := ⟨_, rfl, (vpI_cg (fun _ _ => rfl))⟩
theorem eqA_164 {G : GT} : EqAt G 164 := ⟨_, rfl, (vpI_cg (fun _ _ => rfl))⟩
theorem eqA_165 {G : GT} : EqAt G 165 := ⟨_, rfl, (vpI_cg (fun _ _ => rfl))⟩
theorem eqA_166 {G : GT} : EqAt G 166 := ⟨_, rfl, (vpI_cg (fun _ _ => rfl))⟩
theorem eqA_167 {G : GT} : EqAt G 167 := ⟨_, rfl, (vpI_cg (fun _ _ => rfl))⟩
theorem eqA_168 {G : GT} : EqAt G 168 := ⟨_, rfl, (vpI_cg (fun _ _ => rfl))⟩
theorem eqA_169 {G : GT} : EqAt G 169 := ⟨_, rfl, (vpI_cg (fun _ _ => rfl))⟩
theorem eqA_170 {G : GT} : EqAt G 170 := ⟨_, rfl, (vpI_cg (fun _ _ => rfl))⟩
theorem eqA_171 {G : GT} : EqAt G 171 := ⟨_, rfl, (vpI_cg (fun _ _ => rfl))⟩
theorem eqA_172 {G : GT} : EqAt G 172 := ⟨_, rfl, (vpI_cg (fun _ _ => rfl))⟩
theorem eqA_173 {G : GT} : EqAt G 173 := ⟨_, rfl, rfl⟩
theorem eqA_174 {G : GT} : EqAt G 174 := ⟨_, rfl, (vpI_cg (fun _ _ => rfl))⟩
theorem eqA_175 {G : GT} : EqAt G 175 := ⟨_, rfl, (vpI_cg (fun _ _ => rfl))⟩
theorem eqA_176 {G : GT} : EqAt G 176 := ⟨_, rfl, (vpI_cg (fun _ _ => rfl))⟩
theorem eqA_177 {G : GT} : EqAt G 177 := ⟨_, rfl, rfl⟩
theorem eqA_178 {G : GT} : EqAt G 178 := ⟨_, rfl, rfl⟩
theorem eqA_179 {G : GT} : EqAt G 179 := ⟨_, rfl, (vpI_cg (fun _ _ => rfl))⟩
theorem eqA_180 {G : GT} : EqAt G 180 := ⟨_, rfl, (vpI_cg (fun _ _ => rfl))⟩
theorem eqA_181 {G : GT} : EqAt G 181 := ⟨_, rfl, (vpI_cg (fun j hj => sp_trk j hj))⟩
theorem eqA_182 {G : GT} : EqAt G 182 := ⟨_, rfl, (vpI_cg (fun j hj => sp_set0 j hj))⟩
theorem eqA_183 {G : GT} : EqAt G 183 := ⟨_, rfl, rfl⟩
theorem eqA_184 {G : GT} : EqAt G 184 := ⟨_, rfl, (vpI_cg (fun _ _ => rfl))⟩
theorem eqA_185 {G : GT} : EqAt G 185 := ⟨_, rfl, (vpI_cg (fun _ _ => rfl))⟩
theorem eqA_186 {G : GT} : EqAt G 186 := ⟨_, rfl, (vpI_cg (fun _ _ => rfl))⟩
theorem eqA_187 {G : GT} : EqAt G 187 := ⟨_, rfl, (vpI_cg (fun _ _ => rfl))⟩
theorem eqA_188 {G : GT} : EqAt G 188 := ⟨_, rfl, rfl⟩
theorem eqA_189 {G : GT} : EqAt G 189 := ⟨_, rfl, (vpI_cg (fun _ _ => rfl))⟩
theorem eqA_190 {G : GT} : EqAt G 190 := ⟨_, rfl, (vpI_cg (fun _ _ => rfl))⟩
theorem eqA_191 {G : GT} : EqAt G 191 := ⟨_, rfl, (vpQ_cg (fun j _ => congrArg some (show (_ : Nat) = bG G + (177 + (15 + (j : Int)).toNat) by omega)))⟩
theorem eqA_192 {G : GT} : EqAt G 192 := ⟨_, rfl, (vpI_cg (fun _ _ => rfl))⟩
theorem eqA_193 {G : GT} : EqAt G 193 := ⟨_, rfl, (vpI_cg (fun _ _ => rfl))⟩
theorem eqA_194 {G : GT} : EqAt G 194 := ⟨_, rfl, (vpI_cg (fun _ _ => rfl))⟩
theorem eqA_195 {G : GT} : EqAt G 195 := ⟨_, rfl, (vpI_cg (fun _ _ => rfl))⟩
theorem eqA_196 {G : GT} : EqAt G 196 := ⟨_, rfl, (vpI_cg (fun _ _ => rfl))⟩
theorem eqA_197 {G : GT} : EqAt G 197 := ⟨_, rfl, (vpI_cg (fun _ _ => rfl))⟩
theorem eqA_198 {G : GT} : EqAt G 198 := ⟨_, rfl, (vpI_cg (fun _ _ => rfl))⟩
theorem eqA_199 {G : GT} : EqAt G 199 := ⟨_, rfl, (vpI_cg (fun _ _ => rfl))⟩
theorem eqA_200 {G : GT} : EqAt G 200 := ⟨_, rfl, (vpI_cg (fun _ _ => rfl))⟩
theorem eqA_201 {G : GT} : EqAt G 201 := ⟨_, rfl, (vpI_cg (fun _ _ => rfl))⟩
theorem eqA_202 {G : GT} : EqAt G 202 := ⟨_, rfl, rfl⟩
theorem eqA_203 {G : GT} : EqAt G 203 := ⟨_, rfl, (vpI_cg (fun _ _ => rfl))⟩
theorem eqA_204 {G : GT} : EqAt G 204 := ⟨_, rfl, (vpI_cg (fun _ _ => rfl))⟩
theorem eqA_205 {G : GT} : EqAt G 205 := ⟨_, rfl, (vpI_cg (fun _ _ => rfl))⟩
theorem eqA_206 {G : GT} : EqAt G 206 := ⟨_, rfl, rfl⟩
theorem eqA_207 {G : GT} : EqAt G 207 := ⟨_, rfl, rfl⟩
theorem eqA_208 {G : GT} : EqAt G 208 := ⟨_, rfl, (vpI_cg (fun _ _ => rfl))⟩
theorem eqA_209 {G : GT} : EqAt G 209 := ⟨_, rfl, (vpI_cg (fun _ _ => rfl))⟩
theorem eqA_210 {G : GT} : EqAt G 210 := ⟨_, rfl, (vpI_cg (fun j hj => sp_trk j hj))⟩
theorem eqA_211 {G : GT} : EqAt G 211 := ⟨_, rfl, (vpI_cg (fun j hj => sp_set0 j hj))⟩
theorem eqA_212 {G : GT} : EqAt G 212 := ⟨_, rfl, rfl⟩
theorem eqA_213 {G : GT} : EqAt G 213 := ⟨_, rfl, (vpI_cg (fun _ _ => rfl))⟩
theorem eqA_214 {G : GT} : EqAt G 214 := ⟨_, rfl, (vpI_cg (fun _ _ => rfl))⟩
theorem eqA_215 {G : GT} : EqAt G 215 := ⟨_, rfl, (vpI_cg (fun _ _ => rfl))⟩
theorem eqA_216 {G : GT} : EqAt G 216 := ⟨_, rfl, (vpI_cg (fun _ _ => rfl))⟩
theorem eqA_217 {G : GT} : EqAt G 217 := ⟨_, rfl, rfl⟩
theorem eqA_218 {G : GT} : EqAt G 218 := ⟨_, rfl, (vpI_cg (fun _ _ => rfl))⟩
theorem eqA_219 {G : GT} : EqAt G 219 := ⟨_, rfl, (vpI_cg (fun _ _ => rfl))⟩
theorem eqA_220 {G : GT} : EqAt G 220 := ⟨_, rfl, (vpQ_cg (fun j _ => congrArg some (show (_ : Nat) = bG G + (206 + (15 + (j : Int)).toNat) by omega)))⟩
theorem eqA_221 {G : GT} : EqAt G 221 := ⟨_, rfl, (vpI_cg (fun _ _ => rfl))⟩
theorem eqA_222 {G : GT} : EqAt G 222 := ⟨_, rfl, (vpI_cg (fun _ _ => rfl))⟩
theorem eqA_223 {G : GT} : EqAt G 223 := ⟨_, rfl, (vpI_cg (fun _ _ => rfl))⟩
theorem eqA_224 {G : GT} : EqAt G 224 := ⟨_, rfl, (vpI_cg (fun _ _ => rfl))⟩
theorem eqA_225 {G : GT} : EqAt G 225 := ⟨_, rfl, (vpI_cg (fun _ _ => rfl))⟩
theorem eqA_226 {G : GT} : EqAt G 226 := ⟨_, rfl, (vpI_cg (fun _ _ => rfl))⟩
theorem eqA_227 {G : GT} : EqAt G 227 := ⟨_, rfl, (vpI_cg (fun _ _ => rfl))⟩
theorem eqA_228 {G : GT} : EqAt G 228 := ⟨_, rfl, (vpI_cg (fun _ _ => rfl))⟩
theorem eqA_229 {G : GT} : EqAt G 229 := ⟨_, rfl, (vpI_cg (fun _ _ => rfl))⟩
theorem eqA_230 {G : GT} : EqAt G 230 := ⟨_, rfl, (vpI_cg (fun _ _ => rfl))⟩
theorem eqA_231 {G : GT} : EqAt G 231 := ⟨_, rfl, rfl⟩
theorem eqA_232 {G : GT} : EqAt G 232 := ⟨_, rfl, (vpI_cg (fun _ _ => rfl))⟩
theorem eqA_233 {G : GT} : EqAt G 233 := ⟨_, rfl, (vpI_cg (fun _ _ => rfl))⟩
theorem eqA_234 {G : GT} : EqAt G 234 := ⟨_, rfl, (vpI_cg (fun _ _ => rfl))⟩
theorem eqA_235 {G : GT} : EqAt G 235 := ⟨_, rfl, rfl⟩
theorem eqA_236 {G : GT} : EqAt G 236 := ⟨_, rfl, rfl⟩
theorem eqA_237 {G : GT} : EqAt G 237 := ⟨_, rfl, (vpI_cg (fun _ _ => rfl))⟩
theorem eqA_238 {G : GT} : EqAt G 238 := ⟨_, rfl, (vpI_cg (fun _ _ => rfl))⟩
theorem eqA_239 {G : GT} : EqAt G 239 := ⟨_, rfl, (vpI_cg (fun j hj => sp_trk j hj))⟩
theorem eqA_240 {G : GT} : EqAt G 240 := ⟨_, rfl, (vpI_cg (fun j hj => sp_set0 j hj))⟩
theorem eqA_241 {G : GT} : EqAt G 241 := ⟨_, rfl, rfl⟩
theorem eqA_242 {G : GT} : EqAt G 242 := ⟨_, rfl, (vpI_cg (fun _ _ => rfl))⟩
theorem eqA_243 {G : GT} : EqAt G 243 := ⟨_, rfl, (vpI_cg (fun _ _ => rfl))⟩
theorem eqA_244 {G : GT} : EqAt G 244 := ⟨_, rfl, (vpI_cg (fun _ _ => rfl))⟩
theorem eqA_245 {G : GT} : EqAt G 245 := ⟨_, rfl, (vpI_cg (fun _ _ => rfl))⟩
theorem eqA_246 {G : GT} : EqAt G 246 := ⟨_, rfl, rfl⟩
theorem eqA_247 {G : GT} : EqAt G 247 := ⟨_, rfl, (vpI_cg (fun _ _ => rfl))⟩
theorem eqA_248 {G : GT} : EqAt G 248 := ⟨_, rfl, (vpI_cg (fun _ _ => rfl))⟩
theorem eqA_249 {G : GT} : EqAt G 249 := ⟨_, rfl, (vpQ_cg (fun j _ => congrArg some (show (_ : Nat) = bG G + (235 + (15 + (j : Int)).toNat) by omega)))⟩
theorem eqA_250 {G : GT} : EqAt G 250 := ⟨_, rfl, (vpI_cg (fun _ _ => rfl))⟩
theorem eqA_251 {G : GT} : EqAt G 251 := ⟨_, rfl, (vpI_cg (fun _ _ => rfl))⟩
theorem eqA_252 {G : GT} : EqAt G 252 := ⟨_, rfl, (vpI_cg (fun _ _ => rfl))⟩
theorem eqA_253 {G : GT} : EqAt G 253 := ⟨_, rfl, (vpI_cg (fun _ _ => rfl))⟩
theorem eqA_254 {G : GT} : EqAt G 254 := ⟨_, rfl, (vpI_cg (fun _ _ => rfl))⟩
theorem eqA_255 {G : GT} : EqAt G 255 := ⟨_, rfl, (vpI_cg (fun _ _ => rfl))⟩
theorem eqA_256 {G : GT} : EqAt G 256 := ⟨_, rfl, (vpI_cg (fun _ _ => rfl))⟩
theorem eqA_257 {G : GT} : EqAt G 257 := ⟨_, rfl, (vpI_cg (fun _ _ => rfl))⟩
theorem eqA_258 {G : GT} : EqAt G 258 := ⟨_, rfl, (vpI_cg (fun _ _ => rfl))⟩
theorem eqA_259 {G : GT} : EqAt G 259 := ⟨_, rfl, (vpI_cg (fun _ _ => rfl))⟩
theorem eqA_260 {G : GT} : EqAt G 260 := ⟨_, rfl, rfl⟩
theorem eqA_261 {G : GT} : EqAt G 261 := ⟨_, rfl, (vpI_cg (fun _ _ => rfl))⟩
theorem eqA_262 {G : GT} : EqAt G 262 := ⟨_, rfl, (vpI_cg (fun _ _ => rfl))⟩
theorem eqA_263 {G : GT} : EqAt G 263 := ⟨_, rfl, (vpI_cg (fun _ _ => rfl))⟩
theorem eqA_264 {G : GT} : EqAt G 264 := ⟨_, rfl, rfl⟩
theorem eqA_265 {G : GT} : EqAt G 265 := ⟨_, rfl, rfl⟩
theorem eqA_266 {G : GT} : EqAt G 266 := ⟨_, rfl, (vpI_cg (fun _ _ => rfl))⟩
theorem eqA_267 {G : GT} : EqAt G 267 := ⟨_, rfl, (vpI_cg (fun _ _ => rfl))⟩
theorem eqA_268 {G : GT} : EqAt G 268 := ⟨_, rfl, (vpI_cg (fun j hj => sp_trk j hj))⟩
theorem eqA_269 {G : GT} : EqAt G 269 := ⟨_, rfl, (vpI_cg (fun j hj => sp_set0 j hj))⟩
theorem eqA_270 {G : GT} : EqAt G 270 := ⟨_, rfl, rfl⟩
theorem eqA_271 {G : GT} : EqAt G 271 := ⟨_, rfl, (vpI_cg (fun _ _ => rfl))⟩
theorem eqA_272 {G : GT} : EqAt G 272 := ⟨_, rfl, (vpI_cg (fun _ _ => rfl))⟩
theorem eqA_273 {G : GT} : EqAt G 273 := ⟨_, rfl, (vpI_cg (fun _ _ => rfl))⟩
theorem eqA_274 {G : GT} : EqAt G 274 := ⟨_, rfl, (vpI_cg (fun _ _ => rfl))⟩
theorem eqA_275 {G : GT} : EqAt G 275 := ⟨_, rfl, rfl⟩
theorem eqA_276 {G : GT} : EqAt G 276 := ⟨_, rfl, (vpI_cg (fun _ _ => rfl))⟩
theorem eqA_277 {G : GT} : EqAt G 277 := ⟨_, rfl, (vpI_cg (fun _ _ => rfl))⟩
theorem eqA_278 {G : GT} : EqAt G 278 := ⟨_, rfl, (vpQ_cg (fun j _ => congrArg some (show (_ : Nat) = bG G + (264 + (15 + (j : Int)).toNat) by omega)))⟩
theorem eqA_279 {G : GT} : EqAt G 279 := ⟨_, rfl, (vpI_cg (fun _ _ => rfl))⟩
theorem eqA_280 {G : GT} : EqAt G 280 := ⟨_, rfl, (vpI_cg (fun _ _ => rfl))⟩
theorem eqA_281 {G : GT} : EqAt G 281 := ⟨_, rfl, (vpI_cg (fun _ _ => rfl))⟩
theorem eqA_282 {G : GT} : EqAt G 282 := ⟨_, rfl, (vpI_cg (fun _ _ => rfl))⟩
theorem eqA_283 {G : GT} : EqAt G 283 := ⟨_, rfl, (vpI_cg (fun _ _ => rfl))⟩
theorem eqA_284 {G : GT} : EqAt G 284 := ⟨_, rfl, (vpI_cg (fun _ _ => rfl))⟩
theorem eqA_285 {G : GT} : EqAt G 285 := ⟨_, rfl, (vpI_cg (fun _ _ => rfl))⟩
theorem eqA_286 {G : GT} : EqAt G 286 := ⟨_, rfl, (vpI_cg (fun _ _ => rfl))⟩
theorem eqA_287 {G : GT} : EqAt G 287 := ⟨_, rfl, (vpI_cg (fun _ _ => rfl))⟩
theorem eqA_288 {G : GT} : EqAt G 288 := ⟨_, rfl, (vpI_cg (fun _ _ => rfl))⟩
theorem eqA_289 {G : GT} : EqAt G 289 := ⟨_, rfl, rfl⟩
theorem eqA_290 {G : GT} : EqAt G 290 := ⟨_, rfl, (vpI_cg (fun _ _ => rfl))⟩
theorem eqA_291 {G : GT} : EqAt G 291 := ⟨_, rfl, (vpI_cg (fun _ _ => rfl))⟩
theorem eqA_292 {G : GT} : EqAt G 292 := ⟨_, rfl, (vpI_cg (fun _ _ => rfl))⟩
theorem eqA_293 {G : GT} : EqAt G 293 := ⟨_, rfl, rfl⟩
theorem eqA_294 {G : GT} : EqAt G 294 := ⟨_, rfl, rfl⟩
theorem eqA_295 {G : GT} : EqAt G 295 := ⟨_, rfl, (vpI_cg (fun _ _ => rfl))⟩
theorem eqA_296 {G : GT} : EqAt G 296 := ⟨_, rfl, (vpI_cg (fun _ _ => rfl))⟩
theorem eqA_297 {G : GT} : EqAt G 297 := ⟨_, rfl, (vpI_cg (fun j hj => sp_trk j hj))⟩
theorem eqA_298 {G : GT} : EqAt G 298 := ⟨_, rfl, (vpI_cg (fun j hj => sp_set0 j hj))⟩
theorem eqA_299 {G : GT} : EqAt G 299 := ⟨_, rfl, rfl⟩
theorem eqA_300 {G : GT} : EqAt G 300 := ⟨_, rfl, (vpI_cg (fun _ _ => rfl))⟩
theorem eqA_301 {G : GT} : EqAt G 301 := ⟨_, rfl, (vpI_cg (fun _ _ => rfl))⟩
theorem eqA_302 {G : GT} : EqAt G 302 := ⟨_, rfl, (vpI_cg (fun _ _ => rfl))⟩
theorem eqA_303 {G : GT} : EqAt G 303 := ⟨_, rfl, (vpI_cg (fun _ _ => rfl))⟩
theorem eqA_304 {G : GT} : EqAt G 304 := ⟨_, rfl, rfl⟩
theorem eqA_305 {G : GT} : EqAt G 305 := ⟨_, rfl, (vpI_cg (fun _ _ => rfl))⟩
theorem eqA_306 {G : GT} : EqAt G 306 := ⟨_, rfl, (vpI_cg (fun _ _ => rfl))⟩
theorem eqA_307 {G : GT} : EqAt G 307 := ⟨_, rfl, (vpQ_cg (fun j _ => congrArg some (show (_ : Nat) = bG G + (293 + (15 + (j : Int)).toNat) by omega)))⟩
theorem eqA_308 {G : GT} : EqAt G 308 := ⟨_, rfl, (vpI_cg (fun _ _ => rfl))⟩
theorem eqA_309 {G : GT} : EqAt G 309 := ⟨_, rfl, (vpI_cg (fun _ _ => rfl))⟩
theorem eqA_310 {G : GT} : EqAt G 310 := ⟨_, rfl, (vpI_cg (fun _ _ => rfl))⟩
theorem eqA_311 {G : GT} : EqAt G 311 := ⟨_, rfl, (vpI_cg (fun _ _ => rfl))⟩
theorem eqA_312 {G : GT} : EqAt G 312 := ⟨_, rfl, (vpI_cg (fun _ _ => rfl))⟩
theorem eqA_313 {G : GT} : EqAt G 313 := ⟨_, rfl, (vpI_cg (fun _ _ => rfl))⟩
theorem eqA_314 {G : GT} : EqAt G 314 := ⟨_, rfl, (vpI_cg (fun _ _ => rfl))⟩
theorem eqA_315 {G : GT} : EqAt G 315 := ⟨_, rfl, (vpI_cg (fun _ _ => rfl))⟩
theorem eqA_316 {G : GT} : EqAt G 316 := ⟨_, rfl, (vpI_cg (fun _ _ => rfl))⟩
theorem eqA_317 {G : GT} : EqAt G 317 := ⟨_, rfl, (vpI_cg (fun _ _ => rfl))⟩
theorem eqA_318 {G : GT} : EqAt G 318 := ⟨_, rfl, rfl⟩
theorem eqA_319 {G : GT} : EqAt G 319 := ⟨_, rfl, (vpI_cg (fun _ _ => rfl))⟩
theorem eqA_320 {G : GT} : EqAt G 320 := ⟨_, rfl, (vpI_cg (fun _ _ => rfl))⟩
theorem eqA_321 {G : GT} : EqAt G 321 := ⟨_, rfl, (vpI_cg (fun _ _ => rfl))⟩
theorem eqA_322 {G : GT} : EqAt G 322 := ⟨_, rfl, rfl⟩
theorem eqA_323 {G : GT} : EqAt G 323 := ⟨_, rfl, (vpQ_cg (fun j _ => congrArg some (show (_ : Nat) = bG G + (322 + (2 + (j : Int)).toNat) by omega)))⟩
theorem eqA_324 {G : GT} : EqAt G 324 := ⟨_, rfl, (vpI_cg (fun _ _ => rfl))⟩
theorem eqA_325 {G : GT} : EqAt G 325 := ⟨_, rfl, (vpI_cg (fun _ _ => rfl))⟩
theorem eqA_326 {G : GT} : EqAt G 326 := ⟨_, rfl, (vpI_cg (fun _ _ => rfl))⟩
theorem eqA_327 {G : GT} : EqAt G 327 := ⟨_, rfl, (vpI_cg (fun _ _ => rfl))⟩
theorem eqA_328 {G : GT} : EqAt G 328 := ⟨_, rfl, (vpI_cg (fun _ _ => rfl))⟩
theorem eqA_329 {G : GT} : EqAt G 329 := ⟨_, rfl, (vpI_cg (fun _ _ => rfl))⟩
theorem eqA_330 {G : GT} : EqAt G 330 := ⟨_, rfl, (vpI_cg (fun _ _ => rfl))⟩
theorem eqA_331 {G : GT} : EqAt G 331 := ⟨_, rfl, (vpI_cg (fun _ _ => rfl))⟩
theorem eqA_332 {G : GT} : EqAt G 332 := ⟨_, rfl, (vpI_cg (fun _ _ => rfl))⟩
theorem eqA_333 {G : GT} : EqAt G 333 := ⟨_, rfl, (vpI_cg (fun _ _ => rfl))⟩
theorem eqA_334 {G : GT} : EqAt G 334 := ⟨_, rfl, (vpI_cg (fun _ _ => rfl))⟩
theorem eqA_335 {G : GT} : EqAt G 335 := ⟨_, rfl, (vpI_cg (fun _ _ => rfl))⟩
theorem eqA_336 {G : GT} : EqAt G 336 := ⟨_, rfl, (vpI_cg (fun _ _ => rfl))⟩
theorem eqA_337 {G : GT} : EqAt G 337 := ⟨_, rfl, (vpI_cg (fun _ _ => rfl))⟩
theorem eqA_338 {G : GT} : EqAt G 338 := ⟨_, rfl, (vpI_cg (fun _ _ => rfl))⟩
theorem eqA_339 {G : GT} : EqAt G 339 := ⟨_, rfl, (vpI_cg (fun _ _ => rfl))⟩
theorem eqA_340 {G : GT} : EqAt G 340 := ⟨_, rfl, (vpI_cg (fun _ _ => rfl))⟩
theorem eqA_341 {G : GT} : EqAt G 341 := ⟨_, rfl, (vpI_cg (fun _ _ => rfl))⟩
theorem eqA_342 {G : GT} : EqAt G 342 := ⟨_, rfl, (vpI_cg (fun _ _ => rfl))⟩
theorem eqA_343 {G : GT} : EqAt G 343 := ⟨_, rfl, (vpI_cg (fun _ _ => rfl))⟩
theorem eqA_344 {G : GT} : EqAt G 344 := ⟨_, rfl, (vpI_cg (fun _ _ => rfl))⟩
theorem eqA_345 {G : GT} : EqAt G 345 := ⟨_, rfl, (vpI_cg (fun _ _ => rfl))⟩
theorem eqA_346 {G : GT} : EqAt G 346 := ⟨_, rfl, (vpI_cg (fun _ _ => rfl))⟩
theorem eqA_347 {G : GT} : EqAt G 347 := ⟨_, rfl, (vpI_cg (fun _ _ => rfl))⟩
theorem eqA_348 {G : GT} : EqAt G 348 := ⟨_, rfl, (vpI_cg (fun _ _ => rfl))⟩
theorem eqA_349 {G : GT} : EqAt G 349 := ⟨_, rfl, (vpI_cg (fun _ _ => rfl))⟩
theorem eqA_350 {G : GT} : EqAt G 350 := ⟨_, rfl, (vpI_cg (fun _ _ => rfl))⟩
theorem eqA_351 {G : GT} : EqAt G 351 := ⟨_, rfl, (vpI_cg (fun _ _ => rfl))⟩
theorem eqA_352 {G : GT} : EqAt G 352 := ⟨_, rfl, (vpI_cg (fun _ _ => rfl))⟩
theorem eqA_353 {G : GT} : EqAt G 353 := ⟨_, rfl, (vpI_cg (fun _ _ => rfl))⟩
theorem eqA_354 {G : GT} : EqAt G 354 := ⟨_, rfl, (vpQ_cg (fun j _ => congrArg some (show (_ : Nat) = bG G + (322 + (33 + (j : Int)).toNat) by omega)))⟩
theorem eqA_355 {G : GT} : EqAt G 355 := ⟨_, rfl, (vpI_cg (fun _ _ => rfl))⟩
theorem eqA_356 {G : GT} : EqAt G 356 := ⟨_, rfl, (vpI_cg (fun _ _ => rfl))⟩
theorem eqA_357 {G : GT} : EqAt G 357 := ⟨_, rfl, (vpI_cg (fun _ _ => rfl))⟩
theorem eqA_358 {G : GT} : EqAt G 358 := ⟨_, rfl, (vpI_cg (fun _ _ => rfl))⟩
theorem eqA_359 {G : GT} : EqAt G 359 := ⟨_, rfl, (vpI_cg (fun _ _ => rfl))⟩
theorem eqA_360 {G : GT} : EqAt G 360 := ⟨_, rfl, (vpI_cg (fun _ _ => rfl))⟩
theorem eqA_361 {G : GT} : EqAt G 361 := ⟨_, rfl, (vpI_cg (fun _ _ => rfl))⟩
theorem eqA_362 {G : GT} : EqAt G 362 := ⟨_, rfl, (vpI_cg (fun _ _ => rfl))⟩
theorem eqA_363 {G : GT} : EqAt G 363 := ⟨_, rfl, (vpI_cg (fun _ _ => rfl))⟩
theorem eqA_364 {G : GT} : EqAt G 364 := ⟨_, rfl, (vpI_cg (fun _ _ => rfl))⟩
theorem eqA_365 {G : GT} : EqAt G 365 := ⟨_, rfl, (vpI_cg (fun _ _ => rfl))⟩
theorem eqA_366 {G : GT} : EqAt G 366 := ⟨_, rfl, (vpI_cg (fun _ _ => rfl))⟩
theorem eqA_367 {G : GT} : EqAt G 367 := ⟨_, rfl, (vpI_cg (fun _ _ => rfl))⟩
theorem eqA_368 {G : GT} : EqAt G 368 := ⟨_, rfl, (vpI_cg (fun _ _ => rfl))⟩
theorem eqA_369 {G : GT} : EqAt G 369 := ⟨_, rfl, (vpI_cg (fun _ _ => rfl))⟩
theorem eqA_370 {G : GT} : EqAt G 370 := ⟨_, rfl, (vpI_cg (fun _ _ => rfl))⟩
theorem eqA_371 {G : GT} : EqAt G 371 := ⟨_, rfl, (vpI_cg (fun _ _ => rfl))⟩
theorem eqA_372 {G : GT} : EqAt G 372 := ⟨_, rfl, (vpI_cg (fun _ _ => rfl))⟩
theorem eqA_373 {G : GT} : EqAt G 373 := ⟨_, rfl, (vpI_cg (fun _ _ => rfl))⟩
theorem eqA_374 {G : GT} : EqAt G 374 := ⟨_, rfl, (vpI_cg (fun _ _ => rfl))⟩
theorem eqA_375 {G : GT} : EqAt G 375 := ⟨_, rfl, (vpI_cg (fun _ _ => rfl))⟩
theorem eqA_376 {G : GT} : EqAt G 376 := ⟨_, rfl, (vpI_cg (fun _ _ => rfl))⟩
theorem eqA_377 {G : GT} : EqAt G 377 := ⟨_, rfl, (vpI_cg (fun _ _ => rfl))⟩
theorem eqA_378 {G : GT} : EqAt G 378 := ⟨_, rfl, (vpI_cg (fun _ _ => rfl))⟩
theorem eqA_379 {G : GT} : EqAt G 379 := ⟨_, rfl, (vpI_cg (fun _ _ => rfl))⟩
theorem eqA_380 {G : GT} : EqAt G 380 := ⟨_, rfl, (vpI_cg (fun _ _ => rfl))⟩
theorem eqA_381 {G : GT} : EqAt G 381 := ⟨_, rfl, (vpI_cg (fun _ _ => rfl))⟩
theorem eqA_382 {G : GT} : EqAt G 382 := ⟨_, rfl, (vpI_cg (fun _ _ => rfl))⟩
theorem eqA_383 {G : GT} : EqAt G 383 := ⟨_, rfl, (vpI_cg (fun _ _ => rfl))⟩
theorem eqA_384 {G : GT} : EqAt G 384 := ⟨_, rfl, (vpI_cg (fun _ _ => rfl))⟩
theorem eqA_385 {G : GT} : EqAt G 385 := ⟨_, rfl, (vpQ_cg (fun j _ => congrArg some (show (_ : Nat) = bG G + (322 + (64 + (j : Int)).toNat) by omega)))⟩
theorem eqA_386 {G : GT} : EqAt G 386 := ⟨_, rfl, (vpI_cg (fun _ _ => rfl))⟩
theorem eqA_387 {G : GT} : EqAt G 387 := ⟨_, rfl, (vpI_cg (fun _ _ => rfl))⟩
theorem eqA_388 {G : GT} : EqAt G 388 := ⟨_, rfl, (vpI_cg (fun _ _ => rfl))⟩
theorem eqA_389 {G : GT} : EqAt G 389 := ⟨_, rfl, (vpI_cg (fun _ _ => rfl))⟩
theorem eqA_390 {G : GT} : EqAt G 390 := ⟨_, rfl, (vpI_cg (fun _ _ => rfl))⟩
theorem eqA_391 {G : GT} : EqAt G 391 := ⟨_, rfl, (vpI_cg (fun _ _ => rfl))⟩
theorem eqA_392 {G : GT} : EqAt G 392 := ⟨_, rfl, rfl⟩
theorem eqA_393 {G : GT} : EqAt G 393 := ⟨_, rfl, rfl⟩
theorem eqA_394 {G : GT} : EqAt G 394 := ⟨_, rfl, (vpI_cg (fun _ _ => rfl))⟩
theorem eqA_395 {G : GT} : EqAt G 395 := ⟨_, rfl, (vpI_cg (fun _ _ => rfl))⟩
theorem eqA_396 {G : GT} : EqAt G 396 := ⟨_, rfl, (vpI_cg (fun j hj => sp_trk j hj))⟩
theorem eqA_397 {G : GT} : EqAt G 397 := ⟨_, rfl, (vpI_cg (fun j hj => sp_set0 j hj))⟩
theorem eqA_398 {G : GT} : EqAt G 398 := ⟨_, rfl, rfl⟩
theorem eqA_399 {G : GT} : EqAt G 399 := ⟨_, rfl, (vpI_cg (fun _ _ => rfl))⟩
theorem eqA_400 {G : GT} : EqAt G 400 := ⟨_, rfl, (vpI_cg (fun _ _ => rfl))⟩
theorem eqA_401 {G : GT} : EqAt G 401 := ⟨_, rfl, (vpI_cg (fun _ _ => rfl))⟩
theorem eqA_402 {G : GT} : EqAt G 402 := ⟨_, rfl, (vpI_cg (fun _ _ => rfl))⟩
theorem eqA_403 {G : GT} : EqAt G 403 := ⟨_, rfl, rfl⟩
theorem eqA_404 {G : GT} : EqAt G 404 := ⟨_, rfl, (vpI_cg (fun _ _ => rfl))⟩
theorem eqA_405 {G : GT} : EqAt G 405 := ⟨_, rfl, (vpI_cg (fun _ _ => rfl))⟩
theorem eqA_406 {G : GT} : EqAt G 406 := ⟨_, rfl, (vpQ_cg (fun j _ => congrArg some (show (_ : Nat) = bG G + (392 + (15 + (j : Int)).toNat) by omega)))⟩
theorem eqA_407 {G : GT} : EqAt G 407 := ⟨_, rfl, (vpI_cg (fun _ _ => rfl))⟩
theorem eqA_408 {G : GT} : EqAt G 408 := ⟨_, rfl, (vpI_cg (fun _ _ => rfl))⟩
theorem eqA_409 {G : GT} : EqAt G 409 := ⟨_, rfl, (vpI_cg (fun _ _ => rfl))⟩
theorem eqA_410 {G : GT} : EqAt G 410 := ⟨_, rfl, (vpI_cg (fun _ _ => rfl))⟩
theorem eqA_411 {G : GT} : EqAt G 411 := ⟨_, rfl, (vpI_cg (fun _ _ => rfl))⟩
theorem eqA_412 {G : GT} : EqAt G 412 := ⟨_, rfl, (vpI_cg (fun _ _ => rfl))⟩
theorem eqA_413 {G : GT} : EqAt G 413 := ⟨_, rfl, (vpI_cg (fun _ _ => rfl))⟩
theorem eqA_414 {G : GT} : EqAt G 414 := ⟨_, rfl, (vpI_cg (fun _ _ => rfl))⟩
theorem eqA_415 {G : GT} : EqAt G 415 := ⟨_, rfl, (vpI_cg (fun _ _ => rfl))⟩
theorem eqA_416 {G : GT} : EqAt G 416 := ⟨_, rfl, (vpI_cg (fun _ _ => rfl))⟩
theorem eqA_417 {G : GT} : EqAt G 417 := ⟨_, rfl, rfl⟩
theorem eqA_418 {G : GT} : EqAt G 418 := ⟨_, rfl, (vpI_cg (fun _ _ => rfl))⟩
theorem eqA_419 {G : GT} : EqAt G 419 := ⟨_, rfl, (vpI_cg (fun _ _ => rfl))⟩
theorem eqA_420 {G : GT} : EqAt G 420 := ⟨_, rfl, (vpI_cg (fun _ _ => rfl))⟩
theorem eqA_421 {G : GT} : EqAt G 421 := ⟨_, rfl, rfl⟩
theorem eqA_422 {G : GT} : EqAt G 422 := ⟨_, rfl, rfl⟩
theorem eqA_423 {G : GT} : EqAt G 423 := ⟨_, rfl, (vpI_cg (fun _ _ => rfl))⟩
theorem eqA_424 {G : GT} : EqAt G 424 := ⟨_, rfl, (vpI_cg (fun _ _ => rfl))⟩
theorem eqA_425 {G : GT} : EqAt G 425 := ⟨_, rfl, rfl⟩
theorem eqA_426 {G : GT} : EqAt G 426 := ⟨_, rfl, (vpI_cg (fun _ _ => rfl))⟩
theorem eqA_427 {G : GT} : EqAt G 427 := ⟨_, rfl, (vpI_cg (fun _ _ => rfl))⟩
theorem eqA_428 {G : GT} : EqAt G 428 := ⟨_, rfl, (vpI_cg (fun _ _ => rfl))⟩
theorem eqA_429 {G : GT} : EqAt G 429 := ⟨_, rfl, (vpI_cg (fun _ _ => rfl))⟩
theorem eqA_430 {G : GT} : EqAt G 430 := ⟨_, rfl, rfl⟩
theorem eqA_431 {G : GT} : EqAt G 431 := ⟨_, rfl, (vpQ_cg (fun j _ => congrArg some (show (_ : Nat) = bG G + (430 + (2 + (j : Int)).toNat) by omega)))⟩
theorem eqA_432 {G : GT} : EqAt G 432 := ⟨_, rfl, (vpI_cg (fun _ _ => rfl))⟩
theorem eqA_433 {G : GT} : EqAt G 433 := ⟨_, rfl, (vpI_cg (fun _ _ => rfl))⟩
theorem eqA_434 {G : GT} : EqAt G 434 := ⟨_, rfl, (vpI_cg (fun _ _ => rfl))⟩
theorem eqA_435 {G : GT} : EqAt G 435 := ⟨_, rfl, (vpI_cg (fun _ _ => rfl))⟩
theorem eqA_436 {G : GT} : EqAt G 436 := ⟨_, rfl, (vpI_cg (fun _ _ => rfl))⟩
theorem eqA_437 {G : GT} : EqAt G 437 := ⟨_, rfl, (vpI_cg (fun _ _ => rfl))⟩
theorem eqA_438 {G : GT} : EqAt G 438 := ⟨_, rfl, (vpI_cg (fun _ _ => rfl))⟩
theorem eqA_439 {G : GT} : EqAt G 439 := ⟨_, rfl, (vpI_cg (fun _ _ => rfl))⟩
theorem eqA_440 {G : GT} : EqAt G 440 := ⟨_, rfl, (vpI_cg (fun _ _ => rfl))⟩
theorem eqA_441 {G : GT} : EqAt G 441 := ⟨_, rfl, (vpI_cg (fun _ _ => rfl))⟩
theorem eqA_442 {G : GT} : EqAt G 442 := ⟨_, rfl, (vpI_cg (fun _ _ => rfl))⟩
theorem eqA_443 {G : GT} : EqAt G 443 := ⟨_, rfl, (vpI_cg (fun _ _ => rfl))⟩
theorem eqA_444 {G : GT} : EqAt G 444 := ⟨_, rfl, (vpI_cg (fun _ _ => rfl))⟩
theorem eqA_445 {G : GT} : EqAt G 445 := ⟨_, rfl, (vpI_cg (fun _ _ => rfl))⟩
theorem eqA_446 {G : GT} : EqAt G 446 := ⟨_, rfl, (vpI_cg (fun _ _ => rfl))⟩
theorem eqA_447 {G : GT} : EqAt G 447 := ⟨_, rfl, (vpI_cg (fun _ _ => rfl))⟩
theorem eqA_448 {G : GT} : EqAt G 448 := ⟨_, rfl, (vpI_cg (fun _ _ => rfl))⟩
theorem eqA_449 {G : GT} : EqAt G 449 := ⟨_, rfl, (vpI_cg (fun _ _ => rfl))⟩
theorem eqA_450 {G : GT} : EqAt G 450 := ⟨_, rfl, (vpI_cg (fun _ _ => rfl))⟩
theorem eqA_451 {G : GT} : EqAt G 451 := ⟨_, rfl, (vpI_cg (fun _ _ => rfl))⟩
theorem eqA_452 {G : GT} : EqAt G 452 := ⟨_, rfl, (vpI_cg (fun _ _ => rfl))⟩
theorem eqA_453 {G : GT} : EqAt G 453 := ⟨_, rfl, (vpI_cg (fun _ _ => rfl))⟩
theorem eqA_454 {G : GT} : EqAt G 454 := ⟨_, rfl, (vpI_cg (fun _ _ => rfl))⟩
theorem eqA_455 {G : GT} : EqAt G 455 := ⟨_, rfl, (vpI_cg (fun _ _ => rfl))⟩
theorem eqA_456 {G : GT} : EqAt G 456 := ⟨_, rfl, (vpI_cg (fun _ _ => rfl))⟩
theorem eqA_457 {G : GT} : EqAt G 457 := ⟨_, rfl, (vpI_cg (fun _ _ => rfl))⟩
theorem eqA_458 {G : GT} : EqAt G 458 := ⟨_, rfl, (vpI_cg (fun _ _ => rfl))⟩
theorem eqA_459 {G : GT} : EqAt G 459 := ⟨_, rfl, (vpI_cg (fun _ _ => rfl))⟩
theorem eqA_460 {G : GT} : EqAt G 460 := ⟨_, rfl, (vpI_cg (fun _ _ => rfl))⟩
theorem eqA_461 {G : GT} : EqAt G 461 := ⟨_, rfl, (vpI_cg (fun _ _ => rfl))⟩
theorem eqA_462 {G : GT} : EqAt G 462 := ⟨_, rfl, (vpI_cg (fun _ _ => rfl))⟩
theorem eqA_463 {G : GT} : EqAt G 463 := ⟨_, rfl, (vpI_cg (fun _ _ => rfl))⟩
theorem eqA_464 {G : GT} : EqAt G 464 := ⟨_, rfl, (vpI_cg (fun _ _ => rfl))⟩
theorem eqA_465 {G : GT} : EqAt G 465 := ⟨_, rfl, (vpI_cg (fun _ _ => rfl))⟩
theorem eqA_466 {G : GT} : EqAt G 466 := ⟨_, rfl, (vpI_cg (fun _ _ => rfl))⟩
theorem eqA_467 {G : GT} : EqAt G 467 := ⟨_, rfl, (vpI_cg (fun _ _ => rfl))⟩
theorem eqA_468 {G : GT} : EqAt G 468 := ⟨_, rfl, (vpI_cg (fun _ _ => rfl))⟩
theorem eqA_469 {G : GT} : EqAt G 469 := ⟨_, rfl, rfl⟩
theorem eqA_470 {G : GT} : EqAt G 470 := ⟨_, rfl, (vpI_cg (fun _ _ => rfl))⟩
theorem eqA_471 {G : GT} : EqAt G 471 := ⟨_, rfl, (vpI_cg (fun _ _ => rfl))⟩
theorem eqA_472 {G : GT} : EqAt G 472 := ⟨_, rfl, rfl⟩
theorem eqA_473 {G : GT} : EqAt G 473 := ⟨_, rfl, (vpI_cg (fun _ _ => rfl))⟩
theorem eqA_474 {G : GT} : EqAt G 474 := ⟨_, rfl, (vpI_cg (fun _ _ => rfl))⟩
theorem eqA_475 {G : GT} : EqAt G 475 := ⟨_, rfl, (vpI_cg (fun _ _ => rfl))⟩
theorem eqA_476 {G : GT} : EqAt G 476 := ⟨_, rfl, (vpI_cg (fun _ _ => rfl))⟩
theorem eqA_477 {G : GT} : EqAt G 477 := ⟨_, rfl, rfl⟩
theorem eqA_478 {G : GT} : EqAt G 478 := ⟨_, rfl, (vpI_cg (fun _ _ => rfl))⟩
theorem eqA_479 {G : GT} : EqAt G 479 := ⟨_, rfl, (vpI_cg (fun _ _ => rfl))⟩
theorem eqA_480 {G : GT} : EqAt G 480 := ⟨_, rfl, (vpI_cg (fun _ _ => rfl))⟩
theorem eqA_481 {G : GT} : EqAt G 481 := ⟨_, rfl, (vpI_cg (fun _ _ => rfl))⟩
theorem eqA_482 {G : GT} : EqAt G 482 := ⟨_, rfl, (vpI_cg (fun _ _ => rfl))⟩
theorem eqA_483 {G : GT} : EqAt G 483 := ⟨_, rfl, (vpI_cg (fun _ _ => rfl))⟩
theorem eqA_484 {G : GT} : EqAt G 484 := ⟨_, rfl, (vpI_cg (fun _ _ => rfl))⟩
theorem eqA_485 {G : GT} : EqAt G 485 := ⟨_, rfl, (vpI_cg (fun _ _ => rfl))⟩
theorem eqA_486 {G : GT} : EqAt G 486 := ⟨_, rfl, (vpI_cg (fun _ _ => rfl))⟩
theorem eqA_487 {G : GT} : EqAt G 487 := ⟨_, rfl, (vpI_cg (fun _ _ => rfl))⟩
theorem eqA_488 {G : GT} : EqAt G 488 := ⟨_, rfl, (vpI_cg (fun _ _ => rfl))⟩
theorem eqA_489 {G : GT} : EqAt G 489 := ⟨_, rfl, (vpI_cg (fun _ _ => rfl))⟩
theorem eqA_490 {G : GT} : EqAt G 490 := ⟨_, rfl, (vpI_cg (fun _ _ => rfl))⟩
theorem eqA_491 {G : GT} : EqAt G 491 := ⟨_, rfl, (vpI_cg (fun _ _ => rfl))⟩
theorem eqA_492 {G : GT} : EqAt G 492 := ⟨_, rfl, (vpI_cg (fun _ _ => rfl))⟩
theorem eqA_493 {G : GT} : EqAt G 493 := ⟨_, rfl, (vpI_cg (fun _ _ => rfl))⟩
theorem eqA_494 {G : GT} : EqAt G 494 := ⟨_, rfl, (vpI_cg (fun _ _ => rfl))⟩
theorem eqA_495 {G : GT} : EqAt G 495 := ⟨_, rfl, (vpI_cg (fun _ _ => rfl))⟩
theorem eqA_496 {G : GT} : EqAt G 496 := ⟨_, rfl, (vpI_cg (fun _ _ => rfl))⟩
theorem eqA_497 {G : GT} : EqAt G 497 := ⟨_, rfl, (vpI_cg (fun _ _ => rfl))⟩
theorem eqA_498 {G : GT} : EqAt G 498 := ⟨_, rfl, (vpI_cg (fun _ _ => rfl))⟩
theorem eqA_499 {G : GT} : EqAt G 499 := ⟨_, rfl, (vpI_cg (fun _ _ => rfl))⟩
theorem eqA_500 {G : GT} : EqAt G 500 := ⟨_, rfl, (vpI_cg (fun _ _ => rfl))⟩
theorem eqA_501 {G : GT} : EqAt G 501 := ⟨_, rfl, rfl⟩
theorem eqA_502 {G : GT} : EqAt G 502 := ⟨_, rfl, rfl⟩
theorem eqB_0 {G : GT} (n : Nat) (h0 : 0 ≤ n) (h1 : n < 40) : EqAt G n := by
  obtain ⟨m, rfl⟩ : ∃ m, n = 0 + m := ⟨n - 0, by omega⟩
  have hm : m < 40 := by omega
  match m, hm with
  | 0, _ => exact eqA_0
  | 1, _ => exact eqA_1
  | 2, _ => exact eqA_2
  | 3, _ => exact eqA_3
  | 4, _ => exact eqA_4
  | 5, _ => exact eqA_5
  | 6, _ => exact eqA_6
  | 7, _ => exact eqA_7
  | 8, _ => exact eqA_8
  | 9, _ => exact eqA_9
  | 10, _ => exact eqA_10
  | 11, _ => exact eqA_11
  | 12, _ => exact eqA_12
  | 13, _ => exact eqA_13
  | 14, _ => exact eqA_14
  | 15, _ => exact eqA_15
  | 16, _ => exact eqA_16
  | 17, _ => exact eqA_17
  | 18, _ => exact eqA_18
  | 19, _ => exact eqA_19
  | 20, _ => exact eqA_20
  | 21, _ => exact eqA_21
  | 22, _ => exact eqA_22
  | 23, _ => exact eqA_23
  | 24, _ => exact eqA_24
  | 25, _ => exact eqA_25
  | 26, _ => exact eqA_26
  | 27, _ => exact eqA_27
  | 28, _ => exact eqA_28
  | 29, _ => exact eqA_29
  | 30, _ => exact eqA_30
  | 31, _ => exact eqA_31
  | 32, _ => exact eqA_32
  | 33, _ => exact eqA_33
  | 34, _ => exact eqA_34
  | 35, _ => exact eqA_35
  | 36, _ => exact eqA_36
  | 37, _ => exact eqA_37
  | 38, _ => exact eqA_38
  | 39, _ => exact eqA_39
  | m + 40, h => exact absurd h (by omega)
theorem eqB_40 {G : GT} (n : Nat) (h0 : 40 ≤ n) (h1 : n < 80) : EqAt G n := by
  obtain ⟨m, rfl⟩ : ∃ m, n = 40 + m := ⟨n - 40, by omega⟩
  have hm : m < 40 := by omega
  match m, hm with
  | 0, _ => exact eqA_40
  | 1, _ => exact eqA_41
  | 2, _ => exact eqA_42
  | 3, _ => exact eqA_43
  | 4, _ => exact eqA_44
  | 5, _ => exact eqA_45
  | 6, _ => exact eqA_46
  | 7, _ => exact eqA_47
  | 8, _ => exact eqA_48
  | 9, _ => exact eqA_49
  | 10, _ => exact eqA_50
  | 11, _ => exact eqA_51
  | 12, _ => exact eqA_52
  | 13, _ => exact eqA_53
  | 14, _ => exact eqA_54
  | 15, _ => exact eqA_55
  | 16, _ => exact eqA_56
  | 17, _ => exact eqA_57
  | 18, _ => exact eqA_58
  | 19, _ => exact eqA_59
  | 20, _ => exact eqA_60
  | 21, _ => exact eqA_61
  | 22, _ => exact eqA_62
  | 23, _ => exact eqA_63
  | 24, _ => exact eqA_64
  | 25, _ => exact eqA_65
  | 26, _ => exact eqA_66
  | 27, _ => exact eqA_67
  | 28, _ => exact eqA_68
  | 29, _ => exact eqA_69
  | 30, _ => exact eqA_70
  | 31, _ => exact eqA_71
  | 32, _ => exact eqA_72
  | 33, _ => exact eqA_73
  | 34, _ => exact eqA_74
  | 35, _ => exact eqA_75
  | 36, _ => exact eqA_76
  | 37, _ => exact eqA_77
  | 38, _ => exact eqA_78
  | 39, _ => exact eqA_79
  | m + 40, h => exact absurd h (by omega)
theorem eqB_80 {G : GT} (n : Nat) (h0 : 80 ≤ n) (h1 : n < 120) : EqAt G n := by
  obtain ⟨m, rfl⟩ : ∃ m, n = 80 + m := ⟨n - 80, by omega⟩
  have hm : m < 40 := by omega
  match m, hm with
  | 0, _ => exact eqA_80
  | 1, _ => exact eqA_81
  | 2, _ => exact eqA_82
  | 3, _ => exact eqA_83
  | 4, _ => exact eqA_84
  | 5, _ => exact eqA_85
  | 6, _ => exact eqA_86
  | 7, _ => exact eqA_87
  | 8, _ => exact eqA_88
  | 9, _ => exact eqA_89
  | 10, _ => exact eqA_90
  | 11, _ => exact eqA_91
  | 12, _ => exact eqA_92
  | 13, _ => exact eqA_93
  | 14, _ => exact eqA_94
  | 15, _ => exact eqA_95
  | 16, _ => exact eqA_96
  | 17, _ => exact eqA_97
  | 18, _ => exact eqA_98
  | 19, _ => exact eqA_99
  | 20, _ => exact eqA_100
  | 21, _ => exact eqA_101
  | 22, _ => exact eqA_102
  | 23, _ => exact eqA_103
  | 24, _ => exact eqA_104
  | 25, _ => exact eqA_105
  | 26, _ => exact eqA_106
  | 27, _ => exact eqA_107
  | 28, _ => exact eqA_108
  | 29, _ => exact eqA_109
  | 30, _ => exact eqA_110
  | 31, _ => exact eqA_111
  | 32, _ => exact eqA_112
  | 33, _ => exact eqA_113
  | 34, _ => exact eqA_114
  | 35, _ => exact eqA_115
  | 36, _ => exact eqA_116
  | 37, _ => exact eqA_117
  | 38, _ => exact eqA_118
  | 39, _ => exact eqA_119
  | m + 40, h => exact absurd h (by omega)
theorem eqB_120 {G : GT} (n : Nat) (h0 : 120 ≤ n) (h1 : n < 160) : EqAt G n := by
  obtain ⟨m, rfl⟩ : ∃ m, n = 120 + m := ⟨n - 120, by omega⟩
  have hm : m < 40 := by omega
  match m, hm with
  | 0, _ => exact eqA_120
  | 1, _ => exact eqA_121
  | 2, _ => exact eqA_122
  | 3, _ => exact eqA_123
  | 4, _ => exact eqA_124
  | 5, _ => exact eqA_125
  | 6, _ => exact eqA_126
  | 7, _ => exact eqA_127
  | 8, _ => exact eqA_128
  | 9, _ => exact eqA_129
  | 10, _ => exact eqA_130
  | 11, _ => exact eqA_131
  | 12, _ => exact eqA_132
  | 13, _ => exact eqA_133
  | 14, _ => exact eqA_134
  | 15, _ => exact eqA_135
  | 16, _ => exact eqA_136
  | 17, _ => exact eqA_137
  | 18, _ => exact eqA_138
  | 19, _ => exact eqA_139
  | 20, _ => exact eqA_140
  | 21, _ => exact eqA_141
  | 22, _ => exact eqA_142
  | 23, _ => exact eqA_143
  | 24, _ => exact eqA_144
  | 25, _ => exact eqA_145
  | 26, _ => exact eqA_146
  | 27, _ => exact eqA_147
  | 28, _ => exact eqA_148
  | 29, _ => exact eqA_149
  | 30, _ => exact eqA_150
  | 31, _ => exact eqA_151
  | 32, _ => exact eqA_152
  | 33, _ => exact eqA_153
  | 34, _ => exact eqA_154
  | 35, _ => exact eqA_155
  | 36, _ => exact eqA_156
  | 37, _ => exact eqA_157
  | 38, _ => exact eqA_158
  | 39, _ => exact eqA_159
  | m + 40, h => exact absurd h (by omega)
theorem eqB_160 {G : GT} (n : Nat) (h0 : 160 ≤ n) (h1 : n < 200) : EqAt G n := by
  obtain ⟨m, rfl⟩ : ∃ m, n = 160 + m := ⟨n - 160, by omega⟩
  have hm : m < 40 := by omega
  match m, hm with
  | 0, _ => exact eqA_160
  | 1, _ => exact eqA_161
  | 2, _ => exact eqA_162
  | 3, _ => exact eqA_163
  | 4, _ => exact eqA_164
  | 5, _ => exact eqA_165
  | 6, _ => exact eqA_166
  | 7, _ => exact eqA_167
  | 8, _ => exact eqA_168
  | 9, _ => exact eqA_169
  | 10, _ => exact eqA_170
  | 11, _ => exact eqA_171
  | 12, _ => exact eqA_172
  | 13, _ => exact eqA_173
  | 14, _ => exact eqA_174
  | 15, _ => exact eqA_175
  | 16, _ => exact eqA_176
  | 17, _ => exact eqA_177
  | 18, _ => exact eqA_178
  | 19, _ => exact eqA_179
  | 20, _ => exact eqA_180
  | 21, _ => exact eqA_181
  | 22, _ => exact eqA_182
  | 23, _ => exact eqA_183
  | 24, _ => exact eqA_184
  | 25, _ => exact eqA_185
  | 26, _ => exact eqA_186
  | 27, _ => exact eqA_187
  | 28, _ => exact eqA_188
  | 29, _ => exact eqA_189
  | 30, _ => exact eqA_190
  | 31, _ => exact eqA_191
  | 32, _ => exact eqA_192
  | 33, _ => exact eqA_193
  | 34, _ => exact eqA_194
  | 35, _ => exact eqA_195
  | 36, _ => exact eqA_196
  | 37, _ => exact eqA_197
  | 38, _ => exact eqA_198
  | 39, _ => exact eqA_199
  | m + 40, h => exact absurd h (by omega)
theorem eqB_200 {G : GT} (n : Nat) (h0 : 200 ≤ n) (h1 : n < 240) : EqAt G n := by
  obtain ⟨m, rfl⟩ : ∃ m, n = 200 + m := ⟨n - 200, by omega⟩
  have hm : m < 40 := by omega
  match m, hm with
  | 0, _ => exact eqA_200
  | 1, _ => exact eqA_201
  | 2, _ => exact eqA_202
  | 3, _ => exact eqA_203
  | 4, _ => exact eqA_204
  | 5, _ => exact eqA_205
  | 6, _ => exact eqA_206
  | 7, _ => exact eqA_207
  | 8, _ => exact eqA_208
  | 9, _ => exact eqA_209
  | 10, _ => exact eqA_210
  | 11, _ => exact eqA_211
  | 12, _ => exact eqA_212
  | 13, _ => exact eqA_213
  | 14, _ => exact eqA_214
  | 15, _ => exact eqA_215
  | 16, _ => exact eqA_216
  | 17, _ => exact eqA_217
  | 18, _ => exact eqA_218
  | 19, _ => exact eqA_219
  | 20, _ => exact eqA_220
  | 21, _ => exact eqA_221
  | 22, _ => exact eqA_222
  | 23, _ => exact eqA_223
  | 24, _ => exact eqA_224
  | 25, _ => exact eqA_225
  | 26, _ => exact eqA_226
  | 27, _ => exact eqA_227
  | 28, _ => exact eqA_228
  | 29, _ => exact eqA_229
  | 30, _ => exact eqA_230
  | 31, _ => exact eqA_231
  | 32, _ => exact eqA_232
  | 33, _ => exact eqA_233
  | 34, _ => exact eqA_234
  | 35, _ => exact eqA_235
  | 36, _ => exact eqA_236
  | 37, _ => exact eqA_237
  | 38, _ => exact eqA_238
  | 39, _ => exact eqA_239
  | m + 40, h => exact absurd h (by omega)
theorem eqB_240 {G : GT} (n : Nat) (h0 : 240 ≤ n) (h1 : n < 280) : EqAt G n := by
  obtain ⟨m, rfl⟩ : ∃ m, n = 240 + m := ⟨n - 240, by omega⟩
  have hm : m < 40 := by omega
  match m, hm with
  | 0, _ => exact eqA_240
  | 1, _ => exact eqA_241
  | 2, _ => exact eqA_242
  | 3, _ => exact eqA_243
  | 4, _ => exact eqA_244
  | 5, _ => exact eqA_245
  | 6, _ => exact eqA_246
  | 7, _ => exact eqA_247
  | 8, _ => exact eqA_248
  | 9, _ => exact eqA_249
  | 10, _ => exact eqA_250
  | 11, _ => exact eqA_251
  | 12, _ => exact eqA_252
  | 13, _ => exact eqA_253
  | 14, _ => exact eqA_254
  | 15, _ => exact eqA_255
  | 16, _ => exact eqA_256
  | 17, _ => exact eqA_257
  | 18, _ => exact eqA_258
  | 19, _ => exact eqA_259
  | 20, _ => exact eqA_260
  | 21, _ => exact eqA_261
  | 22, _ => exact eqA_262
  | 23, _ => exact eqA_263
  | 24, _ => exact eqA_264
  | 25, _ => exact eqA_265
  | 26, _ => exact eqA_266
  | 27, _ => exact eqA_267
  | 28, _ => exact eqA_268
  | 29, _ => exact eqA_269
  | 30, _ => exact eqA_270
  | 31, _ => exact eqA_271
  | 32, _ => exact eqA_272
  | 33, _ => exact eqA_273
  | 34, _ => exact eqA_274
  | 35, _ => exact eqA_275
  | 36, _ => exact eqA_276
  | 37, _ => exact eqA_277
  | 38, _ => exact eqA_278
  | 39, _ => exact eqA_279
  | m + 40, h => exact absurd h (by omega)
theorem eqB_280 {G : GT} (n : Nat) (h0 : 280 ≤ n) (h1 : n < 320) : EqAt G n := by
  obtain ⟨m, rfl⟩ : ∃ m, n = 280 + m := ⟨n - 280, by omega⟩
  have hm : m < 40 := by omega
  match m, hm with
  | 0, _ => exact eqA_280
  | 1, _ => exact eqA_281
  | 2, _ => exact eqA_282
  | 3, _ => exact eqA_283
  | 4, _ => exact eqA_284
  | 5, _ => exact eqA_285
  | 6, _ => exact eqA_286
  | 7, _ => exact eqA_287
  | 8, _ => exact eqA_288
  | 9, _ => exact eqA_289
  | 10, _ => exact eqA_290
  | 11, _ => exact eqA_291
  | 12, _ => exact eqA_292
  | 13, _ => exact eqA_293
  | 14, _ => exact eqA_294
  | 15, _ => exact eqA_295
  | 16, _ => exact eqA_296
  | 17, _ => exact eqA_297
  | 18, _ => exact eqA_298
  | 19, _ => exact eqA_299
  | 20, _ => exact eqA_300
  | 21, _ => exact eqA_301
  | 22, _ => exact eqA_302
  | 23, _ => exact eqA_303
  | 24, _ => exact eqA_304
  | 25, _ => exact eqA_305
  | 26, _ => exact eqA_306
  | 27, _ => exact eqA_307
  | 28, _ => exact eqA_308
  | 29, _ => exact eqA_309
  | 30, _ => exact eqA_310
  | 31, _ => exact eqA_311
  | 32, _ => exact eqA_312
  | 33, _ => exact eqA_313
  | 34, _ => exact eqA_314
  | 35, _ => exact eqA_315
  | 36, _ => exact eqA_316
  | 37, _ => exact eqA_317
  | 38, _ => exact eqA_318
  | 39, _ => exact eqA_319
  | m + 40, h => exact absurd h (by omega)
theorem eqB_320 {G : GT} (n : Nat) (h0 : 320 ≤ n) (h1 : n < 360) : EqAt G n := by
  obtain ⟨m, rfl⟩ : ∃ m, n = 320 + m := ⟨n - 320, by omega⟩
  have hm : m < 40 := by omega
  match m, hm with
  | 0, _ => exact eqA_320
  | 1, _ => exact eqA_321
  | 2, _ => exact eqA_322
  | 3, _ => exact eqA_323
  | 4, _ => exact eqA_324
  | 5, _ => exact eqA_325
  | 6, _ => exact eqA_326
  | 7, _ => exact eqA_327
  | 8, _ => exact eqA_328
  | 9, _ => exact eqA_329
  | 10, _ => exact eqA_330
  | 11, _ => exact eqA_331
  | 12, _ => exact eqA_332
  | 13, _ => exact eqA_333
  | 14, _ => exact eqA_334
  | 15, _ => exact eqA_335
  | 16, _ => exact eqA_336
  | 17, _ => exact eqA_337
  | 18, _ => exact eqA_338
  | 19, _ => exact eqA_339
  | 20, _ => exact eqA_340
  | 21, _ => exact eqA_341
  | 22, _ => exact eqA_342
  | 23, _ => exact eqA_343
  | 24, _ => exact eqA_344
  | 25, _ => exact eqA_345
  | 26, _ => exact eqA_346
  | 27, _ => exact eqA_347
  | 28, _ => exact eqA_348
  | 29, _ => exact eqA_349
  | 30, _ => exact eqA_350
  | 31, _ => exact eqA_351
  | 32, _ => exact eqA_352
  | 33, _ => exact eqA_353
  | 34, _ => exact eqA_354
  | 35, _ => exact eqA_355
  | 36, _ => exact eqA_356
  | 37, _ => exact eqA_357
  | 38, _ => exact eqA_358
  | 39, _ => exact eqA_359
  | m + 40, h => exact absurd h (by omega)
theorem eqB_360 {G : GT} (n : Nat) (h0 : 360 ≤ n) (h1 : n < 400) : EqAt G n := by
  obtain ⟨m, rfl⟩ : ∃ m, n = 360 + m := ⟨n - 360, by omega⟩
  have hm : m < 40 := by omega
  match m, hm with
  | 0, _ => exact eqA_360
  | 1, _ => exact eqA_361
  | 2, _ => exact eqA_362
  | 3, _ => exact eqA_363
  | 4, _ => exact eqA_364
  | 5, _ => exact eqA_365
  | 6, _ => exact eqA_366
  | 7, _ => exact eqA_367
  | 8, _ => exact eqA_368
  | 9, _ => exact eqA_369
  | 10, _ => exact eqA_370
  | 11, _ => exact eqA_371
  | 12, _ => exact eqA_372
  | 13, _ => exact eqA_373
  | 14, _ => exact eqA_374
  | 15, _ => exact eqA_375
  | 16, _ => exact eqA_376
  | 17, _ => exact eqA_377
  | 18, _ => exact eqA_378
  | 19, _ => exact eqA_379
  | 20, _ => exact eqA_380
  | 21, _ => exact eqA_381
  | 22, _ => exact eqA_382
  | 23, _ => exact eqA_383
  | 24, _ => exact eqA_384
  | 25, _ => exact eqA_385
  | 26, _ => exact eqA_386
  | 27, _ => exact eqA_387
  | 28, _ => exact eqA_388
  | 29, _ => exact eqA_389
  | 30, _ => exact eqA_390
  | 31, _ => exact eqA_391
  | 32, _ => exact eqA_392
  | 33, _ => exact eqA_393
  | 34, _ => exact eqA_394
  | 35, _ => exact eqA_395
  | 36, _ => exact eqA_396
  | 37, _ => exact eqA_397
  | 38, _ => exact eqA_398
  | 39, _ => exact eqA_399
  | m + 40, h => exact absurd h (by omega)
theorem eqB_400 {G : GT} (n : Nat) (h0 : 400 ≤ n) (h1 : n < 440) : EqAt G n := by
  obtain ⟨m, rfl⟩ : ∃ m, n = 400 + m := ⟨n - 400, by omega⟩
  have hm : m < 40 := by omega
  match m, hm with
  | 0, _ => exact eqA_400
  | 1, _ => exact eqA_401
  | 2, _ => exact eqA_402
  | 3, _ => exact eqA_403
  | 4, _ => exact eqA_404
  | 5, _ => exact eqA_405
  | 6, _ => exact eqA_406
  | 7, _ => exact eqA_407
  | 8, _ => exact eqA_408
  | 9, _ => exact eqA_409
  | 10, _ => exact eqA_410
  | 11, _ => exact eqA_411
  | 12, _ => exact eqA_412
  | 13, _ => exact eqA_413
  | 14, _ => exact eqA_414
  | 15, _ => exact eqA_415
  | 16, _ => exact eqA_416
  | 17, _ => exact eqA_417
  | 18, _ => exact eqA_418
  | 19, _ => exact eqA_419
  | 20, _ => exact eqA_420
  | 21, _ => exact eqA_421
  | 22, _ => exact eqA_422
  | 23, _ => exact eqA_423
  | 24, _ => exact eqA_424
  | 25, _ => exact eqA_425
  | 26, _ => exact eqA_426
  | 27, _ => exact eqA_427
  | 28, _ => exact eqA_428
  | 29, _ => exact eqA_429
  | 30, _ => exact eqA_430
  | 31, _ => exact eqA_431
  | 32, _ => exact eqA_432
  | 33, _ => exact eqA_433
  | 34, _ => exact eqA_434
  | 35, _ => exact eqA_435
  | 36, _ => exact eqA_436
  | 37, _ => exact eqA_437
  | 38, _ => exact eqA_438
  | 39, _ => exact eqA_439
  | m + 40, h => exact absurd h (by omega)
theorem eqB_440 {G : GT} (n : Nat) (h0 : 440 ≤ n) (h1 : n < 480) : EqAt G n := by
  obtain ⟨m, rfl⟩ : ∃ m, n = 440 + m := ⟨n - 440, by omega⟩
  have hm : m < 40 := by omega
  match m, hm with
  | 0, _ => exact eqA_440
  | 1, _ => exact eqA_441
  | 2, _ => exact eqA_442
  | 3, _ => exact eqA_443
  | 4, _ => exact eqA_444
  | 5, _ => exact eqA_445
  | 6, _ => exact eqA_446
  | 7, _ => exact eqA_447
  | 8, _ => exact eqA_448
  | 9, _ => exact eqA_449
  | 10, _ => exact eqA_450
  | 11, _ => exact eqA_451
  | 12, _ => exact eqA_452
  | 13, _ => exact eqA_453
  | 14, _ => exact eqA_454
  | 15, _ => exact eqA_455
  | 16, _ => exact eqA_456
  | 17, _ => exact eqA_457
  | 18, _ => exact eqA_458
  | 19, _ => exact eqA_459
  | 20, _ => exact eqA_460
  | 21, _ => exact eqA_461
  | 22, _ => exact eqA_462
  | 23, _ => exact eqA_463
  | 24, _ => exact eqA_464
  | 25, _ => exact eqA_465
  | 26, _ => exact eqA_466
  | 27, _ => exact eqA_467
  | 28, _ => exact eqA_468
  | 29, _ => exact eqA_469
  | 30, _ => exact eqA_470
  | 31, _ => exact eqA_471
  | 32, _ => exact eqA_472
  | 33, _ => exact eqA_473
  | 34, _ => exact eqA_474
  | 35, _ => exact eqA_475
  | 36, _ => exact eqA_476
  | 37, _ => exact eqA_477
  | 38, _ => exact eqA_478
  | 39, _ => exact eqA_479
  | m + 40, h => exact absurd h (by omega)
theorem eqB_480 {G : GT} (n : Nat) (h0 : 480 ≤ n) (h1 : n < 503) : EqAt G n := by
  obtain ⟨m, rfl⟩ : ∃ m, n = 480 + m := ⟨n - 480, by omega⟩
  have hm : m < 23 := by omega
  match m, hm with
  | 0, _ => exact eqA_480
  | 1, _ => exact eqA_481
  | 2, _ => exact eqA_482
  | 3, _ => exact eqA_483
  | 4, _ => exact eqA_484
  | 5, _ => exact eqA_485
  | 6, _ => exact eqA_486
  | 7, _ => exact eqA_487
  | 8, _ => exact eqA_488
  | 9, _ => exact eqA_489
  | 10, _ => exact eqA_490
  | 11, _ => exact eqA_491
  | 12, _ => exact eqA_492
  | 13, _ => exact eqA_493
  | 14, _ => exact eqA_494
  | 15, _ => exact eqA_495
  | 16, _ => exact eqA_496
  | 17, _ => exact eqA_497
  | 18, _ => exact eqA_498
  | 19, _ => exact eqA_499
  | 20, _ => exact eqA_500
  | 21, _ => exact eqA_501
  | 22, _ => exact eqA_502
  | m + 23, h => exact absurd h (by omega)
theorem eqAll {G : GT} (n : Nat) (h : n < 503) : EqAt G n := by
  by_cases h0 : n < 40
  · exact eqB_0 n (by omega) h0
  by_cases h40 : n < 80
  · exact eqB_40 n (by omega) h40
  by_cases h80 : n < 120
  · exact eqB_80 n (by omega) h80
  by_cases h120 : n < 160
  · exact eqB_120 n (by omega) h120
  by_cases h160 : n < 200
  · exact eqB_160 n (by omega) h160
  by_cases h200 : n < 240
  · exact eqB_200 n (by omega) h200
  by_cases h240 : n < 280
  · exact eqB_240 n (by omega) h240
  by_cases h280 : n < 320
  · exact eqB_280 n (by omega) h280
  by_cases h320 : n < 360
  · exact eqB_320 n (by omega) h320
  by_cases h360 : n < 400
  · exact eqB_360 n (by omega) h360
  by_cases h400 : n < 440
  · exact eqB_400 n (by omega) h400
  by_cases h440 : n < 480
  · exact eqB_440 n (by omega) h440
  by_cases h480 : n < 503
  · exact eqB_480 n (by omega) h480
  omega
theorem sim_0 {G : GT} {H : Heap} (h : SimE G (esA G) H) : Sim G M0 H := by
  intro k q hk
  unfold wd at hk
  rw [List.getElem?_map] at hk
  by_cases hl : k < NN
  · rw [List.getElem?_range hl] at hk
    cases hk
    obtain ⟨e, he, hq⟩ := eqAll (G := G) k hl
    have h9 := h k _ (wE_at he)
    show va_at (dG G) vwCl (bG G + k, entI G M0 (un k).1 ((un k).2.1 : Int) ((un k).2.2 : Int)) H
    generalize entI G M0 (un k).1 ((un k).2.1 : Int) ((un k).2.2 : Int) = e' at hq
    cases e with
    | inl x =>
      cases e' with
      | inl y =>
        show H[bG G + k]? = some (vp_cell y.1 y.2)
        rw [← show vp_cell x.1 x.2 = vp_cell y.1 y.2 from hq]
        exact h9
      | inr y => exact hq.elim
    | inr x =>
      cases e' with
      | inl y => exact hq.elim
      | inr y =>
        rw [← show x = y from hq]
        exact h9
  · rw [List.getElem?_eq_none (by rw [List.length_range]; omega)] at hk
    cases hk
