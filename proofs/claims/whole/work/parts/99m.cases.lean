/-! THE LAW'S CASES, a call each -/
section CASES
variable {κ : Kx} {φ : Fr} {Q : State → Prop} {k n b Ls i B : Nat} {xs : Nat → Int32} {σ : Mem} {τ : Nat → Int64}
theorem ans_eq {cf : Nat → Nat} {r6 : Nat ⊕ Int32} {r7 v : Int32} (h : AnsV cf r6 r7 v) : v = wR cf r6 := by
  match r6, h with
  | .inl e, h => exact h.2
  | .inr x, h => exact h.1
theorem ans_nz {cf : Nat → Nat} {r6 : Nat ⊕ Int32} {r7 v : Int32} (h : AnsV cf r6 r7 v) : ∀ e, r6 = .inl e → cf e ≠ 0 := fun e he => by
  subst he
  exact h.1
theorem ans_long {cf : Nat → Nat} {r6 : Nat ⊕ Int32} {r7 v : Int32} (h : AnsV cf r6 r7 v) (hcf : ∀ e, cf e ≤ 3) (h0 : wR cf r6 = 0) : wT τ r6 0 = r7.toInt64 := by
  match r6, h, h0 with
  | .inl e, h, h0 => exact absurd ((nI_eq (Nat.lt_of_le_of_lt (hcf e) (by decide)) (by decide)).mp (show nI (cf e) = nI 0 from h0)) h.1
  | .inr x, h, h0 =>
    show ts τ x.toInt64 0 = r7.toInt64
    rw [h.2]
    exact if_pos rfl
theorem cf1_le (a : Nat) : ∀ e, cf1 a e ≤ 3 := fun e => by
  unfold cf1
  split <;> omega
theorem cf2_le (a c : Nat) : ∀ e, cf2 a c e ≤ 3 := fun e => by
  unfold cf2
  split
  · omega
  · split <;> omega
theorem cf3_le : ∀ e, cf3 e ≤ 3 := fun e => by
  unfold cf3
  split
  · omega
  · split
    · omega
    · split <;> omega
theorem cmp_self (x : Int64) : lg_cmp x x = 0 := by
  unfold lg_cmp
  simp
theorem sx_ib (d : Nat) (h : i + 5 ≤ Ls) (hL : Ls ≤ 2560) (hd : d < 5) : ib (nI i + nI d) Ls = true := by
  rw [nI_add]
  exact ib_nI (by omega) (by omega)
def LL (κ : Kx) (b i : Nat) : List (Nat × Value) := [(0, .ref b), (1, .ref (ad κ.1 0 0)), (2, .ref (ad κ.1 19 0)), (3, .ref (ad κ.1 26 0)), (4, .int (nI i))]

theorem co_L_101 : CallOkV RL 101 yX7_thrown cX7_thrown 1 (some .int) 0 19 := ⟨⟨(gwm 968 (by decide +kernel) (by decide +kernel)), (gwm 965 (by decide +kernel) (by decide +kernel)), (gwm 72 (by decide +kernel) (by decide +kernel)), by decide +kernel, by decide +kernel, by decide +kernel⟩, (gwm 966 (by decide +kernel) (by decide +kernel)), (gwm 967 (by decide +kernel) (by decide +kernel)), rfl, TX7, 15, rfl⟩
theorem co_L_100 : CallOkV RL 100 yX7_append cX7_append 2 (some .int) 1 19 := ⟨⟨(gwm 972 (by decide +kernel) (by decide +kernel)), (gwm 969 (by decide +kernel) (by decide +kernel)), (gwm 72 (by decide +kernel) (by decide +kernel)), by decide +kernel, by decide +kernel, by decide +kernel⟩, (gwm 970 (by decide +kernel) (by decide +kernel)), (gwm 971 (by decide +kernel) (by decide +kernel)), rfl, TX7, 15, rfl⟩
theorem co_L_107 : CallOkV RL 107 yX7_clearText cX7_clearText 2 (some .int) 0 19 := ⟨⟨(gwm 984 (by decide +kernel) (by decide +kernel)), (gwm 981 (by decide +kernel) (by decide +kernel)), (gwm 72 (by decide +kernel) (by decide +kernel)), by decide +kernel, by decide +kernel, by decide +kernel⟩, (gwm 982 (by decide +kernel) (by decide +kernel)), (gwm 983 (by decide +kernel) (by decide +kernel)), rfl, TX7, 15, rfl⟩
theorem co_L_104 : CallOkV RL 104 yX6_clearText cX6_clearText 1 (some .int) 0 0 := ⟨⟨(gwm 326 (by decide +kernel) (by decide +kernel)), (gwm 323 (by decide +kernel) (by decide +kernel)), (gwm 64 (by decide +kernel) (by decide +kernel)), by decide +kernel, by decide +kernel, by decide +kernel⟩, (gwm 324 (by decide +kernel) (by decide +kernel)), (gwm 325 (by decide +kernel) (by decide +kernel)), rfl, TX6, 7, rfl⟩
theorem co_L_111 : CallOkV RL 111 yX7_errorPosition cX7_errorPosition 1 (some .int) 0 19 := ⟨⟨(gwm 988 (by decide +kernel) (by decide +kernel)), (gwm 985 (by decide +kernel) (by decide +kernel)), (gwm 72 (by decide +kernel) (by decide +kernel)), by decide +kernel, by decide +kernel, by decide +kernel⟩, (gwm 986 (by decide +kernel) (by decide +kernel)), (gwm 987 (by decide +kernel) (by decide +kernel)), rfl, TX7, 15, rfl⟩
theorem co_L_108 : CallOkV RL 108 yX6_errorPosition cX6_errorPosition 1 (some .int) 0 0 := ⟨⟨(gwm 334 (by decide +kernel) (by decide +kernel)), (gwm 331 (by decide +kernel) (by decide +kernel)), (gwm 64 (by decide +kernel) (by decide +kernel)), by decide +kernel, by decide +kernel, by decide +kernel⟩, (gwm 332 (by decide +kernel) (by decide +kernel)), (gwm 333 (by decide +kernel) (by decide +kernel)), rfl, TX6, 7, rfl⟩
theorem co_L_115 : CallOkV RL 115 yX7_load cX7_load 1 (some .int) 0 19 := ⟨⟨(gwm 1027 (by decide +kernel) (by decide +kernel)), (gwm 1024 (by decide +kernel) (by decide +kernel)), (gwm 72 (by decide +kernel) (by decide +kernel)), by decide +kernel, by decide +kernel, by decide +kernel⟩, (gwm 1025 (by decide +kernel) (by decide +kernel)), (gwm 1026 (by decide +kernel) (by decide +kernel)), rfl, TX7, 15, rfl⟩
theorem co_L_118 : CallOkV RL 118 yX7_about cX7_about 4 (some .int) 1 19 := ⟨⟨(gwm 1035 (by decide +kernel) (by decide +kernel)), (gwm 1032 (by decide +kernel) (by decide +kernel)), (gwm 72 (by decide +kernel) (by decide +kernel)), by decide +kernel, by decide +kernel, by decide +kernel⟩, (gwm 1033 (by decide +kernel) (by decide +kernel)), (gwm 1034 (by decide +kernel) (by decide +kernel)), rfl, TX7, 15, rfl⟩
theorem co_L_122 : CallOkV RL 122 yX7_master cX7_master 6 (some .int) 2 19 := ⟨⟨(gwm 1047 (by decide +kernel) (by decide +kernel)), (gwm 1044 (by decide +kernel) (by decide +kernel)), (gwm 72 (by decide +kernel) (by decide +kernel)), by decide +kernel, by decide +kernel, by decide +kernel⟩, (gwm 1045 (by decide +kernel) (by decide +kernel)), (gwm 1046 (by decide +kernel) (by decide +kernel)), rfl, TX7, 15, rfl⟩
theorem co_L_125 : CallOkV RL 125 yX7_owner cX7_owner 2 (some .int) 1 19 := ⟨⟨(gwm 1061 (by decide +kernel) (by decide +kernel)), (gwm 1058 (by decide +kernel) (by decide +kernel)), (gwm 72 (by decide +kernel) (by decide +kernel)), by decide +kernel, by decide +kernel, by decide +kernel⟩, (gwm 1059 (by decide +kernel) (by decide +kernel)), (gwm 1060 (by decide +kernel) (by decide +kernel)), rfl, TX7, 15, rfl⟩
theorem co_L_128 : CallOkV RL 128 yX7_owes cX7_owes 3 (some .int) 2 19 := ⟨⟨(gwm 1069 (by decide +kernel) (by decide +kernel)), (gwm 1066 (by decide +kernel) (by decide +kernel)), (gwm 72 (by decide +kernel) (by decide +kernel)), by decide +kernel, by decide +kernel, by decide +kernel⟩, (gwm 1067 (by decide +kernel) (by decide +kernel)), (gwm 1068 (by decide +kernel) (by decide +kernel)), rfl, TX7, 15, rfl⟩
theorem co_L_132 : CallOkV RL 132 yX7_burst cX7_burst 4 (some .int) 3 19 := ⟨⟨(gwm 1073 (by decide +kernel) (by decide +kernel)), (gwm 1070 (by decide +kernel) (by decide +kernel)), (gwm 72 (by decide +kernel) (by decide +kernel)), by decide +kernel, by decide +kernel, by decide +kernel⟩, (gwm 1071 (by decide +kernel) (by decide +kernel)), (gwm 1072 (by decide +kernel) (by decide +kernel)), rfl, TX7, 15, rfl⟩
theorem co_L_135 : CallOkV RL 135 yX7_order cX7_order 5 (some .int) 1 19 := ⟨⟨(gwm 1078 (by decide +kernel) (by decide +kernel)), (gwm 1075 (by decide +kernel) (by decide +kernel)), (gwm 72 (by decide +kernel) (by decide +kernel)), by decide +kernel, by decide +kernel, by decide +kernel⟩, (gwm 1076 (by decide +kernel) (by decide +kernel)), (gwm 1077 (by decide +kernel) (by decide +kernel)), rfl, TX7, 15, rfl⟩
theorem co_L_138 : CallOkV RL 138 yX7_addMaster cX7_addMaster 1 (some .int) 0 19 := ⟨⟨(gwm 1082 (by decide +kernel) (by decide +kernel)), (gwm 1079 (by decide +kernel) (by decide +kernel)), (gwm 72 (by decide +kernel) (by decide +kernel)), by decide +kernel, by decide +kernel, by decide +kernel⟩, (gwm 1080 (by decide +kernel) (by decide +kernel)), (gwm 1081 (by decide +kernel) (by decide +kernel)), rfl, TX7, 15, rfl⟩
theorem co_L_141 : CallOkV RL 141 yX7_give cX7_give 3 (some .int) 2 19 := ⟨⟨(gwm 1090 (by decide +kernel) (by decide +kernel)), (gwm 1087 (by decide +kernel) (by decide +kernel)), (gwm 72 (by decide +kernel) (by decide +kernel)), by decide +kernel, by decide +kernel, by decide +kernel⟩, (gwm 1088 (by decide +kernel) (by decide +kernel)), (gwm 1089 (by decide +kernel) (by decide +kernel)), rfl, TX7, 15, rfl⟩
theorem co_L_144 : CallOkV RL 144 yX7_setLatency cX7_setLatency 3 (some .int) 2 19 := ⟨⟨(gwm 1102 (by decide +kernel) (by decide +kernel)), (gwm 1099 (by decide +kernel) (by decide +kernel)), (gwm 72 (by decide +kernel) (by decide +kernel)), by decide +kernel, by decide +kernel, by decide +kernel⟩, (gwm 1100 (by decide +kernel) (by decide +kernel)), (gwm 1101 (by decide +kernel) (by decide +kernel)), rfl, TX7, 15, rfl⟩
theorem co_L_147 : CallOkV RL 147 yX7_setCredit cX7_setCredit 2 (some .int) 1 19 := ⟨⟨(gwm 1111 (by decide +kernel) (by decide +kernel)), (gwm 1108 (by decide +kernel) (by decide +kernel)), (gwm 72 (by decide +kernel) (by decide +kernel)), by decide +kernel, by decide +kernel, by decide +kernel⟩, (gwm 1109 (by decide +kernel) (by decide +kernel)), (gwm 1110 (by decide +kernel) (by decide +kernel)), rfl, TX7, 15, rfl⟩
theorem co_L_151 : CallOkV RL 151 yX7_send cX7_send 5 (some .int) 4 19 := ⟨⟨(gwm 1115 (by decide +kernel) (by decide +kernel)), (gwm 1112 (by decide +kernel) (by decide +kernel)), (gwm 72 (by decide +kernel) (by decide +kernel)), by decide +kernel, by decide +kernel, by decide +kernel⟩, (gwm 1113 (by decide +kernel) (by decide +kernel)), (gwm 1114 (by decide +kernel) (by decide +kernel)), rfl, TX7, 15, rfl⟩
theorem co_L_154 : CallOkV RL 154 yX7_pass cX7_pass 2 (some .int) 1 19 := ⟨⟨(gwm 1124 (by decide +kernel) (by decide +kernel)), (gwm 1121 (by decide +kernel) (by decide +kernel)), (gwm 72 (by decide +kernel) (by decide +kernel)), by decide +kernel, by decide +kernel, by decide +kernel⟩, (gwm 1122 (by decide +kernel) (by decide +kernel)), (gwm 1123 (by decide +kernel) (by decide +kernel)), rfl, TX7, 15, rfl⟩
theorem co_L_157 : CallOkV RL 157 yX7_forgive cX7_forgive 3 (some .int) 2 19 := ⟨⟨(gwm 1165 (by decide +kernel) (by decide +kernel)), (gwm 1162 (by decide +kernel) (by decide +kernel)), (gwm 72 (by decide +kernel) (by decide +kernel)), by decide +kernel, by decide +kernel, by decide +kernel⟩, (gwm 1163 (by decide +kernel) (by decide +kernel)), (gwm 1164 (by decide +kernel) (by decide +kernel)), rfl, TX7, 15, rfl⟩
theorem co_L_160 : CallOkV RL 160 yX7_undo cX7_undo 2 (some .int) 0 19 := ⟨⟨(gwm 1169 (by decide +kernel) (by decide +kernel)), (gwm 1166 (by decide +kernel) (by decide +kernel)), (gwm 72 (by decide +kernel) (by decide +kernel)), by decide +kernel, by decide +kernel, by decide +kernel⟩, (gwm 1167 (by decide +kernel) (by decide +kernel)), (gwm 1168 (by decide +kernel) (by decide +kernel)), rfl, TX7, 15, rfl⟩
theorem co_L_163 : CallOkV RL 163 yX7_turnIn cX7_turnIn 3 (some .int) 1 19 := ⟨⟨(gwm 1173 (by decide +kernel) (by decide +kernel)), (gwm 1170 (by decide +kernel) (by decide +kernel)), (gwm 72 (by decide +kernel) (by decide +kernel)), by decide +kernel, by decide +kernel, by decide +kernel⟩, (gwm 1171 (by decide +kernel) (by decide +kernel)), (gwm 1172 (by decide +kernel) (by decide +kernel)), rfl, TX7, 15, rfl⟩
theorem co_L_166 : CallOkV RL 166 yX7_doneIn cX7_doneIn 3 (some .int) 1 19 := ⟨⟨(gwm 1180 (by decide +kernel) (by decide +kernel)), (gwm 1177 (by decide +kernel) (by decide +kernel)), (gwm 72 (by decide +kernel) (by decide +kernel)), by decide +kernel, by decide +kernel, by decide +kernel⟩, (gwm 1178 (by decide +kernel) (by decide +kernel)), (gwm 1179 (by decide +kernel) (by decide +kernel)), rfl, TX7, 15, rfl⟩
theorem co_L_170 : CallOkV RL 170 yX7_bestCredit cX7_bestCredit 6 (some .int) 0 19 := ⟨⟨(gwm 1192 (by decide +kernel) (by decide +kernel)), (gwm 1189 (by decide +kernel) (by decide +kernel)), (gwm 72 (by decide +kernel) (by decide +kernel)), by decide +kernel, by decide +kernel, by decide +kernel⟩, (gwm 1190 (by decide +kernel) (by decide +kernel)), (gwm 1191 (by decide +kernel) (by decide +kernel)), rfl, TX7, 15, rfl⟩
theorem co_L_167 : CallOkV RL 167 yX6_bestCredit cX6_bestCredit 5 (some .int) 0 0 := ⟨⟨(gwm 399 (by decide +kernel) (by decide +kernel)), (gwm 396 (by decide +kernel) (by decide +kernel)), (gwm 64 (by decide +kernel) (by decide +kernel)), by decide +kernel, by decide +kernel, by decide +kernel⟩, (gwm 397 (by decide +kernel) (by decide +kernel)), (gwm 398 (by decide +kernel) (by decide +kernel)), rfl, TX6, 7, rfl⟩
theorem co_L_173 : CallOkV RL 173 yX7_bestSlot cX7_bestSlot 7 (some .int) 1 19 := ⟨⟨(gwm 1196 (by decide +kernel) (by decide +kernel)), (gwm 1193 (by decide +kernel) (by decide +kernel)), (gwm 72 (by decide +kernel) (by decide +kernel)), by decide +kernel, by decide +kernel, by decide +kernel⟩, (gwm 1194 (by decide +kernel) (by decide +kernel)), (gwm 1195 (by decide +kernel) (by decide +kernel)), rfl, TX7, 15, rfl⟩
theorem co_L_179 : CallOkV RL 179 yX7_runScript cX7_runScript 8 (some .int) 2 19 := ⟨⟨(gwm 1200 (by decide +kernel) (by decide +kernel)), (gwm 1197 (by decide +kernel) (by decide +kernel)), (gwm 72 (by decide +kernel) (by decide +kernel)), by decide +kernel, by decide +kernel, by decide +kernel⟩, (gwm 1198 (by decide +kernel) (by decide +kernel)), (gwm 1199 (by decide +kernel) (by decide +kernel)), rfl, TX7, 15, rfl⟩
theorem co_L_183 : CallOkV RL 183 yX7_simulate cX7_simulate 10 (some .int) 2 19 := ⟨⟨(gwm 1213 (by decide +kernel) (by decide +kernel)), (gwm 1210 (by decide +kernel) (by decide +kernel)), (gwm 72 (by decide +kernel) (by decide +kernel)), by decide +kernel, by decide +kernel, by decide +kernel⟩, (gwm 1211 (by decide +kernel) (by decide +kernel)), (gwm 1212 (by decide +kernel) (by decide +kernel)), rfl, TX7, 15, rfl⟩
theorem co_L_186 : CallOkV RL 186 yX7_save cX7_save 3 (some .int) 1 19 := ⟨⟨(gwm 1220 (by decide +kernel) (by decide +kernel)), (gwm 1217 (by decide +kernel) (by decide +kernel)), (gwm 72 (by decide +kernel) (by decide +kernel)), by decide +kernel, by decide +kernel, by decide +kernel⟩, (gwm 1218 (by decide +kernel) (by decide +kernel)), (gwm 1219 (by decide +kernel) (by decide +kernel)), rfl, TX7, 15, rfl⟩
theorem co_L_189 : CallOkV RL 189 yX7_restore cX7_restore 3 (some .int) 1 19 := ⟨⟨(gwm 1224 (by decide +kernel) (by decide +kernel)), (gwm 1221 (by decide +kernel) (by decide +kernel)), (gwm 72 (by decide +kernel) (by decide +kernel)), by decide +kernel, by decide +kernel, by decide +kernel⟩, (gwm 1222 (by decide +kernel) (by decide +kernel)), (gwm 1223 (by decide +kernel) (by decide +kernel)), rfl, TX7, 15, rfl⟩
theorem cw_L_95 : CallOkW RL 95 yL_append cL_append 4 (some .int) [(0, 9, 12, 13), (0, 9, 15, 15)] 3 := ⟨(gwm 512 (by decide +kernel) (by decide +kernel)), (gwm 510 (by decide +kernel) (by decide +kernel)), (gwm 511 (by decide +kernel) (by decide +kernel)), (gwm 63 (by decide +kernel) (by decide +kernel)), by decide +kernel, by decide +kernel, by decide +kernel⟩
theorem cw_L_112 : CallOkW RL 112 yL_load cL_load 3 (some .int) [(0, 8, 11, 15)] 2 := ⟨(gwm 613 (by decide +kernel) (by decide +kernel)), (gwm 611 (by decide +kernel) (by decide +kernel)), (gwm 612 (by decide +kernel) (by decide +kernel)), (gwm 63 (by decide +kernel) (by decide +kernel)), by decide +kernel, by decide +kernel, by decide +kernel⟩
theorem cw_L_116 : CallOkW RL 116 yL_about cL_about 4 (some .int) [(0, 9, 12, 13)] 3 := ⟨(gwm 629 (by decide +kernel) (by decide +kernel)), (gwm 627 (by decide +kernel) (by decide +kernel)), (gwm 628 (by decide +kernel) (by decide +kernel)), (gwm 63 (by decide +kernel) (by decide +kernel)), by decide +kernel, by decide +kernel, by decide +kernel⟩
theorem cw_L_119 : CallOkW RL 119 yL_master cL_master 5 (some .int) [(0, 10, 13, 28), (0, 10, 17, 13)] 4 := ⟨(gwm 649 (by decide +kernel) (by decide +kernel)), (gwm 647 (by decide +kernel) (by decide +kernel)), (gwm 648 (by decide +kernel) (by decide +kernel)), (gwm 63 (by decide +kernel) (by decide +kernel)), by decide +kernel, by decide +kernel, by decide +kernel⟩
theorem cw_L_123 : CallOkW RL 123 yL_owner cL_owner 4 (some .int) [(0, 9, 12, 28)] 3 := ⟨(gwm 689 (by decide +kernel) (by decide +kernel)), (gwm 687 (by decide +kernel) (by decide +kernel)), (gwm 688 (by decide +kernel) (by decide +kernel)), (gwm 63 (by decide +kernel) (by decide +kernel)), by decide +kernel, by decide +kernel, by decide +kernel⟩
theorem cw_L_126 : CallOkW RL 126 yL_owes cL_owes 5 (some .int) [(0, 10, 13, 28)] 4 := ⟨(gwm 702 (by decide +kernel) (by decide +kernel)), (gwm 700 (by decide +kernel) (by decide +kernel)), (gwm 701 (by decide +kernel) (by decide +kernel)), (gwm 63 (by decide +kernel) (by decide +kernel)), by decide +kernel, by decide +kernel, by decide +kernel⟩
theorem cw_L_129 : CallOkW RL 129 yL_burst cL_burst 6 (some .int) [(0, 12, 15, 28), (0, 12, 19, 13)] 5 := ⟨(gwm 709 (by decide +kernel) (by decide +kernel)), (gwm 707 (by decide +kernel) (by decide +kernel)), (gwm 708 (by decide +kernel) (by decide +kernel)), (gwm 63 (by decide +kernel) (by decide +kernel)), by decide +kernel, by decide +kernel, by decide +kernel⟩
theorem cw_L_133 : CallOkW RL 133 yL_order cL_order 4 (some .int) [(0, 9, 12, 13)] 3 := ⟨(gwm 717 (by decide +kernel) (by decide +kernel)), (gwm 715 (by decide +kernel) (by decide +kernel)), (gwm 716 (by decide +kernel) (by decide +kernel)), (gwm 63 (by decide +kernel) (by decide +kernel)), by decide +kernel, by decide +kernel, by decide +kernel⟩
theorem cw_L_136 : CallOkW RL 136 yL_addMaster cL_addMaster 3 (some .int) [(0, 8, 11, 15)] 2 := ⟨(gwm 729 (by decide +kernel) (by decide +kernel)), (gwm 727 (by decide +kernel) (by decide +kernel)), (gwm 728 (by decide +kernel) (by decide +kernel)), (gwm 63 (by decide +kernel) (by decide +kernel)), by decide +kernel, by decide +kernel, by decide +kernel⟩
theorem cw_L_139 : CallOkW RL 139 yL_give cL_give 5 (some .int) [(0, 10, 13, 28), (0, 10, 17, 15)] 4 := ⟨(gwm 747 (by decide +kernel) (by decide +kernel)), (gwm 745 (by decide +kernel) (by decide +kernel)), (gwm 746 (by decide +kernel) (by decide +kernel)), (gwm 63 (by decide +kernel) (by decide +kernel)), by decide +kernel, by decide +kernel, by decide +kernel⟩
theorem cw_L_142 : CallOkW RL 142 yL_setLatency cL_setLatency 5 (some .int) [(0, 10, 13, 28), (0, 10, 17, 13)] 4 := ⟨(gwm 755 (by decide +kernel) (by decide +kernel)), (gwm 753 (by decide +kernel) (by decide +kernel)), (gwm 754 (by decide +kernel) (by decide +kernel)), (gwm 63 (by decide +kernel) (by decide +kernel)), by decide +kernel, by decide +kernel, by decide +kernel⟩
theorem cw_L_145 : CallOkW RL 145 yL_setCredit cL_setCredit 4 (some .int) [(0, 9, 12, 13)] 3 := ⟨(gwm 768 (by decide +kernel) (by decide +kernel)), (gwm 766 (by decide +kernel) (by decide +kernel)), (gwm 767 (by decide +kernel) (by decide +kernel)), (gwm 63 (by decide +kernel) (by decide +kernel)), by decide +kernel, by decide +kernel, by decide +kernel⟩
theorem cw_L_148 : CallOkW RL 148 yL_send cL_send 7 (some .int) [(0, 14, 17, 28), (0, 14, 21, 13), (0, 14, 25, 15)] 6 := ⟨(gwm 776 (by decide +kernel) (by decide +kernel)), (gwm 774 (by decide +kernel) (by decide +kernel)), (gwm 775 (by decide +kernel) (by decide +kernel)), (gwm 63 (by decide +kernel) (by decide +kernel)), by decide +kernel, by decide +kernel, by decide +kernel⟩
theorem cw_L_152 : CallOkW RL 152 yL_pass cL_pass 4 (some .int) [(0, 9, 12, 13)] 3 := ⟨(gwm 791 (by decide +kernel) (by decide +kernel)), (gwm 789 (by decide +kernel) (by decide +kernel)), (gwm 790 (by decide +kernel) (by decide +kernel)), (gwm 63 (by decide +kernel) (by decide +kernel)), by decide +kernel, by decide +kernel, by decide +kernel⟩
theorem cw_L_155 : CallOkW RL 155 yL_forgive cL_forgive 5 (some .int) [(0, 10, 13, 28)] 4 := ⟨(gwm 803 (by decide +kernel) (by decide +kernel)), (gwm 801 (by decide +kernel) (by decide +kernel)), (gwm 802 (by decide +kernel) (by decide +kernel)), (gwm 63 (by decide +kernel) (by decide +kernel)), by decide +kernel, by decide +kernel, by decide +kernel⟩
theorem cw_L_158 : CallOkW RL 158 yL_undo cL_undo 3 (some .int) [(0, 8, 11, 15)] 2 := ⟨(gwm 810 (by decide +kernel) (by decide +kernel)), (gwm 808 (by decide +kernel) (by decide +kernel)), (gwm 809 (by decide +kernel) (by decide +kernel)), (gwm 63 (by decide +kernel) (by decide +kernel)), by decide +kernel, by decide +kernel, by decide +kernel⟩
theorem cw_L_161 : CallOkW RL 161 yL_turnIn cL_turnIn 4 (some .int) [(0, 9, 12, 13)] 3 := ⟨(gwm 822 (by decide +kernel) (by decide +kernel)), (gwm 820 (by decide +kernel) (by decide +kernel)), (gwm 821 (by decide +kernel) (by decide +kernel)), (gwm 63 (by decide +kernel) (by decide +kernel)), by decide +kernel, by decide +kernel, by decide +kernel⟩
theorem cw_L_164 : CallOkW RL 164 yL_doneIn cL_doneIn 4 (some .int) [(0, 9, 12, 28)] 3 := ⟨(gwm 829 (by decide +kernel) (by decide +kernel)), (gwm 827 (by decide +kernel) (by decide +kernel)), (gwm 828 (by decide +kernel) (by decide +kernel)), (gwm 63 (by decide +kernel) (by decide +kernel)), by decide +kernel, by decide +kernel, by decide +kernel⟩
theorem cw_L_171 : CallOkW RL 171 yL_bestSlot cL_bestSlot 4 (some .int) [(0, 9, 12, 28)] 3 := ⟨(gwm 836 (by decide +kernel) (by decide +kernel)), (gwm 834 (by decide +kernel) (by decide +kernel)), (gwm 835 (by decide +kernel) (by decide +kernel)), (gwm 63 (by decide +kernel) (by decide +kernel)), by decide +kernel, by decide +kernel, by decide +kernel⟩
theorem cw_L_176 : CallOkW RL 176 yL_runScript cL_runScript 6 (some .int) [(0, 11, 14, 13)] 4 := ⟨(gwm 843 (by decide +kernel) (by decide +kernel)), (gwm 841 (by decide +kernel) (by decide +kernel)), (gwm 842 (by decide +kernel) (by decide +kernel)), (gwm 63 (by decide +kernel) (by decide +kernel)), by decide +kernel, by decide +kernel, by decide +kernel⟩
theorem cw_L_180 : CallOkW RL 180 yL_simulate cL_simulate 6 (some .int) [(0, 11, 14, 13)] 4 := ⟨(gwm 871 (by decide +kernel) (by decide +kernel)), (gwm 869 (by decide +kernel) (by decide +kernel)), (gwm 870 (by decide +kernel) (by decide +kernel)), (gwm 63 (by decide +kernel) (by decide +kernel)), by decide +kernel, by decide +kernel, by decide +kernel⟩
theorem cw_L_184 : CallOkW RL 184 yL_save cL_save 4 (some .int) [(0, 9, 12, 28)] 3 := ⟨(gwm 891 (by decide +kernel) (by decide +kernel)), (gwm 889 (by decide +kernel) (by decide +kernel)), (gwm 890 (by decide +kernel) (by decide +kernel)), (gwm 63 (by decide +kernel) (by decide +kernel)), by decide +kernel, by decide +kernel, by decide +kernel⟩
theorem cw_L_187 : CallOkW RL 187 yL_restore cL_restore 4 (some .int) [(0, 9, 12, 28), (0, 9, 15, 15)] 3 := ⟨(gwm 903 (by decide +kernel) (by decide +kernel)), (gwm 901 (by decide +kernel) (by decide +kernel)), (gwm 902 (by decide +kernel) (by decide +kernel)), (gwm 63 (by decide +kernel) (by decide +kernel)), by decide +kernel, by decide +kernel, by decide +kernel⟩
theorem lg_L_174 : Cond.constantLong RL 174 (4294967295 : Int64) ∈ GW := (gwm 1225 (by decide +kernel) (by decide +kernel))
set_option maxHeartbeats 8000000 in
theorem law_append (hc : Cx κ φ RL cL_law 7 room_1) (hX : Xs κ φ b Ls xs) (hL : Ls ≤ 2560) (hi : i + 5 ≤ Ls) (hσ : Inv σ B) (hB : B + 3000 < 2 ^ 27) (hk : k + 4 ≤ 601024) (hn : n + 24 ≤ 7293034) (kk : ∀ (τ2 : Nat → Int64) (σ2 : Mem), Inv σ2 (B + 100) → G κ φ Q (NV κ τ2) (k + 4) (n + 24) σ2 (LL κ b i) 1671 []) : G κ φ Q (NV κ τ) k n σ (LL κ b i) 156 [] := by
  show G κ φ Q (NV κ τ) k n σ [(0, .ref b), (1, .ref (ad κ.1 0 0)), (2, .ref (ad κ.1 19 0)), (3, .ref (ad κ.1 26 0)), (4, .int (nI i))] 156 []
  obtain ⟨x1, hx1⟩ : ∃ x, x = xs (nI i + 1).toNatClampNeg := ⟨_, rfl⟩
  obtain ⟨r6, σ1, r7, σ2, h6, h7, hinv, hans⟩ := g_append x1 σ B hσ hB
  refine g_aload_n (i := 1) hc 1 rfl rfl dL_law_156 (pc2 := 157) rfl ?_
  refine g_aload_n (i := 0) hc 0 rfl rfl dL_law_157 (pc2 := 158) rfl ?_
  refine g_iload hc 4 rfl dL_law_158 (pc2 := 160) rfl ?_
  refine g_iconst (v := (1 : Int32)) hc (by decide) dL_law_160 (pc2 := 161) rfl ?_
  refine g_iadd hc dL_law_161 (pc2 := 162) rfl ?_
  refine g_sld hc hX (sx_ib 1 hi hL (by decide)) dL_law_162 (pc2 := 163) rfl ?_
  refine g_nmi (e := xs (nI i + 1).toNatClampNeg) hx1 ?_
  refine g_aload_n (i := 3) hc 3 rfl rfl dL_law_163 (pc2 := 164) rfl ?_
  refine g_sW hc (w_append h6 (ans_nz hans)) cw_L_95 rfl rfl (by decide) ⟨by show k + 2 ≤ 601024; omega, by show n + 12 ≤ 7293034; omega⟩ (Nat.le_of_ble_eq_true rfl) dL_law_164 (pc2 := 167) rfl ?_
  refine g_istore (L1 := [(5, .int (wR (cf2 0 1) r6)), (0, .ref b), (1, .ref (ad κ.1 0 0)), (2, .ref (ad κ.1 19 0)), (3, .ref (ad κ.1 26 0)), (4, .int (nI i))]) hc (by decide) rfl dL_law_167 (pc2 := 169) rfl ?_
  refine g_aload_n (i := 2) hc 3 rfl rfl dL_law_169 (pc2 := 170) rfl ?_
  refine g_aload_n (i := 0) hc 1 rfl rfl dL_law_170 (pc2 := 171) rfl ?_
  refine g_iload hc 5 rfl dL_law_171 (pc2 := 173) rfl ?_
  refine g_iconst (v := (1 : Int32)) hc (by decide) dL_law_173 (pc2 := 174) rfl ?_
  refine g_iadd hc dL_law_174 (pc2 := 175) rfl ?_
  refine g_sld hc hX (sx_ib 1 hi hL (by decide)) dL_law_175 (pc2 := 176) rfl ?_
  refine g_nmi (e := xs (nI i + 1).toNatClampNeg) hx1 ?_
  refine g_vI hc (k7_append h7) co_L_100 (u19 (by decide)) rfl rfl (by decide) ⟨by show k + 2 + 0 ≤ 601024; omega, by show n + 12 + 0 ≤ 7293034; omega⟩ (Nat.le_of_ble_eq_true rfl) dL_law_176 (pc2 := 179) rfl ?_
  refine g_istore (L1 := [(6, .int r7), (5, .int (wR (cf2 0 1) r6)), (0, .ref b), (1, .ref (ad κ.1 0 0)), (2, .ref (ad κ.1 19 0)), (3, .ref (ad κ.1 26 0)), (4, .int (nI i))]) hc (by decide) rfl dL_law_179 (pc2 := 181) rfl ?_
  refine g_aload_n (i := 2) hc 4 rfl rfl dL_law_181 (pc2 := 182) rfl ?_
  refine g_vI hc (k7_thrown rfl) co_L_101 (u19 (by decide)) rfl rfl (by decide) ⟨by show k + 2 + 0 + 0 ≤ 601024; omega, by show n + 12 + 0 + 0 ≤ 7293034; omega⟩ (Nat.le_of_ble_eq_true rfl) dL_law_182 (pc2 := 185) rfl ?_
  refine g_iload hc 1 rfl dL_law_185 (pc2 := 187) rfl ?_
  refine g_icmp_eq hc 192 (by decide) dL_law_187 (pc2 := 190) rfl (fun q => ?_) (fun q => absurd (ans_eq hans) q)
  refine g_iload hc 1 rfl dL_law_192 (pc2 := 194) rfl ?_
  have fin : G κ φ Q (NV κ (wT τ r6)) (k + 2 + 0 + 0) (n + 12 + 0 + 0) σ2 [(6, .int r7), (5, .int (wR (cf2 0 1) r6)), (0, .ref b), (1, .ref (ad κ.1 0 0)), (2, .ref (ad κ.1 19 0)), (3, .ref (ad κ.1 26 0)), (4, .int (nI i))] 209 [] := by
    refine g_goto hc 1671 (by decide) dL_law_209 ?_
    refine g_widen (k2 := k + 4) (n2 := n + 24) (by omega) (by omega) ?_
    refine g_sub [2, 3, 4, 5, 6] rfl ?_
    exact kk _ σ2 hinv
  refine g_if_ne hc 209 (by decide) dL_law_194 (pc2 := 197) rfl (fun q => fin) (fun q => ?_)
  refine g_aload_n (i := 3) hc 5 rfl rfl dL_law_197 (pc2 := 198) rfl ?_
  refine g_iconst (v := (0 : Int32)) hc (by decide) dL_law_198 (pc2 := 199) rfl ?_
  refine g_lald hc dL_law_199 (pc2 := 200) rfl ?_
  refine g_iload hc 0 rfl dL_law_200 (pc2 := 202) rfl ?_
  refine g_i2l hc dL_law_202 (pc2 := 203) rfl ?_
  refine g_lcmp hc dL_law_203 (pc2 := 204) rfl ?_
  exact g_if_eq hc 209 (by decide) dL_law_204 (pc2 := 207) rfl (fun q2 => fin) (fun q2 => absurd (by rw [ans_long hans (cf2_le _ _) q]; exact cmp_self _) q2)
set_option maxHeartbeats 8000000 in
theorem law_clearText (hc : Cx κ φ RL cL_law 7 room_1) (hX : Xs κ φ b Ls xs) (hL : Ls ≤ 2560) (hi : i + 5 ≤ Ls) (hσ : Inv σ B) (hB : B + 3000 < 2 ^ 27) (hk : k + 4 ≤ 601024) (hn : n + 24 ≤ 7293034) (kk : ∀ (τ2 : Nat → Int64) (σ2 : Mem), Inv σ2 (B + 100) → G κ φ Q (NV κ τ2) (k + 4) (n + 24) σ2 (LL κ b i) 1671 []) : G κ φ Q (NV κ τ) k n σ (LL κ b i) 212 [] := by
  show G κ φ Q (NV κ τ) k n σ [(0, .ref b), (1, .ref (ad κ.1 0 0)), (2, .ref (ad κ.1 19 0)), (3, .ref (ad κ.1 26 0)), (4, .int (nI i))] 212 []
  obtain ⟨r, σ1, σ2, h6, h7, hinv⟩ := g_clearText σ B hσ hB
  refine g_aload_n (i := 1) hc 1 rfl rfl dL_law_212 (pc2 := 213) rfl ?_
  refine g_vI hc (k6_clearText h6) co_L_104 (u0 (by decide)) rfl rfl (by decide) ⟨by show k + 0 ≤ 601024; omega, by show n + 0 ≤ 7293034; omega⟩ (Nat.le_of_ble_eq_true rfl) dL_law_213 (pc2 := 216) rfl ?_
  refine g_aload_n (i := 2) hc 2 rfl rfl dL_law_216 (pc2 := 217) rfl ?_
  refine g_vI hc (k7_clearText h7) co_L_107 (u19 (by decide)) rfl rfl (by decide) ⟨by show k + 0 + 0 ≤ 601024; omega, by show n + 0 + 0 ≤ 7293034; omega⟩ (Nat.le_of_ble_eq_true rfl) dL_law_217 (pc2 := 220) rfl ?_
  refine g_icmp_eq hc 1671 (by decide) dL_law_220 (pc2 := 223) rfl (fun q => ?_) (fun q => absurd rfl q)
  refine g_widen (k2 := k + 4) (n2 := n + 24) (by show k + 0 + 0 ≤ k + 4; omega) (by show n + 0 + 0 ≤ n + 24; omega) ?_
  exact kk τ σ2 hinv
set_option maxHeartbeats 8000000 in
theorem law_errorPosition (hc : Cx κ φ RL cL_law 7 room_1) (hX : Xs κ φ b Ls xs) (hL : Ls ≤ 2560) (hi : i + 5 ≤ Ls) (hσ : Inv σ B) (hB : B + 3000 < 2 ^ 27) (hk : k + 4 ≤ 601024) (hn : n + 24 ≤ 7293034) (kk : ∀ (τ2 : Nat → Int64) (σ2 : Mem), Inv σ2 (B + 100) → G κ φ Q (NV κ τ2) (k + 4) (n + 24) σ2 (LL κ b i) 1671 []) : G κ φ Q (NV κ τ) k n σ (LL κ b i) 225 [] := by
  show G κ φ Q (NV κ τ) k n σ [(0, .ref b), (1, .ref (ad κ.1 0 0)), (2, .ref (ad κ.1 19 0)), (3, .ref (ad κ.1 26 0)), (4, .int (nI i))] 225 []
  obtain ⟨r, σ1, σ2, h6, h7, hinv⟩ := g_errorPosition σ B hσ hB
  refine g_aload_n (i := 1) hc 1 rfl rfl dL_law_225 (pc2 := 226) rfl ?_
  refine g_vI hc (k6_errorPosition h6) co_L_108 (u0 (by decide)) rfl rfl (by decide) ⟨by show k + 0 ≤ 601024; omega, by show n + 0 ≤ 7293034; omega⟩ (Nat.le_of_ble_eq_true rfl) dL_law_226 (pc2 := 229) rfl ?_
  refine g_aload_n (i := 2) hc 2 rfl rfl dL_law_229 (pc2 := 230) rfl ?_
  refine g_vI hc (k7_errorPosition h7) co_L_111 (u19 (by decide)) rfl rfl (by decide) ⟨by show k + 0 + 0 ≤ 601024; omega, by show n + 0 + 0 ≤ 7293034; omega⟩ (Nat.le_of_ble_eq_true rfl) dL_law_230 (pc2 := 233) rfl ?_
  refine g_icmp_eq hc 1671 (by decide) dL_law_233 (pc2 := 236) rfl (fun q => ?_) (fun q => absurd rfl q)
  refine g_widen (k2 := k + 4) (n2 := n + 24) (by show k + 0 + 0 ≤ k + 4; omega) (by show n + 0 + 0 ≤ n + 24; omega) ?_
  exact kk τ σ2 hinv
set_option maxHeartbeats 8000000 in
theorem law_load (hc : Cx κ φ RL cL_law 7 room_1) (hX : Xs κ φ b Ls xs) (hL : Ls ≤ 2560) (hi : i + 5 ≤ Ls) (hσ : Inv σ B) (hB : B + 3000 < 2 ^ 27) (hk : k + 4 ≤ 601024) (hn : n + 24 ≤ 7293034) (kk : ∀ (τ2 : Nat → Int64) (σ2 : Mem), Inv σ2 (B + 100) → G κ φ Q (NV κ τ2) (k + 4) (n + 24) σ2 (LL κ b i) 1671 []) : G κ φ Q (NV κ τ) k n σ (LL κ b i) 238 [] := by
  show G κ φ Q (NV κ τ) k n σ [(0, .ref b), (1, .ref (ad κ.1 0 0)), (2, .ref (ad κ.1 19 0)), (3, .ref (ad κ.1 26 0)), (4, .int (nI i))] 238 []
  obtain ⟨r6, σ1, r7, σ2, h6, h7, hinv, hans⟩ := g_load  σ B hσ hB
  refine g_aload_n (i := 1) hc 1 rfl rfl dL_law_238 (pc2 := 239) rfl ?_
  refine g_aload_n (i := 3) hc 3 rfl rfl dL_law_239 (pc2 := 240) rfl ?_
  refine g_sW hc (w_load h6 (ans_nz hans)) cw_L_112 rfl rfl (by decide) ⟨by show k + 1 ≤ 601024; omega, by show n + 6 ≤ 7293034; omega⟩ (Nat.le_of_ble_eq_true rfl) dL_law_240 (pc2 := 243) rfl ?_
  refine g_istore (L1 := [(5, .int (wR (cf1 1) r6)), (0, .ref b), (1, .ref (ad κ.1 0 0)), (2, .ref (ad κ.1 19 0)), (3, .ref (ad κ.1 26 0)), (4, .int (nI i))]) hc (by decide) rfl dL_law_243 (pc2 := 245) rfl ?_
  refine g_aload_n (i := 2) hc 3 rfl rfl dL_law_245 (pc2 := 246) rfl ?_
  refine g_vI hc (k7_load h7) co_L_115 (u19 (by decide)) rfl rfl (by decide) ⟨by show k + 1 + 0 ≤ 601024; omega, by show n + 6 + 0 ≤ 7293034; omega⟩ (Nat.le_of_ble_eq_true rfl) dL_law_246 (pc2 := 249) rfl ?_
  refine g_istore (L1 := [(6, .int r7), (5, .int (wR (cf1 1) r6)), (0, .ref b), (1, .ref (ad κ.1 0 0)), (2, .ref (ad κ.1 19 0)), (3, .ref (ad κ.1 26 0)), (4, .int (nI i))]) hc (by decide) rfl dL_law_249 (pc2 := 251) rfl ?_
  refine g_aload_n (i := 2) hc 4 rfl rfl dL_law_251 (pc2 := 252) rfl ?_
  refine g_vI hc (k7_thrown rfl) co_L_101 (u19 (by decide)) rfl rfl (by decide) ⟨by show k + 1 + 0 + 0 ≤ 601024; omega, by show n + 6 + 0 + 0 ≤ 7293034; omega⟩ (Nat.le_of_ble_eq_true rfl) dL_law_252 (pc2 := 255) rfl ?_
  refine g_iload hc 1 rfl dL_law_255 (pc2 := 257) rfl ?_
  refine g_icmp_eq hc 262 (by decide) dL_law_257 (pc2 := 260) rfl (fun q => ?_) (fun q => absurd (ans_eq hans) q)
  refine g_iload hc 1 rfl dL_law_262 (pc2 := 264) rfl ?_
  have fin : G κ φ Q (NV κ (wT τ r6)) (k + 1 + 0 + 0) (n + 6 + 0 + 0) σ2 [(6, .int r7), (5, .int (wR (cf1 1) r6)), (0, .ref b), (1, .ref (ad κ.1 0 0)), (2, .ref (ad κ.1 19 0)), (3, .ref (ad κ.1 26 0)), (4, .int (nI i))] 279 [] := by
    refine g_goto hc 1671 (by decide) dL_law_279 ?_
    refine g_widen (k2 := k + 4) (n2 := n + 24) (by omega) (by omega) ?_
    refine g_sub [2, 3, 4, 5, 6] rfl ?_
    exact kk _ σ2 hinv
  refine g_if_ne hc 279 (by decide) dL_law_264 (pc2 := 267) rfl (fun q => fin) (fun q => ?_)
  refine g_aload_n (i := 3) hc 5 rfl rfl dL_law_267 (pc2 := 268) rfl ?_
  refine g_iconst (v := (0 : Int32)) hc (by decide) dL_law_268 (pc2 := 269) rfl ?_
  refine g_lald hc dL_law_269 (pc2 := 270) rfl ?_
  refine g_iload hc 0 rfl dL_law_270 (pc2 := 272) rfl ?_
  refine g_i2l hc dL_law_272 (pc2 := 273) rfl ?_
  refine g_lcmp hc dL_law_273 (pc2 := 274) rfl ?_
  exact g_if_eq hc 279 (by decide) dL_law_274 (pc2 := 277) rfl (fun q2 => fin) (fun q2 => absurd (by rw [ans_long hans (cf1_le _) q]; exact cmp_self _) q2)
set_option maxHeartbeats 8000000 in
theorem law_about (hc : Cx κ φ RL cL_law 7 room_1) (hX : Xs κ φ b Ls xs) (hL : Ls ≤ 2560) (hi : i + 5 ≤ Ls) (hσ : Inv σ B) (hB : B + 3000 < 2 ^ 27) (hk : k + 4 ≤ 601024) (hn : n + 24 ≤ 7293034) (kk : ∀ (τ2 : Nat → Int64) (σ2 : Mem), Inv σ2 (B + 100) → G κ φ Q (NV κ τ2) (k + 4) (n + 24) σ2 (LL κ b i) 1671 []) : G κ φ Q (NV κ τ) k n σ (LL κ b i) 282 [] := by
  show G κ φ Q (NV κ τ) k n σ [(0, .ref b), (1, .ref (ad κ.1 0 0)), (2, .ref (ad κ.1 19 0)), (3, .ref (ad κ.1 26 0)), (4, .int (nI i))] 282 []
  obtain ⟨x1, hx1⟩ : ∃ x, x = xs (nI i + 1).toNatClampNeg := ⟨_, rfl⟩
  obtain ⟨r6, σ1, r7, σ2, h6, h7, hinv, hans⟩ := g_about x1 σ B hσ hB
  refine g_aload_n (i := 1) hc 1 rfl rfl dL_law_282 (pc2 := 283) rfl ?_
  refine g_aload_n (i := 0) hc 0 rfl rfl dL_law_283 (pc2 := 284) rfl ?_
  refine g_iload hc 4 rfl dL_law_284 (pc2 := 286) rfl ?_
  refine g_iconst (v := (1 : Int32)) hc (by decide) dL_law_286 (pc2 := 287) rfl ?_
  refine g_iadd hc dL_law_287 (pc2 := 288) rfl ?_
  refine g_sld hc hX (sx_ib 1 hi hL (by decide)) dL_law_288 (pc2 := 289) rfl ?_
  refine g_nmi (e := xs (nI i + 1).toNatClampNeg) hx1 ?_
  refine g_aload_n (i := 3) hc 3 rfl rfl dL_law_289 (pc2 := 290) rfl ?_
  refine g_sW hc (w_about h6 (ans_nz hans)) cw_L_116 rfl rfl (by decide) ⟨by show k + 1 ≤ 601024; omega, by show n + 6 ≤ 7293034; omega⟩ (Nat.le_of_ble_eq_true rfl) dL_law_290 (pc2 := 293) rfl ?_
  refine g_istore (L1 := [(5, .int (wR (cf1 0) r6)), (0, .ref b), (1, .ref (ad κ.1 0 0)), (2, .ref (ad κ.1 19 0)), (3, .ref (ad κ.1 26 0)), (4, .int (nI i))]) hc (by decide) rfl dL_law_293 (pc2 := 295) rfl ?_
  refine g_aload_n (i := 2) hc 3 rfl rfl dL_law_295 (pc2 := 296) rfl ?_
  refine g_aload_n (i := 0) hc 1 rfl rfl dL_law_296 (pc2 := 297) rfl ?_
  refine g_iload hc 5 rfl dL_law_297 (pc2 := 299) rfl ?_
  refine g_iconst (v := (1 : Int32)) hc (by decide) dL_law_299 (pc2 := 300) rfl ?_
  refine g_iadd hc dL_law_300 (pc2 := 301) rfl ?_
  refine g_sld hc hX (sx_ib 1 hi hL (by decide)) dL_law_301 (pc2 := 302) rfl ?_
  refine g_nmi (e := xs (nI i + 1).toNatClampNeg) hx1 ?_
  refine g_vI hc (k7_about h7) co_L_118 (u19 (by decide)) rfl rfl (by decide) ⟨by show k + 1 + 0 ≤ 601024; omega, by show n + 6 + 0 ≤ 7293034; omega⟩ (Nat.le_of_ble_eq_true rfl) dL_law_302 (pc2 := 305) rfl ?_
  refine g_istore (L1 := [(6, .int r7), (5, .int (wR (cf1 0) r6)), (0, .ref b), (1, .ref (ad κ.1 0 0)), (2, .ref (ad κ.1 19 0)), (3, .ref (ad κ.1 26 0)), (4, .int (nI i))]) hc (by decide) rfl dL_law_305 (pc2 := 307) rfl ?_
  refine g_aload_n (i := 2) hc 4 rfl rfl dL_law_307 (pc2 := 308) rfl ?_
  refine g_vI hc (k7_thrown rfl) co_L_101 (u19 (by decide)) rfl rfl (by decide) ⟨by show k + 1 + 0 + 0 ≤ 601024; omega, by show n + 6 + 0 + 0 ≤ 7293034; omega⟩ (Nat.le_of_ble_eq_true rfl) dL_law_308 (pc2 := 311) rfl ?_
  refine g_iload hc 1 rfl dL_law_311 (pc2 := 313) rfl ?_
  refine g_icmp_eq hc 318 (by decide) dL_law_313 (pc2 := 316) rfl (fun q => ?_) (fun q => absurd (ans_eq hans) q)
  refine g_iload hc 1 rfl dL_law_318 (pc2 := 320) rfl ?_
  have fin : G κ φ Q (NV κ (wT τ r6)) (k + 1 + 0 + 0) (n + 6 + 0 + 0) σ2 [(6, .int r7), (5, .int (wR (cf1 0) r6)), (0, .ref b), (1, .ref (ad κ.1 0 0)), (2, .ref (ad κ.1 19 0)), (3, .ref (ad κ.1 26 0)), (4, .int (nI i))] 335 [] := by
    refine g_goto hc 1671 (by decide) dL_law_335 ?_
    refine g_widen (k2 := k + 4) (n2 := n + 24) (by omega) (by omega) ?_
    refine g_sub [2, 3, 4, 5, 6] rfl ?_
    exact kk _ σ2 hinv
  refine g_if_ne hc 335 (by decide) dL_law_320 (pc2 := 323) rfl (fun q => fin) (fun q => ?_)
  refine g_aload_n (i := 3) hc 5 rfl rfl dL_law_323 (pc2 := 324) rfl ?_
  refine g_iconst (v := (0 : Int32)) hc (by decide) dL_law_324 (pc2 := 325) rfl ?_
  refine g_lald hc dL_law_325 (pc2 := 326) rfl ?_
  refine g_iload hc 0 rfl dL_law_326 (pc2 := 328) rfl ?_
  refine g_i2l hc dL_law_328 (pc2 := 329) rfl ?_
  refine g_lcmp hc dL_law_329 (pc2 := 330) rfl ?_
  exact g_if_eq hc 335 (by decide) dL_law_330 (pc2 := 333) rfl (fun q2 => fin) (fun q2 => absurd (by rw [ans_long hans (cf1_le _) q]; exact cmp_self _) q2)
set_option maxHeartbeats 8000000 in
theorem law_master (hc : Cx κ φ RL cL_law 7 room_1) (hX : Xs κ φ b Ls xs) (hL : Ls ≤ 2560) (hi : i + 5 ≤ Ls) (hσ : Inv σ B) (hB : B + 3000 < 2 ^ 27) (hk : k + 4 ≤ 601024) (hn : n + 24 ≤ 7293034) (kk : ∀ (τ2 : Nat → Int64) (σ2 : Mem), Inv σ2 (B + 100) → G κ φ Q (NV κ τ2) (k + 4) (n + 24) σ2 (LL κ b i) 1671 []) : G κ φ Q (NV κ τ) k n σ (LL κ b i) 338 [] := by
  show G κ φ Q (NV κ τ) k n σ [(0, .ref b), (1, .ref (ad κ.1 0 0)), (2, .ref (ad κ.1 19 0)), (3, .ref (ad κ.1 26 0)), (4, .int (nI i))] 338 []
  obtain ⟨x1, hx1⟩ : ∃ x, x = xs (nI i + 1).toNatClampNeg := ⟨_, rfl⟩
  obtain ⟨x2, hx2⟩ : ∃ x, x = xs (nI i + 2).toNatClampNeg := ⟨_, rfl⟩
  obtain ⟨r6, σ1, r7, σ2, h6, h7, hinv, hans⟩ := g_master x1 x2 σ B hσ hB
  refine g_aload_n (i := 1) hc 1 rfl rfl dL_law_338 (pc2 := 339) rfl ?_
  refine g_aload_n (i := 0) hc 0 rfl rfl dL_law_339 (pc2 := 340) rfl ?_
  refine g_iload hc 4 rfl dL_law_340 (pc2 := 342) rfl ?_
  refine g_iconst (v := (1 : Int32)) hc (by decide) dL_law_342 (pc2 := 343) rfl ?_
  refine g_iadd hc dL_law_343 (pc2 := 344) rfl ?_
  refine g_sld hc hX (sx_ib 1 hi hL (by decide)) dL_law_344 (pc2 := 345) rfl ?_
  refine g_nmi (e := xs (nI i + 1).toNatClampNeg) hx1 ?_
  refine g_aload_n (i := 0) hc 0 rfl rfl dL_law_345 (pc2 := 346) rfl ?_
  refine g_iload hc 4 rfl dL_law_346 (pc2 := 348) rfl ?_
  refine g_iconst (v := (2 : Int32)) hc (by decide) dL_law_348 (pc2 := 349) rfl ?_
  refine g_iadd hc dL_law_349 (pc2 := 350) rfl ?_
  refine g_sld hc hX (sx_ib 2 hi hL (by decide)) dL_law_350 (pc2 := 351) rfl ?_
  refine g_nmi (e := xs (nI i + 2).toNatClampNeg) hx2 ?_
  refine g_aload_n (i := 3) hc 3 rfl rfl dL_law_351 (pc2 := 352) rfl ?_
  refine g_sW hc (w_master h6 (ans_nz hans)) cw_L_119 rfl rfl (by decide) ⟨by show k + 2 ≤ 601024; omega, by show n + 12 ≤ 7293034; omega⟩ (Nat.le_of_ble_eq_true rfl) dL_law_352 (pc2 := 355) rfl ?_
  refine g_istore (L1 := [(5, .int (wR (cf2 2 0) r6)), (0, .ref b), (1, .ref (ad κ.1 0 0)), (2, .ref (ad κ.1 19 0)), (3, .ref (ad κ.1 26 0)), (4, .int (nI i))]) hc (by decide) rfl dL_law_355 (pc2 := 357) rfl ?_
  refine g_aload_n (i := 2) hc 3 rfl rfl dL_law_357 (pc2 := 358) rfl ?_
  refine g_aload_n (i := 0) hc 1 rfl rfl dL_law_358 (pc2 := 359) rfl ?_
  refine g_iload hc 5 rfl dL_law_359 (pc2 := 361) rfl ?_
  refine g_iconst (v := (1 : Int32)) hc (by decide) dL_law_361 (pc2 := 362) rfl ?_
  refine g_iadd hc dL_law_362 (pc2 := 363) rfl ?_
  refine g_sld hc hX (sx_ib 1 hi hL (by decide)) dL_law_363 (pc2 := 364) rfl ?_
  refine g_nmi (e := xs (nI i + 1).toNatClampNeg) hx1 ?_
  refine g_aload_n (i := 0) hc 1 rfl rfl dL_law_364 (pc2 := 365) rfl ?_
  refine g_iload hc 5 rfl dL_law_365 (pc2 := 367) rfl ?_
  refine g_iconst (v := (2 : Int32)) hc (by decide) dL_law_367 (pc2 := 368) rfl ?_
  refine g_iadd hc dL_law_368 (pc2 := 369) rfl ?_
  refine g_sld hc hX (sx_ib 2 hi hL (by decide)) dL_law_369 (pc2 := 370) rfl ?_
  refine g_nmi (e := xs (nI i + 2).toNatClampNeg) hx2 ?_
  refine g_vI hc (k7_master h7) co_L_122 (u19 (by decide)) rfl rfl (by decide) ⟨by show k + 2 + 0 ≤ 601024; omega, by show n + 12 + 0 ≤ 7293034; omega⟩ (Nat.le_of_ble_eq_true rfl) dL_law_370 (pc2 := 373) rfl ?_
  refine g_istore (L1 := [(6, .int r7), (5, .int (wR (cf2 2 0) r6)), (0, .ref b), (1, .ref (ad κ.1 0 0)), (2, .ref (ad κ.1 19 0)), (3, .ref (ad κ.1 26 0)), (4, .int (nI i))]) hc (by decide) rfl dL_law_373 (pc2 := 375) rfl ?_
  refine g_aload_n (i := 2) hc 4 rfl rfl dL_law_375 (pc2 := 376) rfl ?_
  refine g_vI hc (k7_thrown rfl) co_L_101 (u19 (by decide)) rfl rfl (by decide) ⟨by show k + 2 + 0 + 0 ≤ 601024; omega, by show n + 12 + 0 + 0 ≤ 7293034; omega⟩ (Nat.le_of_ble_eq_true rfl) dL_law_376 (pc2 := 379) rfl ?_
  refine g_iload hc 1 rfl dL_law_379 (pc2 := 381) rfl ?_
  refine g_icmp_eq hc 386 (by decide) dL_law_381 (pc2 := 384) rfl (fun q => ?_) (fun q => absurd (ans_eq hans) q)
  refine g_iload hc 1 rfl dL_law_386 (pc2 := 388) rfl ?_
  have fin : G κ φ Q (NV κ (wT τ r6)) (k + 2 + 0 + 0) (n + 12 + 0 + 0) σ2 [(6, .int r7), (5, .int (wR (cf2 2 0) r6)), (0, .ref b), (1, .ref (ad κ.1 0 0)), (2, .ref (ad κ.1 19 0)), (3, .ref (ad κ.1 26 0)), (4, .int (nI i))] 403 [] := by
    refine g_goto hc 1671 (by decide) dL_law_403 ?_
    refine g_widen (k2 := k + 4) (n2 := n + 24) (by omega) (by omega) ?_
    refine g_sub [2, 3, 4, 5, 6] rfl ?_
    exact kk _ σ2 hinv
  refine g_if_ne hc 403 (by decide) dL_law_388 (pc2 := 391) rfl (fun q => fin) (fun q => ?_)
  refine g_aload_n (i := 3) hc 5 rfl rfl dL_law_391 (pc2 := 392) rfl ?_
  refine g_iconst (v := (0 : Int32)) hc (by decide) dL_law_392 (pc2 := 393) rfl ?_
  refine g_lald hc dL_law_393 (pc2 := 394) rfl ?_
  refine g_iload hc 0 rfl dL_law_394 (pc2 := 396) rfl ?_
  refine g_i2l hc dL_law_396 (pc2 := 397) rfl ?_
  refine g_lcmp hc dL_law_397 (pc2 := 398) rfl ?_
  exact g_if_eq hc 403 (by decide) dL_law_398 (pc2 := 401) rfl (fun q2 => fin) (fun q2 => absurd (by rw [ans_long hans (cf2_le _ _) q]; exact cmp_self _) q2)
set_option maxHeartbeats 8000000 in
theorem law_owner (hc : Cx κ φ RL cL_law 7 room_1) (hX : Xs κ φ b Ls xs) (hL : Ls ≤ 2560) (hi : i + 5 ≤ Ls) (hσ : Inv σ B) (hB : B + 3000 < 2 ^ 27) (hk : k + 4 ≤ 601024) (hn : n + 24 ≤ 7293034) (kk : ∀ (τ2 : Nat → Int64) (σ2 : Mem), Inv σ2 (B + 100) → G κ φ Q (NV κ τ2) (k + 4) (n + 24) σ2 (LL κ b i) 1671 []) : G κ φ Q (NV κ τ) k n σ (LL κ b i) 406 [] := by
  show G κ φ Q (NV κ τ) k n σ [(0, .ref b), (1, .ref (ad κ.1 0 0)), (2, .ref (ad κ.1 19 0)), (3, .ref (ad κ.1 26 0)), (4, .int (nI i))] 406 []
  obtain ⟨x1, hx1⟩ : ∃ x, x = xs (nI i + 1).toNatClampNeg := ⟨_, rfl⟩
  obtain ⟨r6, σ1, r7, σ2, h6, h7, hinv, hans⟩ := g_owner x1 σ B hσ hB
  refine g_aload_n (i := 1) hc 1 rfl rfl dL_law_406 (pc2 := 407) rfl ?_
  refine g_aload_n (i := 0) hc 0 rfl rfl dL_law_407 (pc2 := 408) rfl ?_
  refine g_iload hc 4 rfl dL_law_408 (pc2 := 410) rfl ?_
  refine g_iconst (v := (1 : Int32)) hc (by decide) dL_law_410 (pc2 := 411) rfl ?_
  refine g_iadd hc dL_law_411 (pc2 := 412) rfl ?_
  refine g_sld hc hX (sx_ib 1 hi hL (by decide)) dL_law_412 (pc2 := 413) rfl ?_
  refine g_nmi (e := xs (nI i + 1).toNatClampNeg) hx1 ?_
  refine g_aload_n (i := 3) hc 3 rfl rfl dL_law_413 (pc2 := 414) rfl ?_
  refine g_sW hc (w_owner h6 (ans_nz hans)) cw_L_123 rfl rfl (by decide) ⟨by show k + 1 ≤ 601024; omega, by show n + 6 ≤ 7293034; omega⟩ (Nat.le_of_ble_eq_true rfl) dL_law_414 (pc2 := 417) rfl ?_
  refine g_istore (L1 := [(5, .int (wR (cf1 2) r6)), (0, .ref b), (1, .ref (ad κ.1 0 0)), (2, .ref (ad κ.1 19 0)), (3, .ref (ad κ.1 26 0)), (4, .int (nI i))]) hc (by decide) rfl dL_law_417 (pc2 := 419) rfl ?_
  refine g_aload_n (i := 2) hc 3 rfl rfl dL_law_419 (pc2 := 420) rfl ?_
  refine g_aload_n (i := 0) hc 1 rfl rfl dL_law_420 (pc2 := 421) rfl ?_
  refine g_iload hc 5 rfl dL_law_421 (pc2 := 423) rfl ?_
  refine g_iconst (v := (1 : Int32)) hc (by decide) dL_law_423 (pc2 := 424) rfl ?_
  refine g_iadd hc dL_law_424 (pc2 := 425) rfl ?_
  refine g_sld hc hX (sx_ib 1 hi hL (by decide)) dL_law_425 (pc2 := 426) rfl ?_
  refine g_nmi (e := xs (nI i + 1).toNatClampNeg) hx1 ?_
  refine g_vI hc (k7_owner h7) co_L_125 (u19 (by decide)) rfl rfl (by decide) ⟨by show k + 1 + 0 ≤ 601024; omega, by show n + 6 + 0 ≤ 7293034; omega⟩ (Nat.le_of_ble_eq_true rfl) dL_law_426 (pc2 := 429) rfl ?_
  refine g_istore (L1 := [(6, .int r7), (5, .int (wR (cf1 2) r6)), (0, .ref b), (1, .ref (ad κ.1 0 0)), (2, .ref (ad κ.1 19 0)), (3, .ref (ad κ.1 26 0)), (4, .int (nI i))]) hc (by decide) rfl dL_law_429 (pc2 := 431) rfl ?_
  refine g_aload_n (i := 2) hc 4 rfl rfl dL_law_431 (pc2 := 432) rfl ?_
  refine g_vI hc (k7_thrown rfl) co_L_101 (u19 (by decide)) rfl rfl (by decide) ⟨by show k + 1 + 0 + 0 ≤ 601024; omega, by show n + 6 + 0 + 0 ≤ 7293034; omega⟩ (Nat.le_of_ble_eq_true rfl) dL_law_432 (pc2 := 435) rfl ?_
  refine g_iload hc 1 rfl dL_law_435 (pc2 := 437) rfl ?_
  refine g_icmp_eq hc 442 (by decide) dL_law_437 (pc2 := 440) rfl (fun q => ?_) (fun q => absurd (ans_eq hans) q)
  refine g_iload hc 1 rfl dL_law_442 (pc2 := 444) rfl ?_
  have fin : G κ φ Q (NV κ (wT τ r6)) (k + 1 + 0 + 0) (n + 6 + 0 + 0) σ2 [(6, .int r7), (5, .int (wR (cf1 2) r6)), (0, .ref b), (1, .ref (ad κ.1 0 0)), (2, .ref (ad κ.1 19 0)), (3, .ref (ad κ.1 26 0)), (4, .int (nI i))] 459 [] := by
    refine g_goto hc 1671 (by decide) dL_law_459 ?_
    refine g_widen (k2 := k + 4) (n2 := n + 24) (by omega) (by omega) ?_
    refine g_sub [2, 3, 4, 5, 6] rfl ?_
    exact kk _ σ2 hinv
  refine g_if_ne hc 459 (by decide) dL_law_444 (pc2 := 447) rfl (fun q => fin) (fun q => ?_)
  refine g_aload_n (i := 3) hc 5 rfl rfl dL_law_447 (pc2 := 448) rfl ?_
  refine g_iconst (v := (0 : Int32)) hc (by decide) dL_law_448 (pc2 := 449) rfl ?_
  refine g_lald hc dL_law_449 (pc2 := 450) rfl ?_
  refine g_iload hc 0 rfl dL_law_450 (pc2 := 452) rfl ?_
  refine g_i2l hc dL_law_452 (pc2 := 453) rfl ?_
  refine g_lcmp hc dL_law_453 (pc2 := 454) rfl ?_
  exact g_if_eq hc 459 (by decide) dL_law_454 (pc2 := 457) rfl (fun q2 => fin) (fun q2 => absurd (by rw [ans_long hans (cf1_le _) q]; exact cmp_self _) q2)
set_option maxHeartbeats 8000000 in
theorem law_owes (hc : Cx κ φ RL cL_law 7 room_1) (hX : Xs κ φ b Ls xs) (hL : Ls ≤ 2560) (hi : i + 5 ≤ Ls) (hσ : Inv σ B) (hB : B + 3000 < 2 ^ 27) (hk : k + 4 ≤ 601024) (hn : n + 24 ≤ 7293034) (kk : ∀ (τ2 : Nat → Int64) (σ2 : Mem), Inv σ2 (B + 100) → G κ φ Q (NV κ τ2) (k + 4) (n + 24) σ2 (LL κ b i) 1671 []) : G κ φ Q (NV κ τ) k n σ (LL κ b i) 462 [] := by
  show G κ φ Q (NV κ τ) k n σ [(0, .ref b), (1, .ref (ad κ.1 0 0)), (2, .ref (ad κ.1 19 0)), (3, .ref (ad κ.1 26 0)), (4, .int (nI i))] 462 []
  obtain ⟨x1, hx1⟩ : ∃ x, x = xs (nI i + 1).toNatClampNeg := ⟨_, rfl⟩
  obtain ⟨x2, hx2⟩ : ∃ x, x = xs (nI i + 2).toNatClampNeg := ⟨_, rfl⟩
  obtain ⟨r6, σ1, r7, σ2, h6, h7, hinv, hans⟩ := g_owes x1 x2 σ B hσ hB
  refine g_aload_n (i := 1) hc 1 rfl rfl dL_law_462 (pc2 := 463) rfl ?_
  refine g_aload_n (i := 0) hc 0 rfl rfl dL_law_463 (pc2 := 464) rfl ?_
  refine g_iload hc 4 rfl dL_law_464 (pc2 := 466) rfl ?_
  refine g_iconst (v := (1 : Int32)) hc (by decide) dL_law_466 (pc2 := 467) rfl ?_
  refine g_iadd hc dL_law_467 (pc2 := 468) rfl ?_
  refine g_sld hc hX (sx_ib 1 hi hL (by decide)) dL_law_468 (pc2 := 469) rfl ?_
  refine g_nmi (e := xs (nI i + 1).toNatClampNeg) hx1 ?_
  refine g_aload_n (i := 0) hc 0 rfl rfl dL_law_469 (pc2 := 470) rfl ?_
  refine g_iload hc 4 rfl dL_law_470 (pc2 := 472) rfl ?_
  refine g_iconst (v := (2 : Int32)) hc (by decide) dL_law_472 (pc2 := 473) rfl ?_
  refine g_iadd hc dL_law_473 (pc2 := 474) rfl ?_
  refine g_sld hc hX (sx_ib 2 hi hL (by decide)) dL_law_474 (pc2 := 475) rfl ?_
  refine g_nmi (e := xs (nI i + 2).toNatClampNeg) hx2 ?_
  refine g_aload_n (i := 3) hc 3 rfl rfl dL_law_475 (pc2 := 476) rfl ?_
  refine g_sW hc (w_owes h6 (ans_nz hans)) cw_L_126 rfl rfl (by decide) ⟨by show k + 2 ≤ 601024; omega, by show n + 12 ≤ 7293034; omega⟩ (Nat.le_of_ble_eq_true rfl) dL_law_476 (pc2 := 479) rfl ?_
  refine g_istore (L1 := [(5, .int (wR (cf1 2) r6)), (0, .ref b), (1, .ref (ad κ.1 0 0)), (2, .ref (ad κ.1 19 0)), (3, .ref (ad κ.1 26 0)), (4, .int (nI i))]) hc (by decide) rfl dL_law_479 (pc2 := 481) rfl ?_
  refine g_aload_n (i := 2) hc 3 rfl rfl dL_law_481 (pc2 := 482) rfl ?_
  refine g_aload_n (i := 0) hc 1 rfl rfl dL_law_482 (pc2 := 483) rfl ?_
  refine g_iload hc 5 rfl dL_law_483 (pc2 := 485) rfl ?_
  refine g_iconst (v := (1 : Int32)) hc (by decide) dL_law_485 (pc2 := 486) rfl ?_
  refine g_iadd hc dL_law_486 (pc2 := 487) rfl ?_
  refine g_sld hc hX (sx_ib 1 hi hL (by decide)) dL_law_487 (pc2 := 488) rfl ?_
  refine g_nmi (e := xs (nI i + 1).toNatClampNeg) hx1 ?_
  refine g_aload_n (i := 0) hc 1 rfl rfl dL_law_488 (pc2 := 489) rfl ?_
  refine g_iload hc 5 rfl dL_law_489 (pc2 := 491) rfl ?_
  refine g_iconst (v := (2 : Int32)) hc (by decide) dL_law_491 (pc2 := 492) rfl ?_
  refine g_iadd hc dL_law_492 (pc2 := 493) rfl ?_
  refine g_sld hc hX (sx_ib 2 hi hL (by decide)) dL_law_493 (pc2 := 494) rfl ?_
  refine g_nmi (e := xs (nI i + 2).toNatClampNeg) hx2 ?_
  refine g_vI hc (k7_owes h7) co_L_128 (u19 (by decide)) rfl rfl (by decide) ⟨by show k + 2 + 0 ≤ 601024; omega, by show n + 12 + 0 ≤ 7293034; omega⟩ (Nat.le_of_ble_eq_true rfl) dL_law_494 (pc2 := 497) rfl ?_
  refine g_istore (L1 := [(6, .int r7), (5, .int (wR (cf1 2) r6)), (0, .ref b), (1, .ref (ad κ.1 0 0)), (2, .ref (ad κ.1 19 0)), (3, .ref (ad κ.1 26 0)), (4, .int (nI i))]) hc (by decide) rfl dL_law_497 (pc2 := 499) rfl ?_
  refine g_aload_n (i := 2) hc 4 rfl rfl dL_law_499 (pc2 := 500) rfl ?_
  refine g_vI hc (k7_thrown rfl) co_L_101 (u19 (by decide)) rfl rfl (by decide) ⟨by show k + 2 + 0 + 0 ≤ 601024; omega, by show n + 12 + 0 + 0 ≤ 7293034; omega⟩ (Nat.le_of_ble_eq_true rfl) dL_law_500 (pc2 := 503) rfl ?_
  refine g_iload hc 1 rfl dL_law_503 (pc2 := 505) rfl ?_
  refine g_icmp_eq hc 510 (by decide) dL_law_505 (pc2 := 508) rfl (fun q => ?_) (fun q => absurd (ans_eq hans) q)
  refine g_iload hc 1 rfl dL_law_510 (pc2 := 512) rfl ?_
  have fin : G κ φ Q (NV κ (wT τ r6)) (k + 2 + 0 + 0) (n + 12 + 0 + 0) σ2 [(6, .int r7), (5, .int (wR (cf1 2) r6)), (0, .ref b), (1, .ref (ad κ.1 0 0)), (2, .ref (ad κ.1 19 0)), (3, .ref (ad κ.1 26 0)), (4, .int (nI i))] 527 [] := by
    refine g_goto hc 1671 (by decide) dL_law_527 ?_
    refine g_widen (k2 := k + 4) (n2 := n + 24) (by omega) (by omega) ?_
    refine g_sub [2, 3, 4, 5, 6] rfl ?_
    exact kk _ σ2 hinv
  refine g_if_ne hc 527 (by decide) dL_law_512 (pc2 := 515) rfl (fun q => fin) (fun q => ?_)
  refine g_aload_n (i := 3) hc 5 rfl rfl dL_law_515 (pc2 := 516) rfl ?_
  refine g_iconst (v := (0 : Int32)) hc (by decide) dL_law_516 (pc2 := 517) rfl ?_
  refine g_lald hc dL_law_517 (pc2 := 518) rfl ?_
  refine g_iload hc 0 rfl dL_law_518 (pc2 := 520) rfl ?_
  refine g_i2l hc dL_law_520 (pc2 := 521) rfl ?_
  refine g_lcmp hc dL_law_521 (pc2 := 522) rfl ?_
  exact g_if_eq hc 527 (by decide) dL_law_522 (pc2 := 525) rfl (fun q2 => fin) (fun q2 => absurd (by rw [ans_long hans (cf1_le _) q]; exact cmp_self _) q2)
set_option maxHeartbeats 8000000 in
theorem law_burst (hc : Cx κ φ RL cL_law 7 room_1) (hX : Xs κ φ b Ls xs) (hL : Ls ≤ 2560) (hi : i + 5 ≤ Ls) (hσ : Inv σ B) (hB : B + 3000 < 2 ^ 27) (hk : k + 4 ≤ 601024) (hn : n + 24 ≤ 7293034) (kk : ∀ (τ2 : Nat → Int64) (σ2 : Mem), Inv σ2 (B + 100) → G κ φ Q (NV κ τ2) (k + 4) (n + 24) σ2 (LL κ b i) 1671 []) : G κ φ Q (NV κ τ) k n σ (LL κ b i) 530 [] := by
  show G κ φ Q (NV κ τ) k n σ [(0, .ref b), (1, .ref (ad κ.1 0 0)), (2, .ref (ad κ.1 19 0)), (3, .ref (ad κ.1 26 0)), (4, .int (nI i))] 530 []
  obtain ⟨x1, hx1⟩ : ∃ x, x = xs (nI i + 1).toNatClampNeg := ⟨_, rfl⟩
  obtain ⟨x2, hx2⟩ : ∃ x, x = xs (nI i + 2).toNatClampNeg := ⟨_, rfl⟩
  obtain ⟨x3, hx3⟩ : ∃ x, x = xs (nI i + 3).toNatClampNeg := ⟨_, rfl⟩
  obtain ⟨r6, σ1, r7, σ2, h6, h7, hinv, hans⟩ := g_burst x1 x2 x3 σ B hσ hB
  refine g_aload_n (i := 1) hc 1 rfl rfl dL_law_530 (pc2 := 531) rfl ?_
  refine g_aload_n (i := 0) hc 0 rfl rfl dL_law_531 (pc2 := 532) rfl ?_
  refine g_iload hc 4 rfl dL_law_532 (pc2 := 534) rfl ?_
  refine g_iconst (v := (1 : Int32)) hc (by decide) dL_law_534 (pc2 := 535) rfl ?_
  refine g_iadd hc dL_law_535 (pc2 := 536) rfl ?_
  refine g_sld hc hX (sx_ib 1 hi hL (by decide)) dL_law_536 (pc2 := 537) rfl ?_
  refine g_nmi (e := xs (nI i + 1).toNatClampNeg) hx1 ?_
  refine g_aload_n (i := 0) hc 0 rfl rfl dL_law_537 (pc2 := 538) rfl ?_
  refine g_iload hc 4 rfl dL_law_538 (pc2 := 540) rfl ?_
  refine g_iconst (v := (2 : Int32)) hc (by decide) dL_law_540 (pc2 := 541) rfl ?_
  refine g_iadd hc dL_law_541 (pc2 := 542) rfl ?_
  refine g_sld hc hX (sx_ib 2 hi hL (by decide)) dL_law_542 (pc2 := 543) rfl ?_
  refine g_nmi (e := xs (nI i + 2).toNatClampNeg) hx2 ?_
  refine g_aload_n (i := 0) hc 0 rfl rfl dL_law_543 (pc2 := 544) rfl ?_
  refine g_iload hc 4 rfl dL_law_544 (pc2 := 546) rfl ?_
  refine g_iconst (v := (3 : Int32)) hc (by decide) dL_law_546 (pc2 := 547) rfl ?_
  refine g_iadd hc dL_law_547 (pc2 := 548) rfl ?_
  refine g_sld hc hX (sx_ib 3 hi hL (by decide)) dL_law_548 (pc2 := 549) rfl ?_
  refine g_nmi (e := xs (nI i + 3).toNatClampNeg) hx3 ?_
  refine g_aload_n (i := 3) hc 3 rfl rfl dL_law_549 (pc2 := 550) rfl ?_
  refine g_sW hc (w_burst h6 (ans_nz hans)) cw_L_129 rfl rfl (by decide) ⟨by show k + 2 ≤ 601024; omega, by show n + 12 ≤ 7293034; omega⟩ (Nat.le_of_ble_eq_true rfl) dL_law_550 (pc2 := 553) rfl ?_
  refine g_istore (L1 := [(5, .int (wR (cf2 2 0) r6)), (0, .ref b), (1, .ref (ad κ.1 0 0)), (2, .ref (ad κ.1 19 0)), (3, .ref (ad κ.1 26 0)), (4, .int (nI i))]) hc (by decide) rfl dL_law_553 (pc2 := 555) rfl ?_
  refine g_aload_n (i := 2) hc 3 rfl rfl dL_law_555 (pc2 := 556) rfl ?_
  refine g_aload_n (i := 0) hc 1 rfl rfl dL_law_556 (pc2 := 557) rfl ?_
  refine g_iload hc 5 rfl dL_law_557 (pc2 := 559) rfl ?_
  refine g_iconst (v := (1 : Int32)) hc (by decide) dL_law_559 (pc2 := 560) rfl ?_
  refine g_iadd hc dL_law_560 (pc2 := 561) rfl ?_
  refine g_sld hc hX (sx_ib 1 hi hL (by decide)) dL_law_561 (pc2 := 562) rfl ?_
  refine g_nmi (e := xs (nI i + 1).toNatClampNeg) hx1 ?_
  refine g_aload_n (i := 0) hc 1 rfl rfl dL_law_562 (pc2 := 563) rfl ?_
  refine g_iload hc 5 rfl dL_law_563 (pc2 := 565) rfl ?_
  refine g_iconst (v := (2 : Int32)) hc (by decide) dL_law_565 (pc2 := 566) rfl ?_
  refine g_iadd hc dL_law_566 (pc2 := 567) rfl ?_
  refine g_sld hc hX (sx_ib 2 hi hL (by decide)) dL_law_567 (pc2 := 568) rfl ?_
  refine g_nmi (e := xs (nI i + 2).toNatClampNeg) hx2 ?_
  refine g_aload_n (i := 0) hc 1 rfl rfl dL_law_568 (pc2 := 569) rfl ?_
  refine g_iload hc 5 rfl dL_law_569 (pc2 := 571) rfl ?_
  refine g_iconst (v := (3 : Int32)) hc (by decide) dL_law_571 (pc2 := 572) rfl ?_
  refine g_iadd hc dL_law_572 (pc2 := 573) rfl ?_
  refine g_sld hc hX (sx_ib 3 hi hL (by decide)) dL_law_573 (pc2 := 574) rfl ?_
  refine g_nmi (e := xs (nI i + 3).toNatClampNeg) hx3 ?_
  refine g_vI hc (k7_burst h7) co_L_132 (u19 (by decide)) rfl rfl (by decide) ⟨by show k + 2 + 0 ≤ 601024; omega, by show n + 12 + 0 ≤ 7293034; omega⟩ (Nat.le_of_ble_eq_true rfl) dL_law_574 (pc2 := 577) rfl ?_
  refine g_istore (L1 := [(6, .int r7), (5, .int (wR (cf2 2 0) r6)), (0, .ref b), (1, .ref (ad κ.1 0 0)), (2, .ref (ad κ.1 19 0)), (3, .ref (ad κ.1 26 0)), (4, .int (nI i))]) hc (by decide) rfl dL_law_577 (pc2 := 579) rfl ?_
  refine g_aload_n (i := 2) hc 4 rfl rfl dL_law_579 (pc2 := 580) rfl ?_
  refine g_vI hc (k7_thrown rfl) co_L_101 (u19 (by decide)) rfl rfl (by decide) ⟨by show k + 2 + 0 + 0 ≤ 601024; omega, by show n + 12 + 0 + 0 ≤ 7293034; omega⟩ (Nat.le_of_ble_eq_true rfl) dL_law_580 (pc2 := 583) rfl ?_
  refine g_iload hc 1 rfl dL_law_583 (pc2 := 585) rfl ?_
  refine g_icmp_eq hc 590 (by decide) dL_law_585 (pc2 := 588) rfl (fun q => ?_) (fun q => absurd (ans_eq hans) q)
  refine g_iload hc 1 rfl dL_law_590 (pc2 := 592) rfl ?_
  have fin : G κ φ Q (NV κ (wT τ r6)) (k + 2 + 0 + 0) (n + 12 + 0 + 0) σ2 [(6, .int r7), (5, .int (wR (cf2 2 0) r6)), (0, .ref b), (1, .ref (ad κ.1 0 0)), (2, .ref (ad κ.1 19 0)), (3, .ref (ad κ.1 26 0)), (4, .int (nI i))] 607 [] := by
    refine g_goto hc 1671 (by decide) dL_law_607 ?_
    refine g_widen (k2 := k + 4) (n2 := n + 24) (by omega) (by omega) ?_
    refine g_sub [2, 3, 4, 5, 6] rfl ?_
    exact kk _ σ2 hinv
  refine g_if_ne hc 607 (by decide) dL_law_592 (pc2 := 595) rfl (fun q => fin) (fun q => ?_)
  refine g_aload_n (i := 3) hc 5 rfl rfl dL_law_595 (pc2 := 596) rfl ?_
  refine g_iconst (v := (0 : Int32)) hc (by decide) dL_law_596 (pc2 := 597) rfl ?_
  refine g_lald hc dL_law_597 (pc2 := 598) rfl ?_
  refine g_iload hc 0 rfl dL_law_598 (pc2 := 600) rfl ?_
  refine g_i2l hc dL_law_600 (pc2 := 601) rfl ?_
  refine g_lcmp hc dL_law_601 (pc2 := 602) rfl ?_
  exact g_if_eq hc 607 (by decide) dL_law_602 (pc2 := 605) rfl (fun q2 => fin) (fun q2 => absurd (by rw [ans_long hans (cf2_le _ _) q]; exact cmp_self _) q2)
set_option maxHeartbeats 8000000 in
theorem law_order (hc : Cx κ φ RL cL_law 7 room_1) (hX : Xs κ φ b Ls xs) (hL : Ls ≤ 2560) (hi : i + 5 ≤ Ls) (hσ : Inv σ B) (hB : B + 3000 < 2 ^ 27) (hk : k + 4 ≤ 601024) (hn : n + 24 ≤ 7293034) (kk : ∀ (τ2 : Nat → Int64) (σ2 : Mem), Inv σ2 (B + 100) → G κ φ Q (NV κ τ2) (k + 4) (n + 24) σ2 (LL κ b i) 1671 []) : G κ φ Q (NV κ τ) k n σ (LL κ b i) 610 [] := by
  show G κ φ Q (NV κ τ) k n σ [(0, .ref b), (1, .ref (ad κ.1 0 0)), (2, .ref (ad κ.1 19 0)), (3, .ref (ad κ.1 26 0)), (4, .int (nI i))] 610 []
  obtain ⟨x1, hx1⟩ : ∃ x, x = xs (nI i + 1).toNatClampNeg := ⟨_, rfl⟩
  obtain ⟨r6, σ1, r7, σ2, h6, h7, hinv, hans⟩ := g_order x1 σ B hσ hB
  refine g_aload_n (i := 1) hc 1 rfl rfl dL_law_610 (pc2 := 611) rfl ?_
  refine g_aload_n (i := 0) hc 0 rfl rfl dL_law_611 (pc2 := 612) rfl ?_
  refine g_iload hc 4 rfl dL_law_612 (pc2 := 614) rfl ?_
  refine g_iconst (v := (1 : Int32)) hc (by decide) dL_law_614 (pc2 := 615) rfl ?_
  refine g_iadd hc dL_law_615 (pc2 := 616) rfl ?_
  refine g_sld hc hX (sx_ib 1 hi hL (by decide)) dL_law_616 (pc2 := 617) rfl ?_
  refine g_nmi (e := xs (nI i + 1).toNatClampNeg) hx1 ?_
  refine g_aload_n (i := 3) hc 3 rfl rfl dL_law_617 (pc2 := 618) rfl ?_
  refine g_sW hc (w_order h6 (ans_nz hans)) cw_L_133 rfl rfl (by decide) ⟨by show k + 1 ≤ 601024; omega, by show n + 6 ≤ 7293034; omega⟩ (Nat.le_of_ble_eq_true rfl) dL_law_618 (pc2 := 621) rfl ?_
  refine g_istore (L1 := [(5, .int (wR (cf1 0) r6)), (0, .ref b), (1, .ref (ad κ.1 0 0)), (2, .ref (ad κ.1 19 0)), (3, .ref (ad κ.1 26 0)), (4, .int (nI i))]) hc (by decide) rfl dL_law_621 (pc2 := 623) rfl ?_
  refine g_aload_n (i := 2) hc 3 rfl rfl dL_law_623 (pc2 := 624) rfl ?_
  refine g_aload_n (i := 0) hc 1 rfl rfl dL_law_624 (pc2 := 625) rfl ?_
  refine g_iload hc 5 rfl dL_law_625 (pc2 := 627) rfl ?_
  refine g_iconst (v := (1 : Int32)) hc (by decide) dL_law_627 (pc2 := 628) rfl ?_
  refine g_iadd hc dL_law_628 (pc2 := 629) rfl ?_
  refine g_sld hc hX (sx_ib 1 hi hL (by decide)) dL_law_629 (pc2 := 630) rfl ?_
  refine g_nmi (e := xs (nI i + 1).toNatClampNeg) hx1 ?_
  refine g_vI hc (k7_order h7) co_L_135 (u19 (by decide)) rfl rfl (by decide) ⟨by show k + 1 + 0 ≤ 601024; omega, by show n + 6 + 0 ≤ 7293034; omega⟩ (Nat.le_of_ble_eq_true rfl) dL_law_630 (pc2 := 633) rfl ?_
  refine g_istore (L1 := [(6, .int r7), (5, .int (wR (cf1 0) r6)), (0, .ref b), (1, .ref (ad κ.1 0 0)), (2, .ref (ad κ.1 19 0)), (3, .ref (ad κ.1 26 0)), (4, .int (nI i))]) hc (by decide) rfl dL_law_633 (pc2 := 635) rfl ?_
  refine g_aload_n (i := 2) hc 4 rfl rfl dL_law_635 (pc2 := 636) rfl ?_
  refine g_vI hc (k7_thrown rfl) co_L_101 (u19 (by decide)) rfl rfl (by decide) ⟨by show k + 1 + 0 + 0 ≤ 601024; omega, by show n + 6 + 0 + 0 ≤ 7293034; omega⟩ (Nat.le_of_ble_eq_true rfl) dL_law_636 (pc2 := 639) rfl ?_
  refine g_iload hc 1 rfl dL_law_639 (pc2 := 641) rfl ?_
  refine g_icmp_eq hc 646 (by decide) dL_law_641 (pc2 := 644) rfl (fun q => ?_) (fun q => absurd (ans_eq hans) q)
  refine g_iload hc 1 rfl dL_law_646 (pc2 := 648) rfl ?_
  have fin : G κ φ Q (NV κ (wT τ r6)) (k + 1 + 0 + 0) (n + 6 + 0 + 0) σ2 [(6, .int r7), (5, .int (wR (cf1 0) r6)), (0, .ref b), (1, .ref (ad κ.1 0 0)), (2, .ref (ad κ.1 19 0)), (3, .ref (ad κ.1 26 0)), (4, .int (nI i))] 663 [] := by
    refine g_goto hc 1671 (by decide) dL_law_663 ?_
    refine g_widen (k2 := k + 4) (n2 := n + 24) (by omega) (by omega) ?_
    refine g_sub [2, 3, 4, 5, 6] rfl ?_
    exact kk _ σ2 hinv
  refine g_if_ne hc 663 (by decide) dL_law_648 (pc2 := 651) rfl (fun q => fin) (fun q => ?_)
  refine g_aload_n (i := 3) hc 5 rfl rfl dL_law_651 (pc2 := 652) rfl ?_
  refine g_iconst (v := (0 : Int32)) hc (by decide) dL_law_652 (pc2 := 653) rfl ?_
  refine g_lald hc dL_law_653 (pc2 := 654) rfl ?_
  refine g_iload hc 0 rfl dL_law_654 (pc2 := 656) rfl ?_
  refine g_i2l hc dL_law_656 (pc2 := 657) rfl ?_
  refine g_lcmp hc dL_law_657 (pc2 := 658) rfl ?_
  exact g_if_eq hc 663 (by decide) dL_law_658 (pc2 := 661) rfl (fun q2 => fin) (fun q2 => absurd (by rw [ans_long hans (cf1_le _) q]; exact cmp_self _) q2)
set_option maxHeartbeats 8000000 in
theorem law_addMaster (hc : Cx κ φ RL cL_law 7 room_1) (hX : Xs κ φ b Ls xs) (hL : Ls ≤ 2560) (hi : i + 5 ≤ Ls) (hσ : Inv σ B) (hB : B + 3000 < 2 ^ 27) (hk : k + 4 ≤ 601024) (hn : n + 24 ≤ 7293034) (kk : ∀ (τ2 : Nat → Int64) (σ2 : Mem), Inv σ2 (B + 100) → G κ φ Q (NV κ τ2) (k + 4) (n + 24) σ2 (LL κ b i) 1671 []) : G κ φ Q (NV κ τ) k n σ (LL κ b i) 666 [] := by
  show G κ φ Q (NV κ τ) k n σ [(0, .ref b), (1, .ref (ad κ.1 0 0)), (2, .ref (ad κ.1 19 0)), (3, .ref (ad κ.1 26 0)), (4, .int (nI i))] 666 []
  obtain ⟨r6, σ1, r7, σ2, h6, h7, hinv, hans⟩ := g_addMaster  σ B hσ hB
  refine g_aload_n (i := 1) hc 1 rfl rfl dL_law_666 (pc2 := 667) rfl ?_
  refine g_aload_n (i := 3) hc 3 rfl rfl dL_law_667 (pc2 := 668) rfl ?_
  refine g_sW hc (w_addMaster h6 (ans_nz hans)) cw_L_136 rfl rfl (by decide) ⟨by show k + 1 ≤ 601024; omega, by show n + 6 ≤ 7293034; omega⟩ (Nat.le_of_ble_eq_true rfl) dL_law_668 (pc2 := 671) rfl ?_
  refine g_istore (L1 := [(5, .int (wR (cf1 1) r6)), (0, .ref b), (1, .ref (ad κ.1 0 0)), (2, .ref (ad κ.1 19 0)), (3, .ref (ad κ.1 26 0)), (4, .int (nI i))]) hc (by decide) rfl dL_law_671 (pc2 := 673) rfl ?_
  refine g_aload_n (i := 2) hc 3 rfl rfl dL_law_673 (pc2 := 674) rfl ?_
  refine g_vI hc (k7_addMaster h7) co_L_138 (u19 (by decide)) rfl rfl (by decide) ⟨by show k + 1 + 0 ≤ 601024; omega, by show n + 6 + 0 ≤ 7293034; omega⟩ (Nat.le_of_ble_eq_true rfl) dL_law_674 (pc2 := 677) rfl ?_
  refine g_istore (L1 := [(6, .int r7), (5, .int (wR (cf1 1) r6)), (0, .ref b), (1, .ref (ad κ.1 0 0)), (2, .ref (ad κ.1 19 0)), (3, .ref (ad κ.1 26 0)), (4, .int (nI i))]) hc (by decide) rfl dL_law_677 (pc2 := 679) rfl ?_
  refine g_aload_n (i := 2) hc 4 rfl rfl dL_law_679 (pc2 := 680) rfl ?_
  refine g_vI hc (k7_thrown rfl) co_L_101 (u19 (by decide)) rfl rfl (by decide) ⟨by show k + 1 + 0 + 0 ≤ 601024; omega, by show n + 6 + 0 + 0 ≤ 7293034; omega⟩ (Nat.le_of_ble_eq_true rfl) dL_law_680 (pc2 := 683) rfl ?_
  refine g_iload hc 1 rfl dL_law_683 (pc2 := 685) rfl ?_
  refine g_icmp_eq hc 690 (by decide) dL_law_685 (pc2 := 688) rfl (fun q => ?_) (fun q => absurd (ans_eq hans) q)
  refine g_iload hc 1 rfl dL_law_690 (pc2 := 692) rfl ?_
  have fin : G κ φ Q (NV κ (wT τ r6)) (k + 1 + 0 + 0) (n + 6 + 0 + 0) σ2 [(6, .int r7), (5, .int (wR (cf1 1) r6)), (0, .ref b), (1, .ref (ad κ.1 0 0)), (2, .ref (ad κ.1 19 0)), (3, .ref (ad κ.1 26 0)), (4, .int (nI i))] 707 [] := by
    refine g_goto hc 1671 (by decide) dL_law_707 ?_
    refine g_widen (k2 := k + 4) (n2 := n + 24) (by omega) (by omega) ?_
    refine g_sub [2, 3, 4, 5, 6] rfl ?_
    exact kk _ σ2 hinv
  refine g_if_ne hc 707 (by decide) dL_law_692 (pc2 := 695) rfl (fun q => fin) (fun q => ?_)
  refine g_aload_n (i := 3) hc 5 rfl rfl dL_law_695 (pc2 := 696) rfl ?_
  refine g_iconst (v := (0 : Int32)) hc (by decide) dL_law_696 (pc2 := 697) rfl ?_
  refine g_lald hc dL_law_697 (pc2 := 698) rfl ?_
  refine g_iload hc 0 rfl dL_law_698 (pc2 := 700) rfl ?_
  refine g_i2l hc dL_law_700 (pc2 := 701) rfl ?_
  refine g_lcmp hc dL_law_701 (pc2 := 702) rfl ?_
  exact g_if_eq hc 707 (by decide) dL_law_702 (pc2 := 705) rfl (fun q2 => fin) (fun q2 => absurd (by rw [ans_long hans (cf1_le _) q]; exact cmp_self _) q2)
set_option maxHeartbeats 8000000 in
theorem law_give (hc : Cx κ φ RL cL_law 7 room_1) (hX : Xs κ φ b Ls xs) (hL : Ls ≤ 2560) (hi : i + 5 ≤ Ls) (hσ : Inv σ B) (hB : B + 3000 < 2 ^ 27) (hk : k + 4 ≤ 601024) (hn : n + 24 ≤ 7293034) (kk : ∀ (τ2 : Nat → Int64) (σ2 : Mem), Inv σ2 (B + 100) → G κ φ Q (NV κ τ2) (k + 4) (n + 24) σ2 (LL κ b i) 1671 []) : G κ φ Q (NV κ τ) k n σ (LL κ b i) 710 [] := by
  show G κ φ Q (NV κ τ) k n σ [(0, .ref b), (1, .ref (ad κ.1 0 0)), (2, .ref (ad κ.1 19 0)), (3, .ref (ad κ.1 26 0)), (4, .int (nI i))] 710 []
  obtain ⟨x1, hx1⟩ : ∃ x, x = xs (nI i + 1).toNatClampNeg := ⟨_, rfl⟩
  obtain ⟨x2, hx2⟩ : ∃ x, x = xs (nI i + 2).toNatClampNeg := ⟨_, rfl⟩
  obtain ⟨r6, σ1, r7, σ2, h6, h7, hinv, hans⟩ := g_give x1 x2 σ B hσ hB
  refine g_aload_n (i := 1) hc 1 rfl rfl dL_law_710 (pc2 := 711) rfl ?_
  refine g_aload_n (i := 0) hc 0 rfl rfl dL_law_711 (pc2 := 712) rfl ?_
  refine g_iload hc 4 rfl dL_law_712 (pc2 := 714) rfl ?_
  refine g_iconst (v := (1 : Int32)) hc (by decide) dL_law_714 (pc2 := 715) rfl ?_
  refine g_iadd hc dL_law_715 (pc2 := 716) rfl ?_
  refine g_sld hc hX (sx_ib 1 hi hL (by decide)) dL_law_716 (pc2 := 717) rfl ?_
  refine g_nmi (e := xs (nI i + 1).toNatClampNeg) hx1 ?_
  refine g_aload_n (i := 0) hc 0 rfl rfl dL_law_717 (pc2 := 718) rfl ?_
  refine g_iload hc 4 rfl dL_law_718 (pc2 := 720) rfl ?_
  refine g_iconst (v := (2 : Int32)) hc (by decide) dL_law_720 (pc2 := 721) rfl ?_
  refine g_iadd hc dL_law_721 (pc2 := 722) rfl ?_
  refine g_sld hc hX (sx_ib 2 hi hL (by decide)) dL_law_722 (pc2 := 723) rfl ?_
  refine g_nmi (e := xs (nI i + 2).toNatClampNeg) hx2 ?_
  refine g_aload_n (i := 3) hc 3 rfl rfl dL_law_723 (pc2 := 724) rfl ?_
  refine g_sW hc (w_give h6 (ans_nz hans)) cw_L_139 rfl rfl (by decide) ⟨by show k + 3 ≤ 601024; omega, by show n + 18 ≤ 7293034; omega⟩ (Nat.le_of_ble_eq_true rfl) dL_law_724 (pc2 := 727) rfl ?_
  refine g_istore (L1 := [(5, .int (wR (cf2 2 1) r6)), (0, .ref b), (1, .ref (ad κ.1 0 0)), (2, .ref (ad κ.1 19 0)), (3, .ref (ad κ.1 26 0)), (4, .int (nI i))]) hc (by decide) rfl dL_law_727 (pc2 := 729) rfl ?_
  refine g_aload_n (i := 2) hc 3 rfl rfl dL_law_729 (pc2 := 730) rfl ?_
  refine g_aload_n (i := 0) hc 1 rfl rfl dL_law_730 (pc2 := 731) rfl ?_
  refine g_iload hc 5 rfl dL_law_731 (pc2 := 733) rfl ?_
  refine g_iconst (v := (1 : Int32)) hc (by decide) dL_law_733 (pc2 := 734) rfl ?_
  refine g_iadd hc dL_law_734 (pc2 := 735) rfl ?_
  refine g_sld hc hX (sx_ib 1 hi hL (by decide)) dL_law_735 (pc2 := 736) rfl ?_
  refine g_nmi (e := xs (nI i + 1).toNatClampNeg) hx1 ?_
  refine g_aload_n (i := 0) hc 1 rfl rfl dL_law_736 (pc2 := 737) rfl ?_
  refine g_iload hc 5 rfl dL_law_737 (pc2 := 739) rfl ?_
  refine g_iconst (v := (2 : Int32)) hc (by decide) dL_law_739 (pc2 := 740) rfl ?_
  refine g_iadd hc dL_law_740 (pc2 := 741) rfl ?_
  refine g_sld hc hX (sx_ib 2 hi hL (by decide)) dL_law_741 (pc2 := 742) rfl ?_
  refine g_nmi (e := xs (nI i + 2).toNatClampNeg) hx2 ?_
  refine g_vI hc (k7_give h7) co_L_141 (u19 (by decide)) rfl rfl (by decide) ⟨by show k + 3 + 0 ≤ 601024; omega, by show n + 18 + 0 ≤ 7293034; omega⟩ (Nat.le_of_ble_eq_true rfl) dL_law_742 (pc2 := 745) rfl ?_
  refine g_istore (L1 := [(6, .int r7), (5, .int (wR (cf2 2 1) r6)), (0, .ref b), (1, .ref (ad κ.1 0 0)), (2, .ref (ad κ.1 19 0)), (3, .ref (ad κ.1 26 0)), (4, .int (nI i))]) hc (by decide) rfl dL_law_745 (pc2 := 747) rfl ?_
  refine g_aload_n (i := 2) hc 4 rfl rfl dL_law_747 (pc2 := 748) rfl ?_
  refine g_vI hc (k7_thrown rfl) co_L_101 (u19 (by decide)) rfl rfl (by decide) ⟨by show k + 3 + 0 + 0 ≤ 601024; omega, by show n + 18 + 0 + 0 ≤ 7293034; omega⟩ (Nat.le_of_ble_eq_true rfl) dL_law_748 (pc2 := 751) rfl ?_
  refine g_iload hc 1 rfl dL_law_751 (pc2 := 753) rfl ?_
  refine g_icmp_eq hc 758 (by decide) dL_law_753 (pc2 := 756) rfl (fun q => ?_) (fun q => absurd (ans_eq hans) q)
  refine g_iload hc 1 rfl dL_law_758 (pc2 := 760) rfl ?_
  have fin : G κ φ Q (NV κ (wT τ r6)) (k + 3 + 0 + 0) (n + 18 + 0 + 0) σ2 [(6, .int r7), (5, .int (wR (cf2 2 1) r6)), (0, .ref b), (1, .ref (ad κ.1 0 0)), (2, .ref (ad κ.1 19 0)), (3, .ref (ad κ.1 26 0)), (4, .int (nI i))] 775 [] := by
    refine g_goto hc 1671 (by decide) dL_law_775 ?_
    refine g_widen (k2 := k + 4) (n2 := n + 24) (by omega) (by omega) ?_
    refine g_sub [2, 3, 4, 5, 6] rfl ?_
    exact kk _ σ2 hinv
  refine g_if_ne hc 775 (by decide) dL_law_760 (pc2 := 763) rfl (fun q => fin) (fun q => ?_)
  refine g_aload_n (i := 3) hc 5 rfl rfl dL_law_763 (pc2 := 764) rfl ?_
  refine g_iconst (v := (0 : Int32)) hc (by decide) dL_law_764 (pc2 := 765) rfl ?_
  refine g_lald hc dL_law_765 (pc2 := 766) rfl ?_
  refine g_iload hc 0 rfl dL_law_766 (pc2 := 768) rfl ?_
  refine g_i2l hc dL_law_768 (pc2 := 769) rfl ?_
  refine g_lcmp hc dL_law_769 (pc2 := 770) rfl ?_
  exact g_if_eq hc 775 (by decide) dL_law_770 (pc2 := 773) rfl (fun q2 => fin) (fun q2 => absurd (by rw [ans_long hans (cf2_le _ _) q]; exact cmp_self _) q2)
set_option maxHeartbeats 8000000 in
theorem law_setLatency (hc : Cx κ φ RL cL_law 7 room_1) (hX : Xs κ φ b Ls xs) (hL : Ls ≤ 2560) (hi : i + 5 ≤ Ls) (hσ : Inv σ B) (hB : B + 3000 < 2 ^ 27) (hk : k + 4 ≤ 601024) (hn : n + 24 ≤ 7293034) (kk : ∀ (τ2 : Nat → Int64) (σ2 : Mem), Inv σ2 (B + 100) → G κ φ Q (NV κ τ2) (k + 4) (n + 24) σ2 (LL κ b i) 1671 []) : G κ φ Q (NV κ τ) k n σ (LL κ b i) 778 [] := by
  show G κ φ Q (NV κ τ) k n σ [(0, .ref b), (1, .ref (ad κ.1 0 0)), (2, .ref (ad κ.1 19 0)), (3, .ref (ad κ.1 26 0)), (4, .int (nI i))] 778 []
  obtain ⟨x1, hx1⟩ : ∃ x, x = xs (nI i + 1).toNatClampNeg := ⟨_, rfl⟩
  obtain ⟨x2, hx2⟩ : ∃ x, x = xs (nI i + 2).toNatClampNeg := ⟨_, rfl⟩
  obtain ⟨r6, σ1, r7, σ2, h6, h7, hinv, hans⟩ := g_setLatency x1 x2 σ B hσ hB
  refine g_aload_n (i := 1) hc 1 rfl rfl dL_law_778 (pc2 := 779) rfl ?_
  refine g_aload_n (i := 0) hc 0 rfl rfl dL_law_779 (pc2 := 780) rfl ?_
  refine g_iload hc 4 rfl dL_law_780 (pc2 := 782) rfl ?_
  refine g_iconst (v := (1 : Int32)) hc (by decide) dL_law_782 (pc2 := 783) rfl ?_
  refine g_iadd hc dL_law_783 (pc2 := 784) rfl ?_
  refine g_sld hc hX (sx_ib 1 hi hL (by decide)) dL_law_784 (pc2 := 785) rfl ?_
  refine g_nmi (e := xs (nI i + 1).toNatClampNeg) hx1 ?_
  refine g_aload_n (i := 0) hc 0 rfl rfl dL_law_785 (pc2 := 786) rfl ?_
  refine g_iload hc 4 rfl dL_law_786 (pc2 := 788) rfl ?_
  refine g_iconst (v := (2 : Int32)) hc (by decide) dL_law_788 (pc2 := 789) rfl ?_
  refine g_iadd hc dL_law_789 (pc2 := 790) rfl ?_
  refine g_sld hc hX (sx_ib 2 hi hL (by decide)) dL_law_790 (pc2 := 791) rfl ?_
  refine g_nmi (e := xs (nI i + 2).toNatClampNeg) hx2 ?_
  refine g_aload_n (i := 3) hc 3 rfl rfl dL_law_791 (pc2 := 792) rfl ?_
  refine g_sW hc (w_setLatency h6 (ans_nz hans)) cw_L_142 rfl rfl (by decide) ⟨by show k + 2 ≤ 601024; omega, by show n + 12 ≤ 7293034; omega⟩ (Nat.le_of_ble_eq_true rfl) dL_law_792 (pc2 := 795) rfl ?_
  refine g_istore (L1 := [(5, .int (wR (cf2 2 0) r6)), (0, .ref b), (1, .ref (ad κ.1 0 0)), (2, .ref (ad κ.1 19 0)), (3, .ref (ad κ.1 26 0)), (4, .int (nI i))]) hc (by decide) rfl dL_law_795 (pc2 := 797) rfl ?_
  refine g_aload_n (i := 2) hc 3 rfl rfl dL_law_797 (pc2 := 798) rfl ?_
  refine g_aload_n (i := 0) hc 1 rfl rfl dL_law_798 (pc2 := 799) rfl ?_
  refine g_iload hc 5 rfl dL_law_799 (pc2 := 801) rfl ?_
  refine g_iconst (v := (1 : Int32)) hc (by decide) dL_law_801 (pc2 := 802) rfl ?_
  refine g_iadd hc dL_law_802 (pc2 := 803) rfl ?_
  refine g_sld hc hX (sx_ib 1 hi hL (by decide)) dL_law_803 (pc2 := 804) rfl ?_
  refine g_nmi (e := xs (nI i + 1).toNatClampNeg) hx1 ?_
  refine g_aload_n (i := 0) hc 1 rfl rfl dL_law_804 (pc2 := 805) rfl ?_
  refine g_iload hc 5 rfl dL_law_805 (pc2 := 807) rfl ?_
  refine g_iconst (v := (2 : Int32)) hc (by decide) dL_law_807 (pc2 := 808) rfl ?_
  refine g_iadd hc dL_law_808 (pc2 := 809) rfl ?_
  refine g_sld hc hX (sx_ib 2 hi hL (by decide)) dL_law_809 (pc2 := 810) rfl ?_
  refine g_nmi (e := xs (nI i + 2).toNatClampNeg) hx2 ?_
  refine g_vI hc (k7_setLatency h7) co_L_144 (u19 (by decide)) rfl rfl (by decide) ⟨by show k + 2 + 0 ≤ 601024; omega, by show n + 12 + 0 ≤ 7293034; omega⟩ (Nat.le_of_ble_eq_true rfl) dL_law_810 (pc2 := 813) rfl ?_
  refine g_istore (L1 := [(6, .int r7), (5, .int (wR (cf2 2 0) r6)), (0, .ref b), (1, .ref (ad κ.1 0 0)), (2, .ref (ad κ.1 19 0)), (3, .ref (ad κ.1 26 0)), (4, .int (nI i))]) hc (by decide) rfl dL_law_813 (pc2 := 815) rfl ?_
  refine g_aload_n (i := 2) hc 4 rfl rfl dL_law_815 (pc2 := 816) rfl ?_
  refine g_vI hc (k7_thrown rfl) co_L_101 (u19 (by decide)) rfl rfl (by decide) ⟨by show k + 2 + 0 + 0 ≤ 601024; omega, by show n + 12 + 0 + 0 ≤ 7293034; omega⟩ (Nat.le_of_ble_eq_true rfl) dL_law_816 (pc2 := 819) rfl ?_
  refine g_iload hc 1 rfl dL_law_819 (pc2 := 821) rfl ?_
  refine g_icmp_eq hc 826 (by decide) dL_law_821 (pc2 := 824) rfl (fun q => ?_) (fun q => absurd (ans_eq hans) q)
  refine g_iload hc 1 rfl dL_law_826 (pc2 := 828) rfl ?_
  have fin : G κ φ Q (NV κ (wT τ r6)) (k + 2 + 0 + 0) (n + 12 + 0 + 0) σ2 [(6, .int r7), (5, .int (wR (cf2 2 0) r6)), (0, .ref b), (1, .ref (ad κ.1 0 0)), (2, .ref (ad κ.1 19 0)), (3, .ref (ad κ.1 26 0)), (4, .int (nI i))] 843 [] := by
    refine g_goto hc 1671 (by decide) dL_law_843 ?_
    refine g_widen (k2 := k + 4) (n2 := n + 24) (by omega) (by omega) ?_
    refine g_sub [2, 3, 4, 5, 6] rfl ?_
    exact kk _ σ2 hinv
  refine g_if_ne hc 843 (by decide) dL_law_828 (pc2 := 831) rfl (fun q => fin) (fun q => ?_)
  refine g_aload_n (i := 3) hc 5 rfl rfl dL_law_831 (pc2 := 832) rfl ?_
  refine g_iconst (v := (0 : Int32)) hc (by decide) dL_law_832 (pc2 := 833) rfl ?_
  refine g_lald hc dL_law_833 (pc2 := 834) rfl ?_
  refine g_iload hc 0 rfl dL_law_834 (pc2 := 836) rfl ?_
  refine g_i2l hc dL_law_836 (pc2 := 837) rfl ?_
  refine g_lcmp hc dL_law_837 (pc2 := 838) rfl ?_
  exact g_if_eq hc 843 (by decide) dL_law_838 (pc2 := 841) rfl (fun q2 => fin) (fun q2 => absurd (by rw [ans_long hans (cf2_le _ _) q]; exact cmp_self _) q2)
set_option maxHeartbeats 8000000 in
theorem law_setCredit (hc : Cx κ φ RL cL_law 7 room_1) (hX : Xs κ φ b Ls xs) (hL : Ls ≤ 2560) (hi : i + 5 ≤ Ls) (hσ : Inv σ B) (hB : B + 3000 < 2 ^ 27) (hk : k + 4 ≤ 601024) (hn : n + 24 ≤ 7293034) (kk : ∀ (τ2 : Nat → Int64) (σ2 : Mem), Inv σ2 (B + 100) → G κ φ Q (NV κ τ2) (k + 4) (n + 24) σ2 (LL κ b i) 1671 []) : G κ φ Q (NV κ τ) k n σ (LL κ b i) 846 [] := by
  show G κ φ Q (NV κ τ) k n σ [(0, .ref b), (1, .ref (ad κ.1 0 0)), (2, .ref (ad κ.1 19 0)), (3, .ref (ad κ.1 26 0)), (4, .int (nI i))] 846 []
  obtain ⟨x1, hx1⟩ : ∃ x, x = xs (nI i + 1).toNatClampNeg := ⟨_, rfl⟩
  obtain ⟨r6, σ1, r7, σ2, h6, h7, hinv, hans⟩ := g_setCredit x1 σ B hσ hB
  refine g_aload_n (i := 1) hc 1 rfl rfl dL_law_846 (pc2 := 847) rfl ?_
  refine g_aload_n (i := 0) hc 0 rfl rfl dL_law_847 (pc2 := 848) rfl ?_
  refine g_iload hc 4 rfl dL_law_848 (pc2 := 850) rfl ?_
  refine g_iconst (v := (1 : Int32)) hc (by decide) dL_law_850 (pc2 := 851) rfl ?_
  refine g_iadd hc dL_law_851 (pc2 := 852) rfl ?_
  refine g_sld hc hX (sx_ib 1 hi hL (by decide)) dL_law_852 (pc2 := 853) rfl ?_
  refine g_nmi (e := xs (nI i + 1).toNatClampNeg) hx1 ?_
  refine g_aload_n (i := 3) hc 3 rfl rfl dL_law_853 (pc2 := 854) rfl ?_
  refine g_sW hc (w_setCredit h6 (ans_nz hans)) cw_L_145 rfl rfl (by decide) ⟨by show k + 1 ≤ 601024; omega, by show n + 6 ≤ 7293034; omega⟩ (Nat.le_of_ble_eq_true rfl) dL_law_854 (pc2 := 857) rfl ?_
  refine g_istore (L1 := [(5, .int (wR (cf1 0) r6)), (0, .ref b), (1, .ref (ad κ.1 0 0)), (2, .ref (ad κ.1 19 0)), (3, .ref (ad κ.1 26 0)), (4, .int (nI i))]) hc (by decide) rfl dL_law_857 (pc2 := 859) rfl ?_
  refine g_aload_n (i := 2) hc 3 rfl rfl dL_law_859 (pc2 := 860) rfl ?_
  refine g_aload_n (i := 0) hc 1 rfl rfl dL_law_860 (pc2 := 861) rfl ?_
  refine g_iload hc 5 rfl dL_law_861 (pc2 := 863) rfl ?_
  refine g_iconst (v := (1 : Int32)) hc (by decide) dL_law_863 (pc2 := 864) rfl ?_
  refine g_iadd hc dL_law_864 (pc2 := 865) rfl ?_
  refine g_sld hc hX (sx_ib 1 hi hL (by decide)) dL_law_865 (pc2 := 866) rfl ?_
  refine g_nmi (e := xs (nI i + 1).toNatClampNeg) hx1 ?_
  refine g_vI hc (k7_setCredit h7) co_L_147 (u19 (by decide)) rfl rfl (by decide) ⟨by show k + 1 + 0 ≤ 601024; omega, by show n + 6 + 0 ≤ 7293034; omega⟩ (Nat.le_of_ble_eq_true rfl) dL_law_866 (pc2 := 869) rfl ?_
  refine g_istore (L1 := [(6, .int r7), (5, .int (wR (cf1 0) r6)), (0, .ref b), (1, .ref (ad κ.1 0 0)), (2, .ref (ad κ.1 19 0)), (3, .ref (ad κ.1 26 0)), (4, .int (nI i))]) hc (by decide) rfl dL_law_869 (pc2 := 871) rfl ?_
  refine g_aload_n (i := 2) hc 4 rfl rfl dL_law_871 (pc2 := 872) rfl ?_
  refine g_vI hc (k7_thrown rfl) co_L_101 (u19 (by decide)) rfl rfl (by decide) ⟨by show k + 1 + 0 + 0 ≤ 601024; omega, by show n + 6 + 0 + 0 ≤ 7293034; omega⟩ (Nat.le_of_ble_eq_true rfl) dL_law_872 (pc2 := 875) rfl ?_
  refine g_iload hc 1 rfl dL_law_875 (pc2 := 877) rfl ?_
  refine g_icmp_eq hc 882 (by decide) dL_law_877 (pc2 := 880) rfl (fun q => ?_) (fun q => absurd (ans_eq hans) q)
  refine g_iload hc 1 rfl dL_law_882 (pc2 := 884) rfl ?_
  have fin : G κ φ Q (NV κ (wT τ r6)) (k + 1 + 0 + 0) (n + 6 + 0 + 0) σ2 [(6, .int r7), (5, .int (wR (cf1 0) r6)), (0, .ref b), (1, .ref (ad κ.1 0 0)), (2, .ref (ad κ.1 19 0)), (3, .ref (ad κ.1 26 0)), (4, .int (nI i))] 899 [] := by
    refine g_goto hc 1671 (by decide) dL_law_899 ?_
    refine g_widen (k2 := k + 4) (n2 := n + 24) (by omega) (by omega) ?_
    refine g_sub [2, 3, 4, 5, 6] rfl ?_
    exact kk _ σ2 hinv
  refine g_if_ne hc 899 (by decide) dL_law_884 (pc2 := 887) rfl (fun q => fin) (fun q => ?_)
  refine g_aload_n (i := 3) hc 5 rfl rfl dL_law_887 (pc2 := 888) rfl ?_
  refine g_iconst (v := (0 : Int32)) hc (by decide) dL_law_888 (pc2 := 889) rfl ?_
  refine g_lald hc dL_law_889 (pc2 := 890) rfl ?_
  refine g_iload hc 0 rfl dL_law_890 (pc2 := 892) rfl ?_
  refine g_i2l hc dL_law_892 (pc2 := 893) rfl ?_
  refine g_lcmp hc dL_law_893 (pc2 := 894) rfl ?_
  exact g_if_eq hc 899 (by decide) dL_law_894 (pc2 := 897) rfl (fun q2 => fin) (fun q2 => absurd (by rw [ans_long hans (cf1_le _) q]; exact cmp_self _) q2)
set_option maxHeartbeats 8000000 in
theorem law_send_0 (hc : Cx κ φ RL cL_law 7 room_1) (hX : Xs κ φ b Ls xs) (hL : Ls ≤ 2560) (hi : i + 5 ≤ Ls) (hσ : Inv σ B) (hB : B + 3000 < 2 ^ 27) (hk : k + 4 ≤ 601024) (hn : n + 24 ≤ 7293034) (h4 : xs (nI i + 4).toNatClampNeg = 0) (kk : ∀ (τ2 : Nat → Int64) (σ2 : Mem), Inv σ2 (B + 100) → G κ φ Q (NV κ τ2) (k + 4) (n + 24) σ2 (LL κ b i) 1671 []) : G κ φ Q (NV κ τ) k n σ (LL κ b i) 902 [] := by
  show G κ φ Q (NV κ τ) k n σ [(0, .ref b), (1, .ref (ad κ.1 0 0)), (2, .ref (ad κ.1 19 0)), (3, .ref (ad κ.1 26 0)), (4, .int (nI i))] 902 []
  obtain ⟨x1, hx1⟩ : ∃ x, x = xs (nI i + 1).toNatClampNeg := ⟨_, rfl⟩
  obtain ⟨x2, hx2⟩ : ∃ x, x = xs (nI i + 2).toNatClampNeg := ⟨_, rfl⟩
  obtain ⟨x3, hx3⟩ : ∃ x, x = xs (nI i + 3).toNatClampNeg := ⟨_, rfl⟩
  obtain ⟨x4, hx4⟩ : ∃ x, x = xs (nI i + 4).toNatClampNeg := ⟨_, rfl⟩
  rw [← hx4] at h4
  obtain ⟨r6, σ1, r7, σ2, h6, h7, hinv, hans⟩ := g_send x1 x2 x3 0 (Or.inl rfl) σ B hσ hB
  refine g_aload_n (i := 1) hc 1 rfl rfl dL_law_902 (pc2 := 903) rfl ?_
  refine g_aload_n (i := 0) hc 0 rfl rfl dL_law_903 (pc2 := 904) rfl ?_
  refine g_iload hc 4 rfl dL_law_904 (pc2 := 906) rfl ?_
  refine g_iconst (v := (1 : Int32)) hc (by decide) dL_law_906 (pc2 := 907) rfl ?_
  refine g_iadd hc dL_law_907 (pc2 := 908) rfl ?_
  refine g_sld hc hX (sx_ib 1 hi hL (by decide)) dL_law_908 (pc2 := 909) rfl ?_
  refine g_nmi (e := xs (nI i + 1).toNatClampNeg) hx1 ?_
  refine g_aload_n (i := 0) hc 0 rfl rfl dL_law_909 (pc2 := 910) rfl ?_
  refine g_iload hc 4 rfl dL_law_910 (pc2 := 912) rfl ?_
  refine g_iconst (v := (2 : Int32)) hc (by decide) dL_law_912 (pc2 := 913) rfl ?_
  refine g_iadd hc dL_law_913 (pc2 := 914) rfl ?_
  refine g_sld hc hX (sx_ib 2 hi hL (by decide)) dL_law_914 (pc2 := 915) rfl ?_
  refine g_nmi (e := xs (nI i + 2).toNatClampNeg) hx2 ?_
  refine g_aload_n (i := 0) hc 0 rfl rfl dL_law_915 (pc2 := 916) rfl ?_
  refine g_iload hc 4 rfl dL_law_916 (pc2 := 918) rfl ?_
  refine g_iconst (v := (3 : Int32)) hc (by decide) dL_law_918 (pc2 := 919) rfl ?_
  refine g_iadd hc dL_law_919 (pc2 := 920) rfl ?_
  refine g_sld hc hX (sx_ib 3 hi hL (by decide)) dL_law_920 (pc2 := 921) rfl ?_
  refine g_nmi (e := xs (nI i + 3).toNatClampNeg) hx3 ?_
  refine g_aload_n (i := 0) hc 0 rfl rfl dL_law_921 (pc2 := 922) rfl ?_
  refine g_iload hc 4 rfl dL_law_922 (pc2 := 924) rfl ?_
  refine g_iconst (v := (4 : Int32)) hc (by decide) dL_law_924 (pc2 := 925) rfl ?_
  refine g_iadd hc dL_law_925 (pc2 := 926) rfl ?_
  refine g_sld hc hX (sx_ib 4 hi hL (by decide)) dL_law_926 (pc2 := 927) rfl ?_
  refine g_nmi (e := xs (nI i + 4).toNatClampNeg) hx4 ?_
  refine g_if_eq hc 934 (by decide) dL_law_927 (pc2 := 930) rfl (fun q => ?_) (fun q => absurd h4 q)
  refine g_iconst (v := (0 : Int32)) hc (by decide) dL_law_934 (pc2 := 935) rfl ?_
  refine g_aload_n (i := 3) hc 3 rfl rfl dL_law_935 (pc2 := 936) rfl ?_
  refine g_sW hc (w_send h6 (ans_nz hans)) cw_L_148 rfl rfl (by decide) ⟨by show k + 4 ≤ 601024; omega, by show n + 24 ≤ 7293034; omega⟩ (Nat.le_of_ble_eq_true rfl) dL_law_936 (pc2 := 939) rfl ?_
  refine g_istore (L1 := [(5, .int (wR (cf3) r6)), (0, .ref b), (1, .ref (ad κ.1 0 0)), (2, .ref (ad κ.1 19 0)), (3, .ref (ad κ.1 26 0)), (4, .int (nI i))]) hc (by decide) rfl dL_law_939 (pc2 := 941) rfl ?_
  refine g_aload_n (i := 2) hc 3 rfl rfl dL_law_941 (pc2 := 942) rfl ?_
  refine g_aload_n (i := 0) hc 1 rfl rfl dL_law_942 (pc2 := 943) rfl ?_
  refine g_iload hc 5 rfl dL_law_943 (pc2 := 945) rfl ?_
  refine g_iconst (v := (1 : Int32)) hc (by decide) dL_law_945 (pc2 := 946) rfl ?_
  refine g_iadd hc dL_law_946 (pc2 := 947) rfl ?_
  refine g_sld hc hX (sx_ib 1 hi hL (by decide)) dL_law_947 (pc2 := 948) rfl ?_
  refine g_nmi (e := xs (nI i + 1).toNatClampNeg) hx1 ?_
  refine g_aload_n (i := 0) hc 1 rfl rfl dL_law_948 (pc2 := 949) rfl ?_
  refine g_iload hc 5 rfl dL_law_949 (pc2 := 951) rfl ?_
  refine g_iconst (v := (2 : Int32)) hc (by decide) dL_law_951 (pc2 := 952) rfl ?_
  refine g_iadd hc dL_law_952 (pc2 := 953) rfl ?_
  refine g_sld hc hX (sx_ib 2 hi hL (by decide)) dL_law_953 (pc2 := 954) rfl ?_
  refine g_nmi (e := xs (nI i + 2).toNatClampNeg) hx2 ?_
  refine g_aload_n (i := 0) hc 1 rfl rfl dL_law_954 (pc2 := 955) rfl ?_
  refine g_iload hc 5 rfl dL_law_955 (pc2 := 957) rfl ?_
  refine g_iconst (v := (3 : Int32)) hc (by decide) dL_law_957 (pc2 := 958) rfl ?_
  refine g_iadd hc dL_law_958 (pc2 := 959) rfl ?_
  refine g_sld hc hX (sx_ib 3 hi hL (by decide)) dL_law_959 (pc2 := 960) rfl ?_
  refine g_nmi (e := xs (nI i + 3).toNatClampNeg) hx3 ?_
  refine g_aload_n (i := 0) hc 1 rfl rfl dL_law_960 (pc2 := 961) rfl ?_
  refine g_iload hc 5 rfl dL_law_961 (pc2 := 963) rfl ?_
  refine g_iconst (v := (4 : Int32)) hc (by decide) dL_law_963 (pc2 := 964) rfl ?_
  refine g_iadd hc dL_law_964 (pc2 := 965) rfl ?_
  refine g_sld hc hX (sx_ib 4 hi hL (by decide)) dL_law_965 (pc2 := 966) rfl ?_
  refine g_nmi (e := xs (nI i + 4).toNatClampNeg) hx4 ?_
  refine g_if_eq hc 973 (by decide) dL_law_966 (pc2 := 969) rfl (fun q => ?_) (fun q => absurd h4 q)
  refine g_iconst (v := (0 : Int32)) hc (by decide) dL_law_973 (pc2 := 974) rfl ?_
  refine g_vI hc (k7_send h7) co_L_151 (u19 (by decide)) rfl rfl (by decide) ⟨by show k + 4 + 0 ≤ 601024; omega, by show n + 24 + 0 ≤ 7293034; omega⟩ (Nat.le_of_ble_eq_true rfl) dL_law_974 (pc2 := 977) rfl ?_
  refine g_istore (L1 := [(6, .int r7), (5, .int (wR (cf3) r6)), (0, .ref b), (1, .ref (ad κ.1 0 0)), (2, .ref (ad κ.1 19 0)), (3, .ref (ad κ.1 26 0)), (4, .int (nI i))]) hc (by decide) rfl dL_law_977 (pc2 := 979) rfl ?_
  refine g_aload_n (i := 2) hc 4 rfl rfl dL_law_979 (pc2 := 980) rfl ?_
  refine g_vI hc (k7_thrown rfl) co_L_101 (u19 (by decide)) rfl rfl (by decide) ⟨by show k + 4 + 0 + 0 ≤ 601024; omega, by show n + 24 + 0 + 0 ≤ 7293034; omega⟩ (Nat.le_of_ble_eq_true rfl) dL_law_980 (pc2 := 983) rfl ?_
  refine g_iload hc 1 rfl dL_law_983 (pc2 := 985) rfl ?_
  refine g_icmp_eq hc 990 (by decide) dL_law_985 (pc2 := 988) rfl (fun q => ?_) (fun q => absurd (ans_eq hans) q)
  refine g_iload hc 1 rfl dL_law_990 (pc2 := 992) rfl ?_
  have fin : G κ φ Q (NV κ (wT τ r6)) (k + 4 + 0 + 0) (n + 24 + 0 + 0) σ2 [(6, .int r7), (5, .int (wR (cf3) r6)), (0, .ref b), (1, .ref (ad κ.1 0 0)), (2, .ref (ad κ.1 19 0)), (3, .ref (ad κ.1 26 0)), (4, .int (nI i))] 1007 [] := by
    refine g_goto hc 1671 (by decide) dL_law_1007 ?_
    refine g_widen (k2 := k + 4) (n2 := n + 24) (by omega) (by omega) ?_
    refine g_sub [2, 3, 4, 5, 6] rfl ?_
    exact kk _ σ2 hinv
  refine g_if_ne hc 1007 (by decide) dL_law_992 (pc2 := 995) rfl (fun q => fin) (fun q => ?_)
  refine g_aload_n (i := 3) hc 5 rfl rfl dL_law_995 (pc2 := 996) rfl ?_
  refine g_iconst (v := (0 : Int32)) hc (by decide) dL_law_996 (pc2 := 997) rfl ?_
  refine g_lald hc dL_law_997 (pc2 := 998) rfl ?_
  refine g_iload hc 0 rfl dL_law_998 (pc2 := 1000) rfl ?_
  refine g_i2l hc dL_law_1000 (pc2 := 1001) rfl ?_
  refine g_lcmp hc dL_law_1001 (pc2 := 1002) rfl ?_
  exact g_if_eq hc 1007 (by decide) dL_law_1002 (pc2 := 1005) rfl (fun q2 => fin) (fun q2 => absurd (by rw [ans_long hans (cf3_le) q]; exact cmp_self _) q2)
set_option maxHeartbeats 8000000 in
theorem law_send_1 (hc : Cx κ φ RL cL_law 7 room_1) (hX : Xs κ φ b Ls xs) (hL : Ls ≤ 2560) (hi : i + 5 ≤ Ls) (hσ : Inv σ B) (hB : B + 3000 < 2 ^ 27) (hk : k + 4 ≤ 601024) (hn : n + 24 ≤ 7293034) (h4 : ¬ xs (nI i + 4).toNatClampNeg = 0) (kk : ∀ (τ2 : Nat → Int64) (σ2 : Mem), Inv σ2 (B + 100) → G κ φ Q (NV κ τ2) (k + 4) (n + 24) σ2 (LL κ b i) 1671 []) : G κ φ Q (NV κ τ) k n σ (LL κ b i) 902 [] := by
  show G κ φ Q (NV κ τ) k n σ [(0, .ref b), (1, .ref (ad κ.1 0 0)), (2, .ref (ad κ.1 19 0)), (3, .ref (ad κ.1 26 0)), (4, .int (nI i))] 902 []
  obtain ⟨x1, hx1⟩ : ∃ x, x = xs (nI i + 1).toNatClampNeg := ⟨_, rfl⟩
  obtain ⟨x2, hx2⟩ : ∃ x, x = xs (nI i + 2).toNatClampNeg := ⟨_, rfl⟩
  obtain ⟨x3, hx3⟩ : ∃ x, x = xs (nI i + 3).toNatClampNeg := ⟨_, rfl⟩
  obtain ⟨x4, hx4⟩ : ∃ x, x = xs (nI i + 4).toNatClampNeg := ⟨_, rfl⟩
  rw [← hx4] at h4
  obtain ⟨r6, σ1, r7, σ2, h6, h7, hinv, hans⟩ := g_send x1 x2 x3 1 (Or.inr rfl) σ B hσ hB
  refine g_aload_n (i := 1) hc 1 rfl rfl dL_law_902 (pc2 := 903) rfl ?_
  refine g_aload_n (i := 0) hc 0 rfl rfl dL_law_903 (pc2 := 904) rfl ?_
  refine g_iload hc 4 rfl dL_law_904 (pc2 := 906) rfl ?_
  refine g_iconst (v := (1 : Int32)) hc (by decide) dL_law_906 (pc2 := 907) rfl ?_
  refine g_iadd hc dL_law_907 (pc2 := 908) rfl ?_
  refine g_sld hc hX (sx_ib 1 hi hL (by decide)) dL_law_908 (pc2 := 909) rfl ?_
  refine g_nmi (e := xs (nI i + 1).toNatClampNeg) hx1 ?_
  refine g_aload_n (i := 0) hc 0 rfl rfl dL_law_909 (pc2 := 910) rfl ?_
  refine g_iload hc 4 rfl dL_law_910 (pc2 := 912) rfl ?_
  refine g_iconst (v := (2 : Int32)) hc (by decide) dL_law_912 (pc2 := 913) rfl ?_
  refine g_iadd hc dL_law_913 (pc2 := 914) rfl ?_
  refine g_sld hc hX (sx_ib 2 hi hL (by decide)) dL_law_914 (pc2 := 915) rfl ?_
  refine g_nmi (e := xs (nI i + 2).toNatClampNeg) hx2 ?_
  refine g_aload_n (i := 0) hc 0 rfl rfl dL_law_915 (pc2 := 916) rfl ?_
  refine g_iload hc 4 rfl dL_law_916 (pc2 := 918) rfl ?_
  refine g_iconst (v := (3 : Int32)) hc (by decide) dL_law_918 (pc2 := 919) rfl ?_
  refine g_iadd hc dL_law_919 (pc2 := 920) rfl ?_
  refine g_sld hc hX (sx_ib 3 hi hL (by decide)) dL_law_920 (pc2 := 921) rfl ?_
  refine g_nmi (e := xs (nI i + 3).toNatClampNeg) hx3 ?_
  refine g_aload_n (i := 0) hc 0 rfl rfl dL_law_921 (pc2 := 922) rfl ?_
  refine g_iload hc 4 rfl dL_law_922 (pc2 := 924) rfl ?_
  refine g_iconst (v := (4 : Int32)) hc (by decide) dL_law_924 (pc2 := 925) rfl ?_
  refine g_iadd hc dL_law_925 (pc2 := 926) rfl ?_
  refine g_sld hc hX (sx_ib 4 hi hL (by decide)) dL_law_926 (pc2 := 927) rfl ?_
  refine g_nmi (e := xs (nI i + 4).toNatClampNeg) hx4 ?_
  refine g_if_eq hc 934 (by decide) dL_law_927 (pc2 := 930) rfl (fun q => absurd q h4) (fun q => ?_)
  refine g_iconst (v := (1 : Int32)) hc (by decide) dL_law_930 (pc2 := 931) rfl ?_
  refine g_goto hc 935 (by decide) dL_law_931 ?_
  refine g_aload_n (i := 3) hc 3 rfl rfl dL_law_935 (pc2 := 936) rfl ?_
  refine g_sW hc (w_send h6 (ans_nz hans)) cw_L_148 rfl rfl (by decide) ⟨by show k + 4 ≤ 601024; omega, by show n + 24 ≤ 7293034; omega⟩ (Nat.le_of_ble_eq_true rfl) dL_law_936 (pc2 := 939) rfl ?_
  refine g_istore (L1 := [(5, .int (wR (cf3) r6)), (0, .ref b), (1, .ref (ad κ.1 0 0)), (2, .ref (ad κ.1 19 0)), (3, .ref (ad κ.1 26 0)), (4, .int (nI i))]) hc (by decide) rfl dL_law_939 (pc2 := 941) rfl ?_
  refine g_aload_n (i := 2) hc 3 rfl rfl dL_law_941 (pc2 := 942) rfl ?_
  refine g_aload_n (i := 0) hc 1 rfl rfl dL_law_942 (pc2 := 943) rfl ?_
  refine g_iload hc 5 rfl dL_law_943 (pc2 := 945) rfl ?_
  refine g_iconst (v := (1 : Int32)) hc (by decide) dL_law_945 (pc2 := 946) rfl ?_
  refine g_iadd hc dL_law_946 (pc2 := 947) rfl ?_
  refine g_sld hc hX (sx_ib 1 hi hL (by decide)) dL_law_947 (pc2 := 948) rfl ?_
  refine g_nmi (e := xs (nI i + 1).toNatClampNeg) hx1 ?_
  refine g_aload_n (i := 0) hc 1 rfl rfl dL_law_948 (pc2 := 949) rfl ?_
  refine g_iload hc 5 rfl dL_law_949 (pc2 := 951) rfl ?_
  refine g_iconst (v := (2 : Int32)) hc (by decide) dL_law_951 (pc2 := 952) rfl ?_
  refine g_iadd hc dL_law_952 (pc2 := 953) rfl ?_
  refine g_sld hc hX (sx_ib 2 hi hL (by decide)) dL_law_953 (pc2 := 954) rfl ?_
  refine g_nmi (e := xs (nI i + 2).toNatClampNeg) hx2 ?_
  refine g_aload_n (i := 0) hc 1 rfl rfl dL_law_954 (pc2 := 955) rfl ?_
  refine g_iload hc 5 rfl dL_law_955 (pc2 := 957) rfl ?_
  refine g_iconst (v := (3 : Int32)) hc (by decide) dL_law_957 (pc2 := 958) rfl ?_
  refine g_iadd hc dL_law_958 (pc2 := 959) rfl ?_
  refine g_sld hc hX (sx_ib 3 hi hL (by decide)) dL_law_959 (pc2 := 960) rfl ?_
  refine g_nmi (e := xs (nI i + 3).toNatClampNeg) hx3 ?_
  refine g_aload_n (i := 0) hc 1 rfl rfl dL_law_960 (pc2 := 961) rfl ?_
  refine g_iload hc 5 rfl dL_law_961 (pc2 := 963) rfl ?_
  refine g_iconst (v := (4 : Int32)) hc (by decide) dL_law_963 (pc2 := 964) rfl ?_
  refine g_iadd hc dL_law_964 (pc2 := 965) rfl ?_
  refine g_sld hc hX (sx_ib 4 hi hL (by decide)) dL_law_965 (pc2 := 966) rfl ?_
  refine g_nmi (e := xs (nI i + 4).toNatClampNeg) hx4 ?_
  refine g_if_eq hc 973 (by decide) dL_law_966 (pc2 := 969) rfl (fun q => absurd q h4) (fun q => ?_)
  refine g_iconst (v := (1 : Int32)) hc (by decide) dL_law_969 (pc2 := 970) rfl ?_
  refine g_goto hc 974 (by decide) dL_law_970 ?_
  refine g_vI hc (k7_send h7) co_L_151 (u19 (by decide)) rfl rfl (by decide) ⟨by show k + 4 + 0 ≤ 601024; omega, by show n + 24 + 0 ≤ 7293034; omega⟩ (Nat.le_of_ble_eq_true rfl) dL_law_974 (pc2 := 977) rfl ?_
  refine g_istore (L1 := [(6, .int r7), (5, .int (wR (cf3) r6)), (0, .ref b), (1, .ref (ad κ.1 0 0)), (2, .ref (ad κ.1 19 0)), (3, .ref (ad κ.1 26 0)), (4, .int (nI i))]) hc (by decide) rfl dL_law_977 (pc2 := 979) rfl ?_
  refine g_aload_n (i := 2) hc 4 rfl rfl dL_law_979 (pc2 := 980) rfl ?_
  refine g_vI hc (k7_thrown rfl) co_L_101 (u19 (by decide)) rfl rfl (by decide) ⟨by show k + 4 + 0 + 0 ≤ 601024; omega, by show n + 24 + 0 + 0 ≤ 7293034; omega⟩ (Nat.le_of_ble_eq_true rfl) dL_law_980 (pc2 := 983) rfl ?_
  refine g_iload hc 1 rfl dL_law_983 (pc2 := 985) rfl ?_
  refine g_icmp_eq hc 990 (by decide) dL_law_985 (pc2 := 988) rfl (fun q => ?_) (fun q => absurd (ans_eq hans) q)
  refine g_iload hc 1 rfl dL_law_990 (pc2 := 992) rfl ?_
  have fin : G κ φ Q (NV κ (wT τ r6)) (k + 4 + 0 + 0) (n + 24 + 0 + 0) σ2 [(6, .int r7), (5, .int (wR (cf3) r6)), (0, .ref b), (1, .ref (ad κ.1 0 0)), (2, .ref (ad κ.1 19 0)), (3, .ref (ad κ.1 26 0)), (4, .int (nI i))] 1007 [] := by
    refine g_goto hc 1671 (by decide) dL_law_1007 ?_
    refine g_widen (k2 := k + 4) (n2 := n + 24) (by omega) (by omega) ?_
    refine g_sub [2, 3, 4, 5, 6] rfl ?_
    exact kk _ σ2 hinv
  refine g_if_ne hc 1007 (by decide) dL_law_992 (pc2 := 995) rfl (fun q => fin) (fun q => ?_)
  refine g_aload_n (i := 3) hc 5 rfl rfl dL_law_995 (pc2 := 996) rfl ?_
  refine g_iconst (v := (0 : Int32)) hc (by decide) dL_law_996 (pc2 := 997) rfl ?_
  refine g_lald hc dL_law_997 (pc2 := 998) rfl ?_
  refine g_iload hc 0 rfl dL_law_998 (pc2 := 1000) rfl ?_
  refine g_i2l hc dL_law_1000 (pc2 := 1001) rfl ?_
  refine g_lcmp hc dL_law_1001 (pc2 := 1002) rfl ?_
  exact g_if_eq hc 1007 (by decide) dL_law_1002 (pc2 := 1005) rfl (fun q2 => fin) (fun q2 => absurd (by rw [ans_long hans (cf3_le) q]; exact cmp_self _) q2)
set_option maxHeartbeats 8000000 in
theorem law_pass (hc : Cx κ φ RL cL_law 7 room_1) (hX : Xs κ φ b Ls xs) (hL : Ls ≤ 2560) (hi : i + 5 ≤ Ls) (hσ : Inv σ B) (hB : B + 3000 < 2 ^ 27) (hk : k + 4 ≤ 601024) (hn : n + 24 ≤ 7293034) (kk : ∀ (τ2 : Nat → Int64) (σ2 : Mem), Inv σ2 (B + 100) → G κ φ Q (NV κ τ2) (k + 4) (n + 24) σ2 (LL κ b i) 1671 []) : G κ φ Q (NV κ τ) k n σ (LL κ b i) 1010 [] := by
  show G κ φ Q (NV κ τ) k n σ [(0, .ref b), (1, .ref (ad κ.1 0 0)), (2, .ref (ad κ.1 19 0)), (3, .ref (ad κ.1 26 0)), (4, .int (nI i))] 1010 []
  obtain ⟨x1, hx1⟩ : ∃ x, x = xs (nI i + 1).toNatClampNeg := ⟨_, rfl⟩
  obtain ⟨r6, σ1, r7, σ2, h6, h7, hinv, hans⟩ := g_pass x1 σ B hσ hB
  refine g_aload_n (i := 1) hc 1 rfl rfl dL_law_1010 (pc2 := 1011) rfl ?_
  refine g_aload_n (i := 0) hc 0 rfl rfl dL_law_1011 (pc2 := 1012) rfl ?_
  refine g_iload hc 4 rfl dL_law_1012 (pc2 := 1014) rfl ?_
  refine g_iconst (v := (1 : Int32)) hc (by decide) dL_law_1014 (pc2 := 1015) rfl ?_
  refine g_iadd hc dL_law_1015 (pc2 := 1016) rfl ?_
  refine g_sld hc hX (sx_ib 1 hi hL (by decide)) dL_law_1016 (pc2 := 1017) rfl ?_
  refine g_nmi (e := xs (nI i + 1).toNatClampNeg) hx1 ?_
  refine g_aload_n (i := 3) hc 3 rfl rfl dL_law_1017 (pc2 := 1018) rfl ?_
  refine g_sW hc (w_pass h6 (ans_nz hans)) cw_L_152 rfl rfl (by decide) ⟨by show k + 1 ≤ 601024; omega, by show n + 6 ≤ 7293034; omega⟩ (Nat.le_of_ble_eq_true rfl) dL_law_1018 (pc2 := 1021) rfl ?_
  refine g_istore (L1 := [(5, .int (wR (cf1 0) r6)), (0, .ref b), (1, .ref (ad κ.1 0 0)), (2, .ref (ad κ.1 19 0)), (3, .ref (ad κ.1 26 0)), (4, .int (nI i))]) hc (by decide) rfl dL_law_1021 (pc2 := 1023) rfl ?_
  refine g_aload_n (i := 2) hc 3 rfl rfl dL_law_1023 (pc2 := 1024) rfl ?_
  refine g_aload_n (i := 0) hc 1 rfl rfl dL_law_1024 (pc2 := 1025) rfl ?_
  refine g_iload hc 5 rfl dL_law_1025 (pc2 := 1027) rfl ?_
  refine g_iconst (v := (1 : Int32)) hc (by decide) dL_law_1027 (pc2 := 1028) rfl ?_
  refine g_iadd hc dL_law_1028 (pc2 := 1029) rfl ?_
  refine g_sld hc hX (sx_ib 1 hi hL (by decide)) dL_law_1029 (pc2 := 1030) rfl ?_
  refine g_nmi (e := xs (nI i + 1).toNatClampNeg) hx1 ?_
  refine g_vI hc (k7_pass h7) co_L_154 (u19 (by decide)) rfl rfl (by decide) ⟨by show k + 1 + 0 ≤ 601024; omega, by show n + 6 + 0 ≤ 7293034; omega⟩ (Nat.le_of_ble_eq_true rfl) dL_law_1030 (pc2 := 1033) rfl ?_
  refine g_istore (L1 := [(6, .int r7), (5, .int (wR (cf1 0) r6)), (0, .ref b), (1, .ref (ad κ.1 0 0)), (2, .ref (ad κ.1 19 0)), (3, .ref (ad κ.1 26 0)), (4, .int (nI i))]) hc (by decide) rfl dL_law_1033 (pc2 := 1035) rfl ?_
  refine g_aload_n (i := 2) hc 4 rfl rfl dL_law_1035 (pc2 := 1036) rfl ?_
  refine g_vI hc (k7_thrown rfl) co_L_101 (u19 (by decide)) rfl rfl (by decide) ⟨by show k + 1 + 0 + 0 ≤ 601024; omega, by show n + 6 + 0 + 0 ≤ 7293034; omega⟩ (Nat.le_of_ble_eq_true rfl) dL_law_1036 (pc2 := 1039) rfl ?_
  refine g_iload hc 1 rfl dL_law_1039 (pc2 := 1041) rfl ?_
  refine g_icmp_eq hc 1046 (by decide) dL_law_1041 (pc2 := 1044) rfl (fun q => ?_) (fun q => absurd (ans_eq hans) q)
  refine g_iload hc 1 rfl dL_law_1046 (pc2 := 1048) rfl ?_
  have fin : G κ φ Q (NV κ (wT τ r6)) (k + 1 + 0 + 0) (n + 6 + 0 + 0) σ2 [(6, .int r7), (5, .int (wR (cf1 0) r6)), (0, .ref b), (1, .ref (ad κ.1 0 0)), (2, .ref (ad κ.1 19 0)), (3, .ref (ad κ.1 26 0)), (4, .int (nI i))] 1063 [] := by
    refine g_goto hc 1671 (by decide) dL_law_1063 ?_
    refine g_widen (k2 := k + 4) (n2 := n + 24) (by omega) (by omega) ?_
    refine g_sub [2, 3, 4, 5, 6] rfl ?_
    exact kk _ σ2 hinv
  refine g_if_ne hc 1063 (by decide) dL_law_1048 (pc2 := 1051) rfl (fun q => fin) (fun q => ?_)
  refine g_aload_n (i := 3) hc 5 rfl rfl dL_law_1051 (pc2 := 1052) rfl ?_
  refine g_iconst (v := (0 : Int32)) hc (by decide) dL_law_1052 (pc2 := 1053) rfl ?_
  refine g_lald hc dL_law_1053 (pc2 := 1054) rfl ?_
  refine g_iload hc 0 rfl dL_law_1054 (pc2 := 1056) rfl ?_
  refine g_i2l hc dL_law_1056 (pc2 := 1057) rfl ?_
  refine g_lcmp hc dL_law_1057 (pc2 := 1058) rfl ?_
  exact g_if_eq hc 1063 (by decide) dL_law_1058 (pc2 := 1061) rfl (fun q2 => fin) (fun q2 => absurd (by rw [ans_long hans (cf1_le _) q]; exact cmp_self _) q2)
set_option maxHeartbeats 8000000 in
theorem law_forgive (hc : Cx κ φ RL cL_law 7 room_1) (hX : Xs κ φ b Ls xs) (hL : Ls ≤ 2560) (hi : i + 5 ≤ Ls) (hσ : Inv σ B) (hB : B + 3000 < 2 ^ 27) (hk : k + 4 ≤ 601024) (hn : n + 24 ≤ 7293034) (kk : ∀ (τ2 : Nat → Int64) (σ2 : Mem), Inv σ2 (B + 100) → G κ φ Q (NV κ τ2) (k + 4) (n + 24) σ2 (LL κ b i) 1671 []) : G κ φ Q (NV κ τ) k n σ (LL κ b i) 1066 [] := by
  show G κ φ Q (NV κ τ) k n σ [(0, .ref b), (1, .ref (ad κ.1 0 0)), (2, .ref (ad κ.1 19 0)), (3, .ref (ad κ.1 26 0)), (4, .int (nI i))] 1066 []
  obtain ⟨x1, hx1⟩ : ∃ x, x = xs (nI i + 1).toNatClampNeg := ⟨_, rfl⟩
  obtain ⟨x2, hx2⟩ : ∃ x, x = xs (nI i + 2).toNatClampNeg := ⟨_, rfl⟩
  obtain ⟨r6, σ1, r7, σ2, h6, h7, hinv, hans⟩ := g_forgive x1 x2 σ B hσ hB
  refine g_aload_n (i := 1) hc 1 rfl rfl dL_law_1066 (pc2 := 1067) rfl ?_
  refine g_aload_n (i := 0) hc 0 rfl rfl dL_law_1067 (pc2 := 1068) rfl ?_
  refine g_iload hc 4 rfl dL_law_1068 (pc2 := 1070) rfl ?_
  refine g_iconst (v := (1 : Int32)) hc (by decide) dL_law_1070 (pc2 := 1071) rfl ?_
  refine g_iadd hc dL_law_1071 (pc2 := 1072) rfl ?_
  refine g_sld hc hX (sx_ib 1 hi hL (by decide)) dL_law_1072 (pc2 := 1073) rfl ?_
  refine g_nmi (e := xs (nI i + 1).toNatClampNeg) hx1 ?_
  refine g_aload_n (i := 0) hc 0 rfl rfl dL_law_1073 (pc2 := 1074) rfl ?_
  refine g_iload hc 4 rfl dL_law_1074 (pc2 := 1076) rfl ?_
  refine g_iconst (v := (2 : Int32)) hc (by decide) dL_law_1076 (pc2 := 1077) rfl ?_
  refine g_iadd hc dL_law_1077 (pc2 := 1078) rfl ?_
  refine g_sld hc hX (sx_ib 2 hi hL (by decide)) dL_law_1078 (pc2 := 1079) rfl ?_
  refine g_nmi (e := xs (nI i + 2).toNatClampNeg) hx2 ?_
  refine g_aload_n (i := 3) hc 3 rfl rfl dL_law_1079 (pc2 := 1080) rfl ?_
  refine g_sW hc (w_forgive h6 (ans_nz hans)) cw_L_155 rfl rfl (by decide) ⟨by show k + 2 ≤ 601024; omega, by show n + 12 ≤ 7293034; omega⟩ (Nat.le_of_ble_eq_true rfl) dL_law_1080 (pc2 := 1083) rfl ?_
  refine g_istore (L1 := [(5, .int (wR (cf1 2) r6)), (0, .ref b), (1, .ref (ad κ.1 0 0)), (2, .ref (ad κ.1 19 0)), (3, .ref (ad κ.1 26 0)), (4, .int (nI i))]) hc (by decide) rfl dL_law_1083 (pc2 := 1085) rfl ?_
  refine g_aload_n (i := 2) hc 3 rfl rfl dL_law_1085 (pc2 := 1086) rfl ?_
  refine g_aload_n (i := 0) hc 1 rfl rfl dL_law_1086 (pc2 := 1087) rfl ?_
  refine g_iload hc 5 rfl dL_law_1087 (pc2 := 1089) rfl ?_
  refine g_iconst (v := (1 : Int32)) hc (by decide) dL_law_1089 (pc2 := 1090) rfl ?_
  refine g_iadd hc dL_law_1090 (pc2 := 1091) rfl ?_
  refine g_sld hc hX (sx_ib 1 hi hL (by decide)) dL_law_1091 (pc2 := 1092) rfl ?_
  refine g_nmi (e := xs (nI i + 1).toNatClampNeg) hx1 ?_
  refine g_aload_n (i := 0) hc 1 rfl rfl dL_law_1092 (pc2 := 1093) rfl ?_
  refine g_iload hc 5 rfl dL_law_1093 (pc2 := 1095) rfl ?_
  refine g_iconst (v := (2 : Int32)) hc (by decide) dL_law_1095 (pc2 := 1096) rfl ?_
  refine g_iadd hc dL_law_1096 (pc2 := 1097) rfl ?_
  refine g_sld hc hX (sx_ib 2 hi hL (by decide)) dL_law_1097 (pc2 := 1098) rfl ?_
  refine g_nmi (e := xs (nI i + 2).toNatClampNeg) hx2 ?_
  refine g_vI hc (k7_forgive h7) co_L_157 (u19 (by decide)) rfl rfl (by decide) ⟨by show k + 2 + 0 ≤ 601024; omega, by show n + 12 + 0 ≤ 7293034; omega⟩ (Nat.le_of_ble_eq_true rfl) dL_law_1098 (pc2 := 1101) rfl ?_
  refine g_istore (L1 := [(6, .int r7), (5, .int (wR (cf1 2) r6)), (0, .ref b), (1, .ref (ad κ.1 0 0)), (2, .ref (ad κ.1 19 0)), (3, .ref (ad κ.1 26 0)), (4, .int (nI i))]) hc (by decide) rfl dL_law_1101 (pc2 := 1103) rfl ?_
  refine g_aload_n (i := 2) hc 4 rfl rfl dL_law_1103 (pc2 := 1104) rfl ?_
  refine g_vI hc (k7_thrown rfl) co_L_101 (u19 (by decide)) rfl rfl (by decide) ⟨by show k + 2 + 0 + 0 ≤ 601024; omega, by show n + 12 + 0 + 0 ≤ 7293034; omega⟩ (Nat.le_of_ble_eq_true rfl) dL_law_1104 (pc2 := 1107) rfl ?_
  refine g_iload hc 1 rfl dL_law_1107 (pc2 := 1109) rfl ?_
  refine g_icmp_eq hc 1114 (by decide) dL_law_1109 (pc2 := 1112) rfl (fun q => ?_) (fun q => absurd (ans_eq hans) q)
  refine g_iload hc 1 rfl dL_law_1114 (pc2 := 1116) rfl ?_
  have fin : G κ φ Q (NV κ (wT τ r6)) (k + 2 + 0 + 0) (n + 12 + 0 + 0) σ2 [(6, .int r7), (5, .int (wR (cf1 2) r6)), (0, .ref b), (1, .ref (ad κ.1 0 0)), (2, .ref (ad κ.1 19 0)), (3, .ref (ad κ.1 26 0)), (4, .int (nI i))] 1131 [] := by
    refine g_goto hc 1671 (by decide) dL_law_1131 ?_
    refine g_widen (k2 := k + 4) (n2 := n + 24) (by omega) (by omega) ?_
    refine g_sub [2, 3, 4, 5, 6] rfl ?_
    exact kk _ σ2 hinv
  refine g_if_ne hc 1131 (by decide) dL_law_1116 (pc2 := 1119) rfl (fun q => fin) (fun q => ?_)
  refine g_aload_n (i := 3) hc 5 rfl rfl dL_law_1119 (pc2 := 1120) rfl ?_
  refine g_iconst (v := (0 : Int32)) hc (by decide) dL_law_1120 (pc2 := 1121) rfl ?_
  refine g_lald hc dL_law_1121 (pc2 := 1122) rfl ?_
  refine g_iload hc 0 rfl dL_law_1122 (pc2 := 1124) rfl ?_
  refine g_i2l hc dL_law_1124 (pc2 := 1125) rfl ?_
  refine g_lcmp hc dL_law_1125 (pc2 := 1126) rfl ?_
  exact g_if_eq hc 1131 (by decide) dL_law_1126 (pc2 := 1129) rfl (fun q2 => fin) (fun q2 => absurd (by rw [ans_long hans (cf1_le _) q]; exact cmp_self _) q2)
set_option maxHeartbeats 8000000 in
theorem law_undo (hc : Cx κ φ RL cL_law 7 room_1) (hX : Xs κ φ b Ls xs) (hL : Ls ≤ 2560) (hi : i + 5 ≤ Ls) (hσ : Inv σ B) (hB : B + 3000 < 2 ^ 27) (hk : k + 4 ≤ 601024) (hn : n + 24 ≤ 7293034) (kk : ∀ (τ2 : Nat → Int64) (σ2 : Mem), Inv σ2 (B + 100) → G κ φ Q (NV κ τ2) (k + 4) (n + 24) σ2 (LL κ b i) 1671 []) : G κ φ Q (NV κ τ) k n σ (LL κ b i) 1134 [] := by
  show G κ φ Q (NV κ τ) k n σ [(0, .ref b), (1, .ref (ad κ.1 0 0)), (2, .ref (ad κ.1 19 0)), (3, .ref (ad κ.1 26 0)), (4, .int (nI i))] 1134 []
  obtain ⟨r6, σ1, r7, σ2, h6, h7, hinv, hans⟩ := g_undo  σ B hσ hB
  refine g_aload_n (i := 1) hc 1 rfl rfl dL_law_1134 (pc2 := 1135) rfl ?_
  refine g_aload_n (i := 3) hc 3 rfl rfl dL_law_1135 (pc2 := 1136) rfl ?_
  refine g_sW hc (w_undo h6 (ans_nz hans)) cw_L_158 rfl rfl (by decide) ⟨by show k + 1 ≤ 601024; omega, by show n + 6 ≤ 7293034; omega⟩ (Nat.le_of_ble_eq_true rfl) dL_law_1136 (pc2 := 1139) rfl ?_
  refine g_istore (L1 := [(5, .int (wR (cf1 1) r6)), (0, .ref b), (1, .ref (ad κ.1 0 0)), (2, .ref (ad κ.1 19 0)), (3, .ref (ad κ.1 26 0)), (4, .int (nI i))]) hc (by decide) rfl dL_law_1139 (pc2 := 1141) rfl ?_
  refine g_aload_n (i := 2) hc 3 rfl rfl dL_law_1141 (pc2 := 1142) rfl ?_
  refine g_vI hc (k7_undo h7) co_L_160 (u19 (by decide)) rfl rfl (by decide) ⟨by show k + 1 + 0 ≤ 601024; omega, by show n + 6 + 0 ≤ 7293034; omega⟩ (Nat.le_of_ble_eq_true rfl) dL_law_1142 (pc2 := 1145) rfl ?_
  refine g_istore (L1 := [(6, .int r7), (5, .int (wR (cf1 1) r6)), (0, .ref b), (1, .ref (ad κ.1 0 0)), (2, .ref (ad κ.1 19 0)), (3, .ref (ad κ.1 26 0)), (4, .int (nI i))]) hc (by decide) rfl dL_law_1145 (pc2 := 1147) rfl ?_
  refine g_aload_n (i := 2) hc 4 rfl rfl dL_law_1147 (pc2 := 1148) rfl ?_
  refine g_vI hc (k7_thrown rfl) co_L_101 (u19 (by decide)) rfl rfl (by decide) ⟨by show k + 1 + 0 + 0 ≤ 601024; omega, by show n + 6 + 0 + 0 ≤ 7293034; omega⟩ (Nat.le_of_ble_eq_true rfl) dL_law_1148 (pc2 := 1151) rfl ?_
  refine g_iload hc 1 rfl dL_law_1151 (pc2 := 1153) rfl ?_
  refine g_icmp_eq hc 1158 (by decide) dL_law_1153 (pc2 := 1156) rfl (fun q => ?_) (fun q => absurd (ans_eq hans) q)
  refine g_iload hc 1 rfl dL_law_1158 (pc2 := 1160) rfl ?_
  have fin : G κ φ Q (NV κ (wT τ r6)) (k + 1 + 0 + 0) (n + 6 + 0 + 0) σ2 [(6, .int r7), (5, .int (wR (cf1 1) r6)), (0, .ref b), (1, .ref (ad κ.1 0 0)), (2, .ref (ad κ.1 19 0)), (3, .ref (ad κ.1 26 0)), (4, .int (nI i))] 1175 [] := by
    refine g_goto hc 1671 (by decide) dL_law_1175 ?_
    refine g_widen (k2 := k + 4) (n2 := n + 24) (by omega) (by omega) ?_
    refine g_sub [2, 3, 4, 5, 6] rfl ?_
    exact kk _ σ2 hinv
  refine g_if_ne hc 1175 (by decide) dL_law_1160 (pc2 := 1163) rfl (fun q => fin) (fun q => ?_)
  refine g_aload_n (i := 3) hc 5 rfl rfl dL_law_1163 (pc2 := 1164) rfl ?_
  refine g_iconst (v := (0 : Int32)) hc (by decide) dL_law_1164 (pc2 := 1165) rfl ?_
  refine g_lald hc dL_law_1165 (pc2 := 1166) rfl ?_
  refine g_iload hc 0 rfl dL_law_1166 (pc2 := 1168) rfl ?_
  refine g_i2l hc dL_law_1168 (pc2 := 1169) rfl ?_
  refine g_lcmp hc dL_law_1169 (pc2 := 1170) rfl ?_
  exact g_if_eq hc 1175 (by decide) dL_law_1170 (pc2 := 1173) rfl (fun q2 => fin) (fun q2 => absurd (by rw [ans_long hans (cf1_le _) q]; exact cmp_self _) q2)
set_option maxHeartbeats 8000000 in
theorem law_turnIn (hc : Cx κ φ RL cL_law 7 room_1) (hX : Xs κ φ b Ls xs) (hL : Ls ≤ 2560) (hi : i + 5 ≤ Ls) (hσ : Inv σ B) (hB : B + 3000 < 2 ^ 27) (hk : k + 4 ≤ 601024) (hn : n + 24 ≤ 7293034) (kk : ∀ (τ2 : Nat → Int64) (σ2 : Mem), Inv σ2 (B + 100) → G κ φ Q (NV κ τ2) (k + 4) (n + 24) σ2 (LL κ b i) 1671 []) : G κ φ Q (NV κ τ) k n σ (LL κ b i) 1178 [] := by
  show G κ φ Q (NV κ τ) k n σ [(0, .ref b), (1, .ref (ad κ.1 0 0)), (2, .ref (ad κ.1 19 0)), (3, .ref (ad κ.1 26 0)), (4, .int (nI i))] 1178 []
  obtain ⟨x1, hx1⟩ : ∃ x, x = xs (nI i + 1).toNatClampNeg := ⟨_, rfl⟩
  obtain ⟨r6, σ1, r7, σ2, h6, h7, hinv, hans⟩ := g_turnIn x1 σ B hσ hB
  refine g_aload_n (i := 1) hc 1 rfl rfl dL_law_1178 (pc2 := 1179) rfl ?_
  refine g_aload_n (i := 0) hc 0 rfl rfl dL_law_1179 (pc2 := 1180) rfl ?_
  refine g_iload hc 4 rfl dL_law_1180 (pc2 := 1182) rfl ?_
  refine g_iconst (v := (1 : Int32)) hc (by decide) dL_law_1182 (pc2 := 1183) rfl ?_
  refine g_iadd hc dL_law_1183 (pc2 := 1184) rfl ?_
  refine g_sld hc hX (sx_ib 1 hi hL (by decide)) dL_law_1184 (pc2 := 1185) rfl ?_
  refine g_nmi (e := xs (nI i + 1).toNatClampNeg) hx1 ?_
  refine g_aload_n (i := 3) hc 3 rfl rfl dL_law_1185 (pc2 := 1186) rfl ?_
  refine g_sW hc (w_turnIn h6 (ans_nz hans)) cw_L_161 rfl rfl (by decide) ⟨by show k + 1 ≤ 601024; omega, by show n + 6 ≤ 7293034; omega⟩ (Nat.le_of_ble_eq_true rfl) dL_law_1186 (pc2 := 1189) rfl ?_
  refine g_istore (L1 := [(5, .int (wR (cf1 0) r6)), (0, .ref b), (1, .ref (ad κ.1 0 0)), (2, .ref (ad κ.1 19 0)), (3, .ref (ad κ.1 26 0)), (4, .int (nI i))]) hc (by decide) rfl dL_law_1189 (pc2 := 1191) rfl ?_
  refine g_aload_n (i := 2) hc 3 rfl rfl dL_law_1191 (pc2 := 1192) rfl ?_
  refine g_aload_n (i := 0) hc 1 rfl rfl dL_law_1192 (pc2 := 1193) rfl ?_
  refine g_iload hc 5 rfl dL_law_1193 (pc2 := 1195) rfl ?_
  refine g_iconst (v := (1 : Int32)) hc (by decide) dL_law_1195 (pc2 := 1196) rfl ?_
  refine g_iadd hc dL_law_1196 (pc2 := 1197) rfl ?_
  refine g_sld hc hX (sx_ib 1 hi hL (by decide)) dL_law_1197 (pc2 := 1198) rfl ?_
  refine g_nmi (e := xs (nI i + 1).toNatClampNeg) hx1 ?_
  refine g_vI hc (k7_turnIn h7) co_L_163 (u19 (by decide)) rfl rfl (by decide) ⟨by show k + 1 + 0 ≤ 601024; omega, by show n + 6 + 0 ≤ 7293034; omega⟩ (Nat.le_of_ble_eq_true rfl) dL_law_1198 (pc2 := 1201) rfl ?_
  refine g_istore (L1 := [(6, .int r7), (5, .int (wR (cf1 0) r6)), (0, .ref b), (1, .ref (ad κ.1 0 0)), (2, .ref (ad κ.1 19 0)), (3, .ref (ad κ.1 26 0)), (4, .int (nI i))]) hc (by decide) rfl dL_law_1201 (pc2 := 1203) rfl ?_
  refine g_aload_n (i := 2) hc 4 rfl rfl dL_law_1203 (pc2 := 1204) rfl ?_
  refine g_vI hc (k7_thrown rfl) co_L_101 (u19 (by decide)) rfl rfl (by decide) ⟨by show k + 1 + 0 + 0 ≤ 601024; omega, by show n + 6 + 0 + 0 ≤ 7293034; omega⟩ (Nat.le_of_ble_eq_true rfl) dL_law_1204 (pc2 := 1207) rfl ?_
  refine g_iload hc 1 rfl dL_law_1207 (pc2 := 1209) rfl ?_
  refine g_icmp_eq hc 1214 (by decide) dL_law_1209 (pc2 := 1212) rfl (fun q => ?_) (fun q => absurd (ans_eq hans) q)
  refine g_iload hc 1 rfl dL_law_1214 (pc2 := 1216) rfl ?_
  have fin : G κ φ Q (NV κ (wT τ r6)) (k + 1 + 0 + 0) (n + 6 + 0 + 0) σ2 [(6, .int r7), (5, .int (wR (cf1 0) r6)), (0, .ref b), (1, .ref (ad κ.1 0 0)), (2, .ref (ad κ.1 19 0)), (3, .ref (ad κ.1 26 0)), (4, .int (nI i))] 1231 [] := by
    refine g_goto hc 1671 (by decide) dL_law_1231 ?_
    refine g_widen (k2 := k + 4) (n2 := n + 24) (by omega) (by omega) ?_
    refine g_sub [2, 3, 4, 5, 6] rfl ?_
    exact kk _ σ2 hinv
  refine g_if_ne hc 1231 (by decide) dL_law_1216 (pc2 := 1219) rfl (fun q => fin) (fun q => ?_)
  refine g_aload_n (i := 3) hc 5 rfl rfl dL_law_1219 (pc2 := 1220) rfl ?_
  refine g_iconst (v := (0 : Int32)) hc (by decide) dL_law_1220 (pc2 := 1221) rfl ?_
  refine g_lald hc dL_law_1221 (pc2 := 1222) rfl ?_
  refine g_iload hc 0 rfl dL_law_1222 (pc2 := 1224) rfl ?_
  refine g_i2l hc dL_law_1224 (pc2 := 1225) rfl ?_
  refine g_lcmp hc dL_law_1225 (pc2 := 1226) rfl ?_
  exact g_if_eq hc 1231 (by decide) dL_law_1226 (pc2 := 1229) rfl (fun q2 => fin) (fun q2 => absurd (by rw [ans_long hans (cf1_le _) q]; exact cmp_self _) q2)
set_option maxHeartbeats 8000000 in
theorem law_doneIn (hc : Cx κ φ RL cL_law 7 room_1) (hX : Xs κ φ b Ls xs) (hL : Ls ≤ 2560) (hi : i + 5 ≤ Ls) (hσ : Inv σ B) (hB : B + 3000 < 2 ^ 27) (hk : k + 4 ≤ 601024) (hn : n + 24 ≤ 7293034) (kk : ∀ (τ2 : Nat → Int64) (σ2 : Mem), Inv σ2 (B + 100) → G κ φ Q (NV κ τ2) (k + 4) (n + 24) σ2 (LL κ b i) 1671 []) : G κ φ Q (NV κ τ) k n σ (LL κ b i) 1234 [] := by
  show G κ φ Q (NV κ τ) k n σ [(0, .ref b), (1, .ref (ad κ.1 0 0)), (2, .ref (ad κ.1 19 0)), (3, .ref (ad κ.1 26 0)), (4, .int (nI i))] 1234 []
  obtain ⟨x1, hx1⟩ : ∃ x, x = xs (nI i + 1).toNatClampNeg := ⟨_, rfl⟩
  obtain ⟨r6, σ1, r7, σ2, h6, h7, hinv, hans⟩ := g_doneIn x1 σ B hσ hB
  refine g_aload_n (i := 1) hc 1 rfl rfl dL_law_1234 (pc2 := 1235) rfl ?_
  refine g_aload_n (i := 0) hc 0 rfl rfl dL_law_1235 (pc2 := 1236) rfl ?_
  refine g_iload hc 4 rfl dL_law_1236 (pc2 := 1238) rfl ?_
  refine g_iconst (v := (1 : Int32)) hc (by decide) dL_law_1238 (pc2 := 1239) rfl ?_
  refine g_iadd hc dL_law_1239 (pc2 := 1240) rfl ?_
  refine g_sld hc hX (sx_ib 1 hi hL (by decide)) dL_law_1240 (pc2 := 1241) rfl ?_
  refine g_nmi (e := xs (nI i + 1).toNatClampNeg) hx1 ?_
  refine g_aload_n (i := 3) hc 3 rfl rfl dL_law_1241 (pc2 := 1242) rfl ?_
  refine g_sW hc (w_doneIn h6 (ans_nz hans)) cw_L_164 rfl rfl (by decide) ⟨by show k + 1 ≤ 601024; omega, by show n + 6 ≤ 7293034; omega⟩ (Nat.le_of_ble_eq_true rfl) dL_law_1242 (pc2 := 1245) rfl ?_
  refine g_istore (L1 := [(5, .int (wR (cf1 2) r6)), (0, .ref b), (1, .ref (ad κ.1 0 0)), (2, .ref (ad κ.1 19 0)), (3, .ref (ad κ.1 26 0)), (4, .int (nI i))]) hc (by decide) rfl dL_law_1245 (pc2 := 1247) rfl ?_
  refine g_aload_n (i := 2) hc 3 rfl rfl dL_law_1247 (pc2 := 1248) rfl ?_
  refine g_aload_n (i := 0) hc 1 rfl rfl dL_law_1248 (pc2 := 1249) rfl ?_
  refine g_iload hc 5 rfl dL_law_1249 (pc2 := 1251) rfl ?_
  refine g_iconst (v := (1 : Int32)) hc (by decide) dL_law_1251 (pc2 := 1252) rfl ?_
  refine g_iadd hc dL_law_1252 (pc2 := 1253) rfl ?_
  refine g_sld hc hX (sx_ib 1 hi hL (by decide)) dL_law_1253 (pc2 := 1254) rfl ?_
  refine g_nmi (e := xs (nI i + 1).toNatClampNeg) hx1 ?_
  refine g_vI hc (k7_doneIn h7) co_L_166 (u19 (by decide)) rfl rfl (by decide) ⟨by show k + 1 + 0 ≤ 601024; omega, by show n + 6 + 0 ≤ 7293034; omega⟩ (Nat.le_of_ble_eq_true rfl) dL_law_1254 (pc2 := 1257) rfl ?_
  refine g_istore (L1 := [(6, .int r7), (5, .int (wR (cf1 2) r6)), (0, .ref b), (1, .ref (ad κ.1 0 0)), (2, .ref (ad κ.1 19 0)), (3, .ref (ad κ.1 26 0)), (4, .int (nI i))]) hc (by decide) rfl dL_law_1257 (pc2 := 1259) rfl ?_
  refine g_aload_n (i := 2) hc 4 rfl rfl dL_law_1259 (pc2 := 1260) rfl ?_
  refine g_vI hc (k7_thrown rfl) co_L_101 (u19 (by decide)) rfl rfl (by decide) ⟨by show k + 1 + 0 + 0 ≤ 601024; omega, by show n + 6 + 0 + 0 ≤ 7293034; omega⟩ (Nat.le_of_ble_eq_true rfl) dL_law_1260 (pc2 := 1263) rfl ?_
  refine g_iload hc 1 rfl dL_law_1263 (pc2 := 1265) rfl ?_
  refine g_icmp_eq hc 1270 (by decide) dL_law_1265 (pc2 := 1268) rfl (fun q => ?_) (fun q => absurd (ans_eq hans) q)
  refine g_iload hc 1 rfl dL_law_1270 (pc2 := 1272) rfl ?_
  have fin : G κ φ Q (NV κ (wT τ r6)) (k + 1 + 0 + 0) (n + 6 + 0 + 0) σ2 [(6, .int r7), (5, .int (wR (cf1 2) r6)), (0, .ref b), (1, .ref (ad κ.1 0 0)), (2, .ref (ad κ.1 19 0)), (3, .ref (ad κ.1 26 0)), (4, .int (nI i))] 1287 [] := by
    refine g_goto hc 1671 (by decide) dL_law_1287 ?_
    refine g_widen (k2 := k + 4) (n2 := n + 24) (by omega) (by omega) ?_
    refine g_sub [2, 3, 4, 5, 6] rfl ?_
    exact kk _ σ2 hinv
  refine g_if_ne hc 1287 (by decide) dL_law_1272 (pc2 := 1275) rfl (fun q => fin) (fun q => ?_)
  refine g_aload_n (i := 3) hc 5 rfl rfl dL_law_1275 (pc2 := 1276) rfl ?_
  refine g_iconst (v := (0 : Int32)) hc (by decide) dL_law_1276 (pc2 := 1277) rfl ?_
  refine g_lald hc dL_law_1277 (pc2 := 1278) rfl ?_
  refine g_iload hc 0 rfl dL_law_1278 (pc2 := 1280) rfl ?_
  refine g_i2l hc dL_law_1280 (pc2 := 1281) rfl ?_
  refine g_lcmp hc dL_law_1281 (pc2 := 1282) rfl ?_
  exact g_if_eq hc 1287 (by decide) dL_law_1282 (pc2 := 1285) rfl (fun q2 => fin) (fun q2 => absurd (by rw [ans_long hans (cf1_le _) q]; exact cmp_self _) q2)
set_option maxHeartbeats 8000000 in
theorem law_bestCredit (hc : Cx κ φ RL cL_law 7 room_1) (hX : Xs κ φ b Ls xs) (hL : Ls ≤ 2560) (hi : i + 5 ≤ Ls) (hσ : Inv σ B) (hB : B + 3000 < 2 ^ 27) (hk : k + 4 ≤ 601024) (hn : n + 24 ≤ 7293034) (kk : ∀ (τ2 : Nat → Int64) (σ2 : Mem), Inv σ2 (B + 100) → G κ φ Q (NV κ τ2) (k + 4) (n + 24) σ2 (LL κ b i) 1671 []) : G κ φ Q (NV κ τ) k n σ (LL κ b i) 1290 [] := by
  show G κ φ Q (NV κ τ) k n σ [(0, .ref b), (1, .ref (ad κ.1 0 0)), (2, .ref (ad κ.1 19 0)), (3, .ref (ad κ.1 26 0)), (4, .int (nI i))] 1290 []
  obtain ⟨r, σ1, σ2, h6, h7, hinv⟩ := g_bestCredit σ B hσ hB
  refine g_aload_n (i := 1) hc 1 rfl rfl dL_law_1290 (pc2 := 1291) rfl ?_
  refine g_vI hc (k6_bestCredit h6) co_L_167 (u0 (by decide)) rfl rfl (by decide) ⟨by show k + 0 ≤ 601024; omega, by show n + 0 ≤ 7293034; omega⟩ (Nat.le_of_ble_eq_true rfl) dL_law_1291 (pc2 := 1294) rfl ?_
  refine g_aload_n (i := 2) hc 2 rfl rfl dL_law_1294 (pc2 := 1295) rfl ?_
  refine g_vI hc (k7_bestCredit h7) co_L_170 (u19 (by decide)) rfl rfl (by decide) ⟨by show k + 0 + 0 ≤ 601024; omega, by show n + 0 + 0 ≤ 7293034; omega⟩ (Nat.le_of_ble_eq_true rfl) dL_law_1295 (pc2 := 1298) rfl ?_
  refine g_icmp_eq hc 1671 (by decide) dL_law_1298 (pc2 := 1301) rfl (fun q => ?_) (fun q => absurd rfl q)
  refine g_widen (k2 := k + 4) (n2 := n + 24) (by show k + 0 + 0 ≤ k + 4; omega) (by show n + 0 + 0 ≤ n + 24; omega) ?_
  exact kk τ σ2 hinv
set_option maxHeartbeats 8000000 in
theorem law_bestSlot (hc : Cx κ φ RL cL_law 7 room_1) (hX : Xs κ φ b Ls xs) (hL : Ls ≤ 2560) (hi : i + 5 ≤ Ls) (hσ : Inv σ B) (hB : B + 3000 < 2 ^ 27) (hk : k + 4 ≤ 601024) (hn : n + 24 ≤ 7293034) (kk : ∀ (τ2 : Nat → Int64) (σ2 : Mem), Inv σ2 (B + 100) → G κ φ Q (NV κ τ2) (k + 4) (n + 24) σ2 (LL κ b i) 1671 []) : G κ φ Q (NV κ τ) k n σ (LL κ b i) 1303 [] := by
  show G κ φ Q (NV κ τ) k n σ [(0, .ref b), (1, .ref (ad κ.1 0 0)), (2, .ref (ad κ.1 19 0)), (3, .ref (ad κ.1 26 0)), (4, .int (nI i))] 1303 []
  obtain ⟨x1, hx1⟩ : ∃ x, x = xs (nI i + 1).toNatClampNeg := ⟨_, rfl⟩
  obtain ⟨r6, σ1, r7, σ2, h6, h7, hinv, hans⟩ := g_bestSlot x1 σ B hσ hB
  refine g_aload_n (i := 1) hc 1 rfl rfl dL_law_1303 (pc2 := 1304) rfl ?_
  refine g_aload_n (i := 0) hc 0 rfl rfl dL_law_1304 (pc2 := 1305) rfl ?_
  refine g_iload hc 4 rfl dL_law_1305 (pc2 := 1307) rfl ?_
  refine g_iconst (v := (1 : Int32)) hc (by decide) dL_law_1307 (pc2 := 1308) rfl ?_
  refine g_iadd hc dL_law_1308 (pc2 := 1309) rfl ?_
  refine g_sld hc hX (sx_ib 1 hi hL (by decide)) dL_law_1309 (pc2 := 1310) rfl ?_
  refine g_nmi (e := xs (nI i + 1).toNatClampNeg) hx1 ?_
  refine g_aload_n (i := 3) hc 3 rfl rfl dL_law_1310 (pc2 := 1311) rfl ?_
  refine g_sW hc (w_bestSlot h6 (ans_nz hans)) cw_L_171 rfl rfl (by decide) ⟨by show k + 1 ≤ 601024; omega, by show n + 6 ≤ 7293034; omega⟩ (Nat.le_of_ble_eq_true rfl) dL_law_1311 (pc2 := 1314) rfl ?_
  refine g_istore (L1 := [(5, .int (wR (cf1 2) r6)), (0, .ref b), (1, .ref (ad κ.1 0 0)), (2, .ref (ad κ.1 19 0)), (3, .ref (ad κ.1 26 0)), (4, .int (nI i))]) hc (by decide) rfl dL_law_1314 (pc2 := 1316) rfl ?_
  refine g_aload_n (i := 2) hc 3 rfl rfl dL_law_1316 (pc2 := 1317) rfl ?_
  refine g_aload_n (i := 0) hc 1 rfl rfl dL_law_1317 (pc2 := 1318) rfl ?_
  refine g_iload hc 5 rfl dL_law_1318 (pc2 := 1320) rfl ?_
  refine g_iconst (v := (1 : Int32)) hc (by decide) dL_law_1320 (pc2 := 1321) rfl ?_
  refine g_iadd hc dL_law_1321 (pc2 := 1322) rfl ?_
  refine g_sld hc hX (sx_ib 1 hi hL (by decide)) dL_law_1322 (pc2 := 1323) rfl ?_
  refine g_nmi (e := xs (nI i + 1).toNatClampNeg) hx1 ?_
  refine g_vI hc (k7_bestSlot h7) co_L_173 (u19 (by decide)) rfl rfl (by decide) ⟨by show k + 1 + 0 ≤ 601024; omega, by show n + 6 + 0 ≤ 7293034; omega⟩ (Nat.le_of_ble_eq_true rfl) dL_law_1323 (pc2 := 1326) rfl ?_
  refine g_istore (L1 := [(6, .int r7), (5, .int (wR (cf1 2) r6)), (0, .ref b), (1, .ref (ad κ.1 0 0)), (2, .ref (ad κ.1 19 0)), (3, .ref (ad κ.1 26 0)), (4, .int (nI i))]) hc (by decide) rfl dL_law_1326 (pc2 := 1328) rfl ?_
  refine g_aload_n (i := 2) hc 4 rfl rfl dL_law_1328 (pc2 := 1329) rfl ?_
  refine g_vI hc (k7_thrown rfl) co_L_101 (u19 (by decide)) rfl rfl (by decide) ⟨by show k + 1 + 0 + 0 ≤ 601024; omega, by show n + 6 + 0 + 0 ≤ 7293034; omega⟩ (Nat.le_of_ble_eq_true rfl) dL_law_1329 (pc2 := 1332) rfl ?_
  refine g_iload hc 1 rfl dL_law_1332 (pc2 := 1334) rfl ?_
  refine g_icmp_eq hc 1339 (by decide) dL_law_1334 (pc2 := 1337) rfl (fun q => ?_) (fun q => absurd (ans_eq hans) q)
  refine g_iload hc 1 rfl dL_law_1339 (pc2 := 1341) rfl ?_
  have fin : G κ φ Q (NV κ (wT τ r6)) (k + 1 + 0 + 0) (n + 6 + 0 + 0) σ2 [(6, .int r7), (5, .int (wR (cf1 2) r6)), (0, .ref b), (1, .ref (ad κ.1 0 0)), (2, .ref (ad κ.1 19 0)), (3, .ref (ad κ.1 26 0)), (4, .int (nI i))] 1356 [] := by
    refine g_goto hc 1671 (by decide) dL_law_1356 ?_
    refine g_widen (k2 := k + 4) (n2 := n + 24) (by omega) (by omega) ?_
    refine g_sub [2, 3, 4, 5, 6] rfl ?_
    exact kk _ σ2 hinv
  refine g_if_ne hc 1356 (by decide) dL_law_1341 (pc2 := 1344) rfl (fun q => fin) (fun q => ?_)
  refine g_aload_n (i := 3) hc 5 rfl rfl dL_law_1344 (pc2 := 1345) rfl ?_
  refine g_iconst (v := (0 : Int32)) hc (by decide) dL_law_1345 (pc2 := 1346) rfl ?_
  refine g_lald hc dL_law_1346 (pc2 := 1347) rfl ?_
  refine g_iload hc 0 rfl dL_law_1347 (pc2 := 1349) rfl ?_
  refine g_i2l hc dL_law_1349 (pc2 := 1350) rfl ?_
  refine g_lcmp hc dL_law_1350 (pc2 := 1351) rfl ?_
  exact g_if_eq hc 1356 (by decide) dL_law_1351 (pc2 := 1354) rfl (fun q2 => fin) (fun q2 => absurd (by rw [ans_long hans (cf1_le _) q]; exact cmp_self _) q2)
set_option maxHeartbeats 8000000 in
theorem law_runScript (hc : Cx κ φ RL cL_law 7 room_1) (hX : Xs κ φ b Ls xs) (hL : Ls ≤ 2560) (hi : i + 5 ≤ Ls) (hσ : Inv σ B) (hB : B + 3000 < 2 ^ 27) (hk : k + 4 ≤ 601024) (hn : n + 24 ≤ 7293034) (kk : ∀ (τ2 : Nat → Int64) (σ2 : Mem), Inv σ2 (B + 100) → G κ φ Q (NV κ τ2) (k + 4) (n + 24) σ2 (LL κ b i) 1671 []) : G κ φ Q (NV κ τ) k n σ (LL κ b i) 1359 [] := by
  show G κ φ Q (NV κ τ) k n σ [(0, .ref b), (1, .ref (ad κ.1 0 0)), (2, .ref (ad κ.1 19 0)), (3, .ref (ad κ.1 26 0)), (4, .int (nI i))] 1359 []
  obtain ⟨x1, hx1⟩ : ∃ x, x = xs (nI i + 1).toNatClampNeg := ⟨_, rfl⟩
  obtain ⟨x2, hx2⟩ : ∃ x, x = xs (nI i + 2).toNatClampNeg := ⟨_, rfl⟩
  obtain ⟨x3, hx3⟩ : ∃ x, x = xs (nI i + 3).toNatClampNeg := ⟨_, rfl⟩
  obtain ⟨y, hy⟩ : ∃ y, y = (x2.toInt64 <<< ((32 : Int32).toInt64 &&& 63)) ||| (x3.toInt64 &&& (4294967295 : Int64)) := ⟨_, rfl⟩
  obtain ⟨r6, σ1, r7, σ2, h6, h7, hinv, hans⟩ := g_runScript x1 y σ B hσ hB
  refine g_aload_n (i := 1) hc 1 rfl rfl dL_law_1359 (pc2 := 1360) rfl ?_
  refine g_aload_n (i := 0) hc 0 rfl rfl dL_law_1360 (pc2 := 1361) rfl ?_
  refine g_iload hc 4 rfl dL_law_1361 (pc2 := 1363) rfl ?_
  refine g_iconst (v := (1 : Int32)) hc (by decide) dL_law_1363 (pc2 := 1364) rfl ?_
  refine g_iadd hc dL_law_1364 (pc2 := 1365) rfl ?_
  refine g_sld hc hX (sx_ib 1 hi hL (by decide)) dL_law_1365 (pc2 := 1366) rfl ?_
  refine g_nmi (e := xs (nI i + 1).toNatClampNeg) hx1 ?_
  refine g_aload_n (i := 0) hc 0 rfl rfl dL_law_1366 (pc2 := 1367) rfl ?_
  refine g_iload hc 4 rfl dL_law_1367 (pc2 := 1369) rfl ?_
  refine g_iconst (v := (2 : Int32)) hc (by decide) dL_law_1369 (pc2 := 1370) rfl ?_
  refine g_iadd hc dL_law_1370 (pc2 := 1371) rfl ?_
  refine g_sld hc hX (sx_ib 2 hi hL (by decide)) dL_law_1371 (pc2 := 1372) rfl ?_
  refine g_nmi (e := xs (nI i + 2).toNatClampNeg) hx2 ?_
  refine g_i2l hc dL_law_1372 (pc2 := 1373) rfl ?_
  refine g_bipush (v := (32 : Int32)) hc (by decide) dL_law_1373 (pc2 := 1375) rfl ?_
  refine g_lshl hc dL_law_1375 (pc2 := 1376) rfl ?_
  refine g_aload_n (i := 0) hc 0 rfl rfl dL_law_1376 (pc2 := 1377) rfl ?_
  refine g_iload hc 4 rfl dL_law_1377 (pc2 := 1379) rfl ?_
  refine g_iconst (v := (3 : Int32)) hc (by decide) dL_law_1379 (pc2 := 1380) rfl ?_
  refine g_iadd hc dL_law_1380 (pc2 := 1381) rfl ?_
  refine g_sld hc hX (sx_ib 3 hi hL (by decide)) dL_law_1381 (pc2 := 1382) rfl ?_
  refine g_nmi (e := xs (nI i + 3).toNatClampNeg) hx3 ?_
  refine g_i2l hc dL_law_1382 (pc2 := 1383) rfl ?_
  refine g_ldc2 (v := (4294967295 : Int64)) hc lg_L_174 dL_law_1383 (pc2 := 1386) rfl ?_
  refine g_land hc dL_law_1386 (pc2 := 1387) rfl ?_
  refine g_lor hc dL_law_1387 (pc2 := 1388) rfl ?_
  refine g_nml hy ?_
  refine g_aload_n (i := 3) hc 3 rfl rfl dL_law_1388 (pc2 := 1389) rfl ?_
  refine g_sW hc (w_runScript h6 (ans_nz hans)) cw_L_176 rfl rfl (by decide) ⟨by show k + 1 ≤ 601024; omega, by show n + 6 ≤ 7293034; omega⟩ (Nat.le_of_ble_eq_true rfl) dL_law_1389 (pc2 := 1392) rfl ?_
  refine g_istore (L1 := [(5, .int (wR (cf1 0) r6)), (0, .ref b), (1, .ref (ad κ.1 0 0)), (2, .ref (ad κ.1 19 0)), (3, .ref (ad κ.1 26 0)), (4, .int (nI i))]) hc (by decide) rfl dL_law_1392 (pc2 := 1394) rfl ?_
  refine g_aload_n (i := 2) hc 3 rfl rfl dL_law_1394 (pc2 := 1395) rfl ?_
  refine g_aload_n (i := 0) hc 1 rfl rfl dL_law_1395 (pc2 := 1396) rfl ?_
  refine g_iload hc 5 rfl dL_law_1396 (pc2 := 1398) rfl ?_
  refine g_iconst (v := (1 : Int32)) hc (by decide) dL_law_1398 (pc2 := 1399) rfl ?_
  refine g_iadd hc dL_law_1399 (pc2 := 1400) rfl ?_
  refine g_sld hc hX (sx_ib 1 hi hL (by decide)) dL_law_1400 (pc2 := 1401) rfl ?_
  refine g_nmi (e := xs (nI i + 1).toNatClampNeg) hx1 ?_
  refine g_aload_n (i := 0) hc 1 rfl rfl dL_law_1401 (pc2 := 1402) rfl ?_
  refine g_iload hc 5 rfl dL_law_1402 (pc2 := 1404) rfl ?_
  refine g_iconst (v := (2 : Int32)) hc (by decide) dL_law_1404 (pc2 := 1405) rfl ?_
  refine g_iadd hc dL_law_1405 (pc2 := 1406) rfl ?_
  refine g_sld hc hX (sx_ib 2 hi hL (by decide)) dL_law_1406 (pc2 := 1407) rfl ?_
  refine g_nmi (e := xs (nI i + 2).toNatClampNeg) hx2 ?_
  refine g_i2l hc dL_law_1407 (pc2 := 1408) rfl ?_
  refine g_bipush (v := (32 : Int32)) hc (by decide) dL_law_1408 (pc2 := 1410) rfl ?_
  refine g_lshl hc dL_law_1410 (pc2 := 1411) rfl ?_
  refine g_aload_n (i := 0) hc 1 rfl rfl dL_law_1411 (pc2 := 1412) rfl ?_
  refine g_iload hc 5 rfl dL_law_1412 (pc2 := 1414) rfl ?_
  refine g_iconst (v := (3 : Int32)) hc (by decide) dL_law_1414 (pc2 := 1415) rfl ?_
  refine g_iadd hc dL_law_1415 (pc2 := 1416) rfl ?_
  refine g_sld hc hX (sx_ib 3 hi hL (by decide)) dL_law_1416 (pc2 := 1417) rfl ?_
  refine g_nmi (e := xs (nI i + 3).toNatClampNeg) hx3 ?_
  refine g_i2l hc dL_law_1417 (pc2 := 1418) rfl ?_
  refine g_ldc2 (v := (4294967295 : Int64)) hc lg_L_174 dL_law_1418 (pc2 := 1421) rfl ?_
  refine g_land hc dL_law_1421 (pc2 := 1422) rfl ?_
  refine g_lor hc dL_law_1422 (pc2 := 1423) rfl ?_
  refine g_nml hy ?_
  refine g_vI hc (k7_runScript h7) co_L_179 (u19 (by decide)) rfl rfl (by decide) ⟨by show k + 1 + 0 ≤ 601024; omega, by show n + 6 + 0 ≤ 7293034; omega⟩ (Nat.le_of_ble_eq_true rfl) dL_law_1423 (pc2 := 1426) rfl ?_
  refine g_istore (L1 := [(6, .int r7), (5, .int (wR (cf1 0) r6)), (0, .ref b), (1, .ref (ad κ.1 0 0)), (2, .ref (ad κ.1 19 0)), (3, .ref (ad κ.1 26 0)), (4, .int (nI i))]) hc (by decide) rfl dL_law_1426 (pc2 := 1428) rfl ?_
  refine g_aload_n (i := 2) hc 4 rfl rfl dL_law_1428 (pc2 := 1429) rfl ?_
  refine g_vI hc (k7_thrown rfl) co_L_101 (u19 (by decide)) rfl rfl (by decide) ⟨by show k + 1 + 0 + 0 ≤ 601024; omega, by show n + 6 + 0 + 0 ≤ 7293034; omega⟩ (Nat.le_of_ble_eq_true rfl) dL_law_1429 (pc2 := 1432) rfl ?_
  refine g_iload hc 1 rfl dL_law_1432 (pc2 := 1434) rfl ?_
  refine g_icmp_eq hc 1439 (by decide) dL_law_1434 (pc2 := 1437) rfl (fun q => ?_) (fun q => absurd (ans_eq hans) q)
  refine g_iload hc 1 rfl dL_law_1439 (pc2 := 1441) rfl ?_
  have fin : G κ φ Q (NV κ (wT τ r6)) (k + 1 + 0 + 0) (n + 6 + 0 + 0) σ2 [(6, .int r7), (5, .int (wR (cf1 0) r6)), (0, .ref b), (1, .ref (ad κ.1 0 0)), (2, .ref (ad κ.1 19 0)), (3, .ref (ad κ.1 26 0)), (4, .int (nI i))] 1456 [] := by
    refine g_goto hc 1671 (by decide) dL_law_1456 ?_
    refine g_widen (k2 := k + 4) (n2 := n + 24) (by omega) (by omega) ?_
    refine g_sub [2, 3, 4, 5, 6] rfl ?_
    exact kk _ σ2 hinv
  refine g_if_ne hc 1456 (by decide) dL_law_1441 (pc2 := 1444) rfl (fun q => fin) (fun q => ?_)
  refine g_aload_n (i := 3) hc 5 rfl rfl dL_law_1444 (pc2 := 1445) rfl ?_
  refine g_iconst (v := (0 : Int32)) hc (by decide) dL_law_1445 (pc2 := 1446) rfl ?_
  refine g_lald hc dL_law_1446 (pc2 := 1447) rfl ?_
  refine g_iload hc 0 rfl dL_law_1447 (pc2 := 1449) rfl ?_
  refine g_i2l hc dL_law_1449 (pc2 := 1450) rfl ?_
  refine g_lcmp hc dL_law_1450 (pc2 := 1451) rfl ?_
  exact g_if_eq hc 1456 (by decide) dL_law_1451 (pc2 := 1454) rfl (fun q2 => fin) (fun q2 => absurd (by rw [ans_long hans (cf1_le _) q]; exact cmp_self _) q2)
set_option maxHeartbeats 8000000 in
theorem law_simulate (hc : Cx κ φ RL cL_law 7 room_1) (hX : Xs κ φ b Ls xs) (hL : Ls ≤ 2560) (hi : i + 5 ≤ Ls) (hσ : Inv σ B) (hB : B + 3000 < 2 ^ 27) (hk : k + 4 ≤ 601024) (hn : n + 24 ≤ 7293034) (kk : ∀ (τ2 : Nat → Int64) (σ2 : Mem), Inv σ2 (B + 100) → G κ φ Q (NV κ τ2) (k + 4) (n + 24) σ2 (LL κ b i) 1671 []) : G κ φ Q (NV κ τ) k n σ (LL κ b i) 1459 [] := by
  show G κ φ Q (NV κ τ) k n σ [(0, .ref b), (1, .ref (ad κ.1 0 0)), (2, .ref (ad κ.1 19 0)), (3, .ref (ad κ.1 26 0)), (4, .int (nI i))] 1459 []
  obtain ⟨x1, hx1⟩ : ∃ x, x = xs (nI i + 1).toNatClampNeg := ⟨_, rfl⟩
  obtain ⟨x2, hx2⟩ : ∃ x, x = xs (nI i + 2).toNatClampNeg := ⟨_, rfl⟩
  obtain ⟨y, hy⟩ : ∃ y, y = (x1.toInt64 <<< ((32 : Int32).toInt64 &&& 63)) ||| (x2.toInt64 &&& (4294967295 : Int64)) := ⟨_, rfl⟩
  obtain ⟨x3, hx3⟩ : ∃ x, x = xs (nI i + 3).toNatClampNeg := ⟨_, rfl⟩
  obtain ⟨r6, σ1, r7, σ2, h6, h7, hinv, hans⟩ := g_simulate y x3 σ B hσ hB
  refine g_aload_n (i := 1) hc 1 rfl rfl dL_law_1459 (pc2 := 1460) rfl ?_
  refine g_aload_n (i := 0) hc 0 rfl rfl dL_law_1460 (pc2 := 1461) rfl ?_
  refine g_iload hc 4 rfl dL_law_1461 (pc2 := 1463) rfl ?_
  refine g_iconst (v := (1 : Int32)) hc (by decide) dL_law_1463 (pc2 := 1464) rfl ?_
  refine g_iadd hc dL_law_1464 (pc2 := 1465) rfl ?_
  refine g_sld hc hX (sx_ib 1 hi hL (by decide)) dL_law_1465 (pc2 := 1466) rfl ?_
  refine g_nmi (e := xs (nI i + 1).toNatClampNeg) hx1 ?_
  refine g_i2l hc dL_law_1466 (pc2 := 1467) rfl ?_
  refine g_bipush (v := (32 : Int32)) hc (by decide) dL_law_1467 (pc2 := 1469) rfl ?_
  refine g_lshl hc dL_law_1469 (pc2 := 1470) rfl ?_
  refine g_aload_n (i := 0) hc 0 rfl rfl dL_law_1470 (pc2 := 1471) rfl ?_
  refine g_iload hc 4 rfl dL_law_1471 (pc2 := 1473) rfl ?_
  refine g_iconst (v := (2 : Int32)) hc (by decide) dL_law_1473 (pc2 := 1474) rfl ?_
  refine g_iadd hc dL_law_1474 (pc2 := 1475) rfl ?_
  refine g_sld hc hX (sx_ib 2 hi hL (by decide)) dL_law_1475 (pc2 := 1476) rfl ?_
  refine g_nmi (e := xs (nI i + 2).toNatClampNeg) hx2 ?_
  refine g_i2l hc dL_law_1476 (pc2 := 1477) rfl ?_
  refine g_ldc2 (v := (4294967295 : Int64)) hc lg_L_174 dL_law_1477 (pc2 := 1480) rfl ?_
  refine g_land hc dL_law_1480 (pc2 := 1481) rfl ?_
  refine g_lor hc dL_law_1481 (pc2 := 1482) rfl ?_
  refine g_nml hy ?_
  refine g_aload_n (i := 0) hc 0 rfl rfl dL_law_1482 (pc2 := 1483) rfl ?_
  refine g_iload hc 4 rfl dL_law_1483 (pc2 := 1485) rfl ?_
  refine g_iconst (v := (3 : Int32)) hc (by decide) dL_law_1485 (pc2 := 1486) rfl ?_
  refine g_iadd hc dL_law_1486 (pc2 := 1487) rfl ?_
  refine g_sld hc hX (sx_ib 3 hi hL (by decide)) dL_law_1487 (pc2 := 1488) rfl ?_
  refine g_nmi (e := xs (nI i + 3).toNatClampNeg) hx3 ?_
  refine g_aload_n (i := 3) hc 3 rfl rfl dL_law_1488 (pc2 := 1489) rfl ?_
  refine g_sW hc (w_simulate h6 (ans_nz hans)) cw_L_180 rfl rfl (by decide) ⟨by show k + 1 ≤ 601024; omega, by show n + 6 ≤ 7293034; omega⟩ (Nat.le_of_ble_eq_true rfl) dL_law_1489 (pc2 := 1492) rfl ?_
  refine g_istore (L1 := [(5, .int (wR (cf1 0) r6)), (0, .ref b), (1, .ref (ad κ.1 0 0)), (2, .ref (ad κ.1 19 0)), (3, .ref (ad κ.1 26 0)), (4, .int (nI i))]) hc (by decide) rfl dL_law_1492 (pc2 := 1494) rfl ?_
  refine g_aload_n (i := 2) hc 3 rfl rfl dL_law_1494 (pc2 := 1495) rfl ?_
  refine g_aload_n (i := 0) hc 1 rfl rfl dL_law_1495 (pc2 := 1496) rfl ?_
  refine g_iload hc 5 rfl dL_law_1496 (pc2 := 1498) rfl ?_
  refine g_iconst (v := (1 : Int32)) hc (by decide) dL_law_1498 (pc2 := 1499) rfl ?_
  refine g_iadd hc dL_law_1499 (pc2 := 1500) rfl ?_
  refine g_sld hc hX (sx_ib 1 hi hL (by decide)) dL_law_1500 (pc2 := 1501) rfl ?_
  refine g_nmi (e := xs (nI i + 1).toNatClampNeg) hx1 ?_
  refine g_i2l hc dL_law_1501 (pc2 := 1502) rfl ?_
  refine g_bipush (v := (32 : Int32)) hc (by decide) dL_law_1502 (pc2 := 1504) rfl ?_
  refine g_lshl hc dL_law_1504 (pc2 := 1505) rfl ?_
  refine g_aload_n (i := 0) hc 1 rfl rfl dL_law_1505 (pc2 := 1506) rfl ?_
  refine g_iload hc 5 rfl dL_law_1506 (pc2 := 1508) rfl ?_
  refine g_iconst (v := (2 : Int32)) hc (by decide) dL_law_1508 (pc2 := 1509) rfl ?_
  refine g_iadd hc dL_law_1509 (pc2 := 1510) rfl ?_
  refine g_sld hc hX (sx_ib 2 hi hL (by decide)) dL_law_1510 (pc2 := 1511) rfl ?_
  refine g_nmi (e := xs (nI i + 2).toNatClampNeg) hx2 ?_
  refine g_i2l hc dL_law_1511 (pc2 := 1512) rfl ?_
  refine g_ldc2 (v := (4294967295 : Int64)) hc lg_L_174 dL_law_1512 (pc2 := 1515) rfl ?_
  refine g_land hc dL_law_1515 (pc2 := 1516) rfl ?_
  refine g_lor hc dL_law_1516 (pc2 := 1517) rfl ?_
  refine g_nml hy ?_
  refine g_aload_n (i := 0) hc 1 rfl rfl dL_law_1517 (pc2 := 1518) rfl ?_
  refine g_iload hc 5 rfl dL_law_1518 (pc2 := 1520) rfl ?_
  refine g_iconst (v := (3 : Int32)) hc (by decide) dL_law_1520 (pc2 := 1521) rfl ?_
  refine g_iadd hc dL_law_1521 (pc2 := 1522) rfl ?_
  refine g_sld hc hX (sx_ib 3 hi hL (by decide)) dL_law_1522 (pc2 := 1523) rfl ?_
  refine g_nmi (e := xs (nI i + 3).toNatClampNeg) hx3 ?_
  refine g_vI hc (k7_simulate h7) co_L_183 (u19 (by decide)) rfl rfl (by decide) ⟨by show k + 1 + 0 ≤ 601024; omega, by show n + 6 + 0 ≤ 7293034; omega⟩ (Nat.le_of_ble_eq_true rfl) dL_law_1523 (pc2 := 1526) rfl ?_
  refine g_istore (L1 := [(6, .int r7), (5, .int (wR (cf1 0) r6)), (0, .ref b), (1, .ref (ad κ.1 0 0)), (2, .ref (ad κ.1 19 0)), (3, .ref (ad κ.1 26 0)), (4, .int (nI i))]) hc (by decide) rfl dL_law_1526 (pc2 := 1528) rfl ?_
  refine g_aload_n (i := 2) hc 4 rfl rfl dL_law_1528 (pc2 := 1529) rfl ?_
  refine g_vI hc (k7_thrown rfl) co_L_101 (u19 (by decide)) rfl rfl (by decide) ⟨by show k + 1 + 0 + 0 ≤ 601024; omega, by show n + 6 + 0 + 0 ≤ 7293034; omega⟩ (Nat.le_of_ble_eq_true rfl) dL_law_1529 (pc2 := 1532) rfl ?_
  refine g_iload hc 1 rfl dL_law_1532 (pc2 := 1534) rfl ?_
  refine g_icmp_eq hc 1539 (by decide) dL_law_1534 (pc2 := 1537) rfl (fun q => ?_) (fun q => absurd (ans_eq hans) q)
  refine g_iload hc 1 rfl dL_law_1539 (pc2 := 1541) rfl ?_
  have fin : G κ φ Q (NV κ (wT τ r6)) (k + 1 + 0 + 0) (n + 6 + 0 + 0) σ2 [(6, .int r7), (5, .int (wR (cf1 0) r6)), (0, .ref b), (1, .ref (ad κ.1 0 0)), (2, .ref (ad κ.1 19 0)), (3, .ref (ad κ.1 26 0)), (4, .int (nI i))] 1556 [] := by
    refine g_goto hc 1671 (by decide) dL_law_1556 ?_
    refine g_widen (k2 := k + 4) (n2 := n + 24) (by omega) (by omega) ?_
    refine g_sub [2, 3, 4, 5, 6] rfl ?_
    exact kk _ σ2 hinv
  refine g_if_ne hc 1556 (by decide) dL_law_1541 (pc2 := 1544) rfl (fun q => fin) (fun q => ?_)
  refine g_aload_n (i := 3) hc 5 rfl rfl dL_law_1544 (pc2 := 1545) rfl ?_
  refine g_iconst (v := (0 : Int32)) hc (by decide) dL_law_1545 (pc2 := 1546) rfl ?_
  refine g_lald hc dL_law_1546 (pc2 := 1547) rfl ?_
  refine g_iload hc 0 rfl dL_law_1547 (pc2 := 1549) rfl ?_
  refine g_i2l hc dL_law_1549 (pc2 := 1550) rfl ?_
  refine g_lcmp hc dL_law_1550 (pc2 := 1551) rfl ?_
  exact g_if_eq hc 1556 (by decide) dL_law_1551 (pc2 := 1554) rfl (fun q2 => fin) (fun q2 => absurd (by rw [ans_long hans (cf1_le _) q]; exact cmp_self _) q2)
set_option maxHeartbeats 8000000 in
theorem law_save (hc : Cx κ φ RL cL_law 7 room_1) (hX : Xs κ φ b Ls xs) (hL : Ls ≤ 2560) (hi : i + 5 ≤ Ls) (hσ : Inv σ B) (hB : B + 3000 < 2 ^ 27) (hk : k + 4 ≤ 601024) (hn : n + 24 ≤ 7293034) (kk : ∀ (τ2 : Nat → Int64) (σ2 : Mem), Inv σ2 (B + 100) → G κ φ Q (NV κ τ2) (k + 4) (n + 24) σ2 (LL κ b i) 1671 []) : G κ φ Q (NV κ τ) k n σ (LL κ b i) 1559 [] := by
  show G κ φ Q (NV κ τ) k n σ [(0, .ref b), (1, .ref (ad κ.1 0 0)), (2, .ref (ad κ.1 19 0)), (3, .ref (ad κ.1 26 0)), (4, .int (nI i))] 1559 []
  obtain ⟨x1, hx1⟩ : ∃ x, x = xs (nI i + 1).toNatClampNeg := ⟨_, rfl⟩
  obtain ⟨r6, σ1, r7, σ2, h6, h7, hinv, hans⟩ := g_save x1 σ B hσ hB
  refine g_aload_n (i := 1) hc 1 rfl rfl dL_law_1559 (pc2 := 1560) rfl ?_
  refine g_aload_n (i := 0) hc 0 rfl rfl dL_law_1560 (pc2 := 1561) rfl ?_
  refine g_iload hc 4 rfl dL_law_1561 (pc2 := 1563) rfl ?_
  refine g_iconst (v := (1 : Int32)) hc (by decide) dL_law_1563 (pc2 := 1564) rfl ?_
  refine g_iadd hc dL_law_1564 (pc2 := 1565) rfl ?_
  refine g_sld hc hX (sx_ib 1 hi hL (by decide)) dL_law_1565 (pc2 := 1566) rfl ?_
  refine g_nmi (e := xs (nI i + 1).toNatClampNeg) hx1 ?_
  refine g_aload_n (i := 3) hc 3 rfl rfl dL_law_1566 (pc2 := 1567) rfl ?_
  refine g_sW hc (w_save h6 (ans_nz hans)) cw_L_184 rfl rfl (by decide) ⟨by show k + 1 ≤ 601024; omega, by show n + 6 ≤ 7293034; omega⟩ (Nat.le_of_ble_eq_true rfl) dL_law_1567 (pc2 := 1570) rfl ?_
  refine g_istore (L1 := [(5, .int (wR (cf1 2) r6)), (0, .ref b), (1, .ref (ad κ.1 0 0)), (2, .ref (ad κ.1 19 0)), (3, .ref (ad κ.1 26 0)), (4, .int (nI i))]) hc (by decide) rfl dL_law_1570 (pc2 := 1572) rfl ?_
  refine g_aload_n (i := 2) hc 3 rfl rfl dL_law_1572 (pc2 := 1573) rfl ?_
  refine g_aload_n (i := 0) hc 1 rfl rfl dL_law_1573 (pc2 := 1574) rfl ?_
  refine g_iload hc 5 rfl dL_law_1574 (pc2 := 1576) rfl ?_
  refine g_iconst (v := (1 : Int32)) hc (by decide) dL_law_1576 (pc2 := 1577) rfl ?_
  refine g_iadd hc dL_law_1577 (pc2 := 1578) rfl ?_
  refine g_sld hc hX (sx_ib 1 hi hL (by decide)) dL_law_1578 (pc2 := 1579) rfl ?_
  refine g_nmi (e := xs (nI i + 1).toNatClampNeg) hx1 ?_
  refine g_vI hc (k7_save h7) co_L_186 (u19 (by decide)) rfl rfl (by decide) ⟨by show k + 1 + 0 ≤ 601024; omega, by show n + 6 + 0 ≤ 7293034; omega⟩ (Nat.le_of_ble_eq_true rfl) dL_law_1579 (pc2 := 1582) rfl ?_
  refine g_istore (L1 := [(6, .int r7), (5, .int (wR (cf1 2) r6)), (0, .ref b), (1, .ref (ad κ.1 0 0)), (2, .ref (ad κ.1 19 0)), (3, .ref (ad κ.1 26 0)), (4, .int (nI i))]) hc (by decide) rfl dL_law_1582 (pc2 := 1584) rfl ?_
  refine g_aload_n (i := 2) hc 4 rfl rfl dL_law_1584 (pc2 := 1585) rfl ?_
  refine g_vI hc (k7_thrown rfl) co_L_101 (u19 (by decide)) rfl rfl (by decide) ⟨by show k + 1 + 0 + 0 ≤ 601024; omega, by show n + 6 + 0 + 0 ≤ 7293034; omega⟩ (Nat.le_of_ble_eq_true rfl) dL_law_1585 (pc2 := 1588) rfl ?_
  refine g_iload hc 1 rfl dL_law_1588 (pc2 := 1590) rfl ?_
  refine g_icmp_eq hc 1595 (by decide) dL_law_1590 (pc2 := 1593) rfl (fun q => ?_) (fun q => absurd (ans_eq hans) q)
  refine g_iload hc 1 rfl dL_law_1595 (pc2 := 1597) rfl ?_
  have fin : G κ φ Q (NV κ (wT τ r6)) (k + 1 + 0 + 0) (n + 6 + 0 + 0) σ2 [(6, .int r7), (5, .int (wR (cf1 2) r6)), (0, .ref b), (1, .ref (ad κ.1 0 0)), (2, .ref (ad κ.1 19 0)), (3, .ref (ad κ.1 26 0)), (4, .int (nI i))] 1612 [] := by
    refine g_goto hc 1671 (by decide) dL_law_1612 ?_
    refine g_widen (k2 := k + 4) (n2 := n + 24) (by omega) (by omega) ?_
    refine g_sub [2, 3, 4, 5, 6] rfl ?_
    exact kk _ σ2 hinv
  refine g_if_ne hc 1612 (by decide) dL_law_1597 (pc2 := 1600) rfl (fun q => fin) (fun q => ?_)
  refine g_aload_n (i := 3) hc 5 rfl rfl dL_law_1600 (pc2 := 1601) rfl ?_
  refine g_iconst (v := (0 : Int32)) hc (by decide) dL_law_1601 (pc2 := 1602) rfl ?_
  refine g_lald hc dL_law_1602 (pc2 := 1603) rfl ?_
  refine g_iload hc 0 rfl dL_law_1603 (pc2 := 1605) rfl ?_
  refine g_i2l hc dL_law_1605 (pc2 := 1606) rfl ?_
  refine g_lcmp hc dL_law_1606 (pc2 := 1607) rfl ?_
  exact g_if_eq hc 1612 (by decide) dL_law_1607 (pc2 := 1610) rfl (fun q2 => fin) (fun q2 => absurd (by rw [ans_long hans (cf1_le _) q]; exact cmp_self _) q2)
set_option maxHeartbeats 8000000 in
theorem law_restore (hc : Cx κ φ RL cL_law 7 room_1) (hX : Xs κ φ b Ls xs) (hL : Ls ≤ 2560) (hi : i + 5 ≤ Ls) (hσ : Inv σ B) (hB : B + 3000 < 2 ^ 27) (hk : k + 4 ≤ 601024) (hn : n + 24 ≤ 7293034) (kk : ∀ (τ2 : Nat → Int64) (σ2 : Mem), Inv σ2 (B + 100) → G κ φ Q (NV κ τ2) (k + 4) (n + 24) σ2 (LL κ b i) 1671 []) : G κ φ Q (NV κ τ) k n σ (LL κ b i) 1615 [] := by
  show G κ φ Q (NV κ τ) k n σ [(0, .ref b), (1, .ref (ad κ.1 0 0)), (2, .ref (ad κ.1 19 0)), (3, .ref (ad κ.1 26 0)), (4, .int (nI i))] 1615 []
  obtain ⟨x1, hx1⟩ : ∃ x, x = xs (nI i + 1).toNatClampNeg := ⟨_, rfl⟩
  obtain ⟨r6, σ1, r7, σ2, h6, h7, hinv, hans⟩ := g_restore x1 σ B hσ hB
  refine g_aload_n (i := 1) hc 1 rfl rfl dL_law_1615 (pc2 := 1616) rfl ?_
  refine g_aload_n (i := 0) hc 0 rfl rfl dL_law_1616 (pc2 := 1617) rfl ?_
  refine g_iload hc 4 rfl dL_law_1617 (pc2 := 1619) rfl ?_
  refine g_iconst (v := (1 : Int32)) hc (by decide) dL_law_1619 (pc2 := 1620) rfl ?_
  refine g_iadd hc dL_law_1620 (pc2 := 1621) rfl ?_
  refine g_sld hc hX (sx_ib 1 hi hL (by decide)) dL_law_1621 (pc2 := 1622) rfl ?_
  refine g_nmi (e := xs (nI i + 1).toNatClampNeg) hx1 ?_
  refine g_aload_n (i := 3) hc 3 rfl rfl dL_law_1622 (pc2 := 1623) rfl ?_
  refine g_sW hc (w_restore h6 (ans_nz hans)) cw_L_187 rfl rfl (by decide) ⟨by show k + 2 ≤ 601024; omega, by show n + 12 ≤ 7293034; omega⟩ (Nat.le_of_ble_eq_true rfl) dL_law_1623 (pc2 := 1626) rfl ?_
  refine g_istore (L1 := [(5, .int (wR (cf2 2 1) r6)), (0, .ref b), (1, .ref (ad κ.1 0 0)), (2, .ref (ad κ.1 19 0)), (3, .ref (ad κ.1 26 0)), (4, .int (nI i))]) hc (by decide) rfl dL_law_1626 (pc2 := 1628) rfl ?_
  refine g_aload_n (i := 2) hc 3 rfl rfl dL_law_1628 (pc2 := 1629) rfl ?_
  refine g_aload_n (i := 0) hc 1 rfl rfl dL_law_1629 (pc2 := 1630) rfl ?_
  refine g_iload hc 5 rfl dL_law_1630 (pc2 := 1632) rfl ?_
  refine g_iconst (v := (1 : Int32)) hc (by decide) dL_law_1632 (pc2 := 1633) rfl ?_
  refine g_iadd hc dL_law_1633 (pc2 := 1634) rfl ?_
  refine g_sld hc hX (sx_ib 1 hi hL (by decide)) dL_law_1634 (pc2 := 1635) rfl ?_
  refine g_nmi (e := xs (nI i + 1).toNatClampNeg) hx1 ?_
  refine g_vI hc (k7_restore h7) co_L_189 (u19 (by decide)) rfl rfl (by decide) ⟨by show k + 2 + 0 ≤ 601024; omega, by show n + 12 + 0 ≤ 7293034; omega⟩ (Nat.le_of_ble_eq_true rfl) dL_law_1635 (pc2 := 1638) rfl ?_
  refine g_istore (L1 := [(6, .int r7), (5, .int (wR (cf2 2 1) r6)), (0, .ref b), (1, .ref (ad κ.1 0 0)), (2, .ref (ad κ.1 19 0)), (3, .ref (ad κ.1 26 0)), (4, .int (nI i))]) hc (by decide) rfl dL_law_1638 (pc2 := 1640) rfl ?_
  refine g_aload_n (i := 2) hc 4 rfl rfl dL_law_1640 (pc2 := 1641) rfl ?_
  refine g_vI hc (k7_thrown rfl) co_L_101 (u19 (by decide)) rfl rfl (by decide) ⟨by show k + 2 + 0 + 0 ≤ 601024; omega, by show n + 12 + 0 + 0 ≤ 7293034; omega⟩ (Nat.le_of_ble_eq_true rfl) dL_law_1641 (pc2 := 1644) rfl ?_
  refine g_iload hc 1 rfl dL_law_1644 (pc2 := 1646) rfl ?_
  refine g_icmp_eq hc 1651 (by decide) dL_law_1646 (pc2 := 1649) rfl (fun q => ?_) (fun q => absurd (ans_eq hans) q)
  refine g_iload hc 1 rfl dL_law_1651 (pc2 := 1653) rfl ?_
  have fin : G κ φ Q (NV κ (wT τ r6)) (k + 2 + 0 + 0) (n + 12 + 0 + 0) σ2 [(6, .int r7), (5, .int (wR (cf2 2 1) r6)), (0, .ref b), (1, .ref (ad κ.1 0 0)), (2, .ref (ad κ.1 19 0)), (3, .ref (ad κ.1 26 0)), (4, .int (nI i))] 1668 [] := by
    refine g_goto hc 1671 (by decide) dL_law_1668 ?_
    refine g_widen (k2 := k + 4) (n2 := n + 24) (by omega) (by omega) ?_
    refine g_sub [2, 3, 4, 5, 6] rfl ?_
    exact kk _ σ2 hinv
  refine g_if_ne hc 1668 (by decide) dL_law_1653 (pc2 := 1656) rfl (fun q => fin) (fun q => ?_)
  refine g_aload_n (i := 3) hc 5 rfl rfl dL_law_1656 (pc2 := 1657) rfl ?_
  refine g_iconst (v := (0 : Int32)) hc (by decide) dL_law_1657 (pc2 := 1658) rfl ?_
  refine g_lald hc dL_law_1658 (pc2 := 1659) rfl ?_
  refine g_iload hc 0 rfl dL_law_1659 (pc2 := 1661) rfl ?_
  refine g_i2l hc dL_law_1661 (pc2 := 1662) rfl ?_
  refine g_lcmp hc dL_law_1662 (pc2 := 1663) rfl ?_
  exact g_if_eq hc 1668 (by decide) dL_law_1663 (pc2 := 1666) rfl (fun q2 => fin) (fun q2 => absurd (by rw [ans_long hans (cf2_le _ _) q]; exact cmp_self _) q2)
end CASES
