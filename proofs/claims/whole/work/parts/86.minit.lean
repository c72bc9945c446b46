section MINIT
set_option maxRecDepth 20000 in
theorem in_X12_init_145 {w : WD} {d : Nat} : Ev w (d + 1) 19 8557 mX12_init [vr 145] (BK 146 144, NK 192) (fun r h' => r = none ∧ h' = (BK 165 163, NK 217)) := by
  refine Ev.of (by decide +kernel) (Nat.le_of_ble_eq_true rfl) rfl (fun ho G hcz hcu => ?_)
  have hcz : gcz G = 165 := hcz
  have hcu : gcu G = 20250 := hcu.trans (show hu (BK 146 144) + 8557 = 20250 by decide +kernel)
  refine r_aload_n dX12_init_0 rfl rfl ?_
  refine r_objInit dX12_init_1 kX12_1 (by decide) ?_
  refine r_aload_n dX12_init_4 rfl rfl ?_
  refine r_bipush (x := 7) dX12_init_5 (by decide) (by decide) ?_
  refine r_newaI (len := 7) dX12_init_7 arI rfl (by decide) (NK_zero (i := 192) (a := 146) (by decide +kernel)) (by rw [hcz]; exact Nat.le_of_ble_eq_true rfl) (by rw [hcu]; exact (show hu (BK 146 144) + 7 ≤ 20250 by decide +kernel)) ?_
  dsimp only
  rw [newB_BK (k := 146) (j := 144) (x := (100, 7)) rfl (by decide +kernel)]
  refine r_putFR (b := 146) dX12_init_9 pfX12_7 rfl (BK_obj (x := (12, 39)) (by decide) rfl) (by decide) rfl ?_
  dsimp only
  rw [putB_BK (j := 144) rfl]
  refine r_aload_n dX12_init_12 rfl rfl ?_
  refine r_sipush (x := 1800) dX12_init_13 (by decide) (by decide) ?_
  refine r_newaI (len := 1800) dX12_init_16 arI rfl (by decide) (NK_zero (i := 192) (a := 147) (by decide +kernel)) (by rw [hcz]; exact Nat.le_of_ble_eq_true rfl) (by rw [hcu]; exact (show hu (BK 147 145) + 1800 ≤ 20250 by decide +kernel)) ?_
  dsimp only
  rw [newB_BK (k := 147) (j := 145) (x := (100, 1800)) rfl (by decide +kernel)]
  refine r_putFR (b := 147) dX12_init_18 pfX12_13 rfl (BK_obj (x := (12, 39)) (by decide) rfl) (by decide) rfl ?_
  dsimp only
  rw [putB_BK (j := 145) rfl]
  refine r_aload_n dX12_init_21 rfl rfl ?_
  refine r_sipush (x := 3600) dX12_init_22 (by decide) (by decide) ?_
  refine r_newaI (len := 3600) dX12_init_25 arI rfl (by decide) (NK_zero (i := 192) (a := 148) (by decide +kernel)) (by rw [hcz]; exact Nat.le_of_ble_eq_true rfl) (by rw [hcu]; exact (show hu (BK 148 146) + 3600 ≤ 20250 by decide +kernel)) ?_
  dsimp only
  rw [newB_BK (k := 148) (j := 146) (x := (100, 3600)) rfl (by decide +kernel)]
  refine r_putFR (b := 148) dX12_init_27 pfX12_16 rfl (BK_obj (x := (12, 39)) (by decide) rfl) (by decide) rfl ?_
  dsimp only
  rw [putB_BK (j := 146) rfl]
  refine r_aload_n dX12_init_30 rfl rfl ?_
  refine r_iconst (x := 2) dX12_init_31 rfl (by decide) ?_
  refine r_newaZ (len := 2) dX12_init_32 arZ rfl (by decide) (NK_zero (i := 192) (a := 149) (by decide +kernel)) (by rw [hcz]; exact Nat.le_of_ble_eq_true rfl) (by rw [hcu]; exact (show hu (BK 149 147) + 2 ≤ 20250 by decide +kernel)) ?_
  dsimp only
  rw [newB_BK (k := 149) (j := 147) (x := (102, 2)) rfl (by decide +kernel)]
  refine r_putFR (b := 149) dX12_init_34 pfX12_19 rfl (BK_obj (x := (12, 39)) (by decide) rfl) (by decide) rfl ?_
  dsimp only
  rw [putB_BK (j := 147) rfl]
  refine r_aload_n dX12_init_37 rfl rfl ?_
  refine r_sipush (x := 400) dX12_init_38 (by decide) (by decide) ?_
  refine r_newaI (len := 400) dX12_init_41 arI rfl (by decide) (NK_zero (i := 192) (a := 150) (by decide +kernel)) (by rw [hcz]; exact Nat.le_of_ble_eq_true rfl) (by rw [hcu]; exact (show hu (BK 150 148) + 400 ≤ 20250 by decide +kernel)) ?_
  dsimp only
  rw [newB_BK (k := 150) (j := 148) (x := (100, 400)) rfl (by decide +kernel)]
  refine r_putFR (b := 150) dX12_init_43 pfX12_23 rfl (BK_obj (x := (12, 39)) (by decide) rfl) (by decide) rfl ?_
  dsimp only
  rw [putB_BK (j := 148) rfl]
  refine r_aload_n dX12_init_46 rfl rfl ?_
  refine r_iconst (x := (-1)) dX12_init_47 rfl (by decide) ?_
  refine r_putI (h' := (BK 151 149, upn (NK 192) 145 13 (-1))) dX12_init_48 pX12_26 (BK_obj (x := (12, 39)) (by decide) rfl) (by decide) rfl rfl rfl ?_
  rw [upn_NK (i := 192) rfl]
  refine r_aload_n dX12_init_51 rfl rfl ?_
  refine r_bipush (x := 96) dX12_init_52 (by decide) (by decide) ?_
  refine r_newaI (len := 96) dX12_init_54 arI rfl (by decide) (NK_zero (i := 193) (a := 151) (by decide +kernel)) (by rw [hcz]; exact Nat.le_of_ble_eq_true rfl) (by rw [hcu]; exact (show hu (BK 151 149) + 96 ≤ 20250 by decide +kernel)) ?_
  dsimp only
  rw [newB_BK (k := 151) (j := 149) (x := (100, 96)) rfl (by decide +kernel)]
  refine r_putFR (b := 151) dX12_init_56 pfX12_30 rfl (BK_obj (x := (12, 39)) (by decide) rfl) (by decide) rfl ?_
  dsimp only
  rw [putB_BK (j := 149) rfl]
  refine r_aload_n dX12_init_59 rfl rfl ?_
  refine r_sipush (x := 400) dX12_init_60 (by decide) (by decide) ?_
  refine r_newaI (len := 400) dX12_init_63 arI rfl (by decide) (NK_zero (i := 193) (a := 152) (by decide +kernel)) (by rw [hcz]; exact Nat.le_of_ble_eq_true rfl) (by rw [hcu]; exact (show hu (BK 152 150) + 400 ≤ 20250 by decide +kernel)) ?_
  dsimp only
  rw [newB_BK (k := 152) (j := 150) (x := (100, 400)) rfl (by decide +kernel)]
  refine r_putFR (b := 152) dX12_init_65 pfX12_33 rfl (BK_obj (x := (12, 39)) (by decide) rfl) (by decide) rfl ?_
  dsimp only
  rw [putB_BK (j := 150) rfl]
  refine r_aload_n dX12_init_68 rfl rfl ?_
  refine r_sipush (x := 400) dX12_init_69 (by decide) (by decide) ?_
  refine r_newaI (len := 400) dX12_init_72 arI rfl (by decide) (NK_zero (i := 193) (a := 153) (by decide +kernel)) (by rw [hcz]; exact Nat.le_of_ble_eq_true rfl) (by rw [hcu]; exact (show hu (BK 153 151) + 400 ≤ 20250 by decide +kernel)) ?_
  dsimp only
  rw [newB_BK (k := 153) (j := 151) (x := (100, 400)) rfl (by decide +kernel)]
  refine r_putFR (b := 153) dX12_init_74 pfX12_36 rfl (BK_obj (x := (12, 39)) (by decide) rfl) (by decide) rfl ?_
  dsimp only
  rw [putB_BK (j := 151) rfl]
  refine r_aload_n dX12_init_77 rfl rfl ?_
  refine r_sipush (x := 400) dX12_init_78 (by decide) (by decide) ?_
  refine r_newaI (len := 400) dX12_init_81 arI rfl (by decide) (NK_zero (i := 193) (a := 154) (by decide +kernel)) (by rw [hcz]; exact Nat.le_of_ble_eq_true rfl) (by rw [hcu]; exact (show hu (BK 154 152) + 400 ≤ 20250 by decide +kernel)) ?_
  dsimp only
  rw [newB_BK (k := 154) (j := 152) (x := (100, 400)) rfl (by decide +kernel)]
  refine r_putFR (b := 154) dX12_init_83 pfX12_39 rfl (BK_obj (x := (12, 39)) (by decide) rfl) (by decide) rfl ?_
  dsimp only
  rw [putB_BK (j := 152) rfl]
  refine r_aload_n dX12_init_86 rfl rfl ?_
  refine r_sipush (x := 400) dX12_init_87 (by decide) (by decide) ?_
  refine r_newaI (len := 400) dX12_init_90 arI rfl (by decide) (NK_zero (i := 193) (a := 155) (by decide +kernel)) (by rw [hcz]; exact Nat.le_of_ble_eq_true rfl) (by rw [hcu]; exact (show hu (BK 155 153) + 400 ≤ 20250 by decide +kernel)) ?_
  dsimp only
  rw [newB_BK (k := 155) (j := 153) (x := (100, 400)) rfl (by decide +kernel)]
  refine r_putFR (b := 155) dX12_init_92 pfX12_42 rfl (BK_obj (x := (12, 39)) (by decide) rfl) (by decide) rfl ?_
  dsimp only
  rw [putB_BK (j := 153) rfl]
  refine r_aload_n dX12_init_95 rfl rfl ?_
  refine r_bipush (x := 10) dX12_init_96 (by decide) (by decide) ?_
  refine r_newaJ (len := 10) dX12_init_98 arJ rfl (by decide) (NK_zero (i := 193) (a := 156) (by decide +kernel)) (by rw [hcz]; exact Nat.le_of_ble_eq_true rfl) (by rw [hcu]; exact (show hu (BK 156 154) + 10 ≤ 20250 by decide +kernel)) ?_
  dsimp only
  rw [newB_BK (k := 156) (j := 154) (x := (101, 10)) rfl (by decide +kernel)]
  refine r_putFR (b := 156) dX12_init_100 pfX12_45 rfl (BK_obj (x := (12, 39)) (by decide) rfl) (by decide) rfl ?_
  dsimp only
  rw [putB_BK (j := 154) rfl]
  refine r_aload_n dX12_init_103 rfl rfl ?_
  refine r_sipush (x := 400) dX12_init_104 (by decide) (by decide) ?_
  refine r_newaJ (len := 400) dX12_init_107 arJ rfl (by decide) (NK_zero (i := 193) (a := 157) (by decide +kernel)) (by rw [hcz]; exact Nat.le_of_ble_eq_true rfl) (by rw [hcu]; exact (show hu (BK 157 155) + 400 ≤ 20250 by decide +kernel)) ?_
  dsimp only
  rw [newB_BK (k := 157) (j := 155) (x := (101, 400)) rfl (by decide +kernel)]
  refine r_putFR (b := 157) dX12_init_109 pfX12_49 rfl (BK_obj (x := (12, 39)) (by decide) rfl) (by decide) rfl ?_
  dsimp only
  rw [putB_BK (j := 155) rfl]
  refine r_aload_n dX12_init_112 rfl rfl ?_
  refine r_bipush (x := 100) dX12_init_113 (by decide) (by decide) ?_
  refine r_newaJ (len := 100) dX12_init_115 arJ rfl (by decide) (NK_zero (i := 193) (a := 158) (by decide +kernel)) (by rw [hcz]; exact Nat.le_of_ble_eq_true rfl) (by rw [hcu]; exact (show hu (BK 158 156) + 100 ≤ 20250 by decide +kernel)) ?_
  dsimp only
  rw [newB_BK (k := 158) (j := 156) (x := (101, 100)) rfl (by decide +kernel)]
  refine r_putFR (b := 158) dX12_init_117 pfX12_52 rfl (BK_obj (x := (12, 39)) (by decide) rfl) (by decide) rfl ?_
  dsimp only
  rw [putB_BK (j := 156) rfl]
  refine r_aload_n dX12_init_120 rfl rfl ?_
  refine r_bipush (x := 100) dX12_init_121 (by decide) (by decide) ?_
  refine r_newaJ (len := 100) dX12_init_123 arJ rfl (by decide) (NK_zero (i := 193) (a := 159) (by decide +kernel)) (by rw [hcz]; exact Nat.le_of_ble_eq_true rfl) (by rw [hcu]; exact (show hu (BK 159 157) + 100 ≤ 20250 by decide +kernel)) ?_
  dsimp only
  rw [newB_BK (k := 159) (j := 157) (x := (101, 100)) rfl (by decide +kernel)]
  refine r_putFR (b := 159) dX12_init_125 pfX12_55 rfl (BK_obj (x := (12, 39)) (by decide) rfl) (by decide) rfl ?_
  dsimp only
  rw [putB_BK (j := 157) rfl]
  refine r_aload_n dX12_init_128 rfl rfl ?_
  refine r_sipush (x := 200) dX12_init_129 (by decide) (by decide) ?_
  refine r_newaJ (len := 200) dX12_init_132 arJ rfl (by decide) (NK_zero (i := 193) (a := 160) (by decide +kernel)) (by rw [hcz]; exact Nat.le_of_ble_eq_true rfl) (by rw [hcu]; exact (show hu (BK 160 158) + 200 ≤ 20250 by decide +kernel)) ?_
  dsimp only
  rw [newB_BK (k := 160) (j := 158) (x := (101, 200)) rfl (by decide +kernel)]
  refine r_putFR (b := 160) dX12_init_134 pfX12_58 rfl (BK_obj (x := (12, 39)) (by decide) rfl) (by decide) rfl ?_
  dsimp only
  rw [putB_BK (j := 158) rfl]
  refine r_aload_n dX12_init_137 rfl rfl ?_
  refine r_bipush (x := 100) dX12_init_138 (by decide) (by decide) ?_
  refine r_newaJ (len := 100) dX12_init_140 arJ rfl (by decide) (NK_zero (i := 193) (a := 161) (by decide +kernel)) (by rw [hcz]; exact Nat.le_of_ble_eq_true rfl) (by rw [hcu]; exact (show hu (BK 161 159) + 100 ≤ 20250 by decide +kernel)) ?_
  dsimp only
  rw [newB_BK (k := 161) (j := 159) (x := (101, 100)) rfl (by decide +kernel)]
  refine r_putFR (b := 161) dX12_init_142 pfX12_61 rfl (BK_obj (x := (12, 39)) (by decide) rfl) (by decide) rfl ?_
  dsimp only
  rw [putB_BK (j := 159) rfl]
  refine r_aload_n dX12_init_145 rfl rfl ?_
  refine r_bipush (x := 100) dX12_init_146 (by decide) (by decide) ?_
  refine r_newaJ (len := 100) dX12_init_148 arJ rfl (by decide) (NK_zero (i := 193) (a := 162) (by decide +kernel)) (by rw [hcz]; exact Nat.le_of_ble_eq_true rfl) (by rw [hcu]; exact (show hu (BK 162 160) + 100 ≤ 20250 by decide +kernel)) ?_
  dsimp only
  rw [newB_BK (k := 162) (j := 160) (x := (101, 100)) rfl (by decide +kernel)]
  refine r_putFR (b := 162) dX12_init_150 pfX12_64 rfl (BK_obj (x := (12, 39)) (by decide) rfl) (by decide) rfl ?_
  dsimp only
  rw [putB_BK (j := 160) rfl]
  refine r_aload_n dX12_init_153 rfl rfl ?_
  refine r_bipush (x := 6) dX12_init_154 (by decide) (by decide) ?_
  refine r_newaI (len := 6) dX12_init_156 arI rfl (by decide) (NK_zero (i := 193) (a := 163) (by decide +kernel)) (by rw [hcz]; exact Nat.le_of_ble_eq_true rfl) (by rw [hcu]; exact (show hu (BK 163 161) + 6 ≤ 20250 by decide +kernel)) ?_
  dsimp only
  rw [newB_BK (k := 163) (j := 161) (x := (100, 6)) rfl (by decide +kernel)]
  refine r_putFR (b := 163) dX12_init_158 pfX12_67 rfl (BK_obj (x := (12, 39)) (by decide) rfl) (by decide) rfl ?_
  dsimp only
  rw [putB_BK (j := 161) rfl]
  refine r_aload_n dX12_init_161 rfl rfl ?_
  refine r_iconst (x := (-1)) dX12_init_162 rfl (by decide) ?_
  refine r_putI (h' := (BK 164 162, upn (NK 193) 145 37 (-1))) dX12_init_163 pX12_70 (BK_obj (x := (12, 39)) (by decide) rfl) (by decide) rfl rfl rfl ?_
  rw [upn_NK (i := 193) rfl]
  refine r_aload_n dX12_init_166 rfl rfl ?_
  refine r_bipush (x := 36) dX12_init_167 (by decide) (by decide) ?_
  refine r_newaI (len := 36) dX12_init_169 arI rfl (by decide) (NK_zero (i := 194) (a := 164) (by decide +kernel)) (by rw [hcz]; exact Nat.le_of_ble_eq_true rfl) (by rw [hcu]; exact (show hu (BK 164 162) + 36 ≤ 20250 by decide +kernel)) ?_
  dsimp only
  rw [newB_BK (k := 164) (j := 162) (x := (100, 36)) rfl (by decide +kernel)]
  refine r_putFR (b := 164) dX12_init_171 pfX12_73 rfl (BK_obj (x := (12, 39)) (by decide) rfl) (by decide) rfl ?_
  dsimp only
  rw [putB_BK (j := 162) rfl]
  refine r_aload_n dX12_init_174 rfl rfl ?_
  refine r_getR (b := 147) dX12_init_175 fX12_13 (BK_obj (x := (12, 39)) (by decide) rfl) (by decide) rfl (show rf (BK 165 163) 145 3 = some 147 by decide +kernel) ?_
  refine r_bipush (x := 10) dX12_init_178 (by decide) (by decide) ?_
  refine r_iconst (x := 2) dX12_init_180 rfl (by decide) ?_
  refine r_iast (h' := (BK 165 163, upn (NK 194) 147 10 2)) dX12_init_181 (BK_obj (x := (100, 1800)) (by decide) rfl) (by decide) (by decide) rfl ?_
  rw [upn_NK (i := 194) rfl]
  refine r_aload_n dX12_init_182 rfl rfl ?_
  refine r_getR (b := 147) dX12_init_183 fX12_13 (BK_obj (x := (12, 39)) (by decide) rfl) (by decide) rfl (show rf (BK 165 163) 145 3 = some 147 by decide +kernel) ?_
  refine r_bipush (x := 11) dX12_init_186 (by decide) (by decide) ?_
  refine r_bipush (x := 100) dX12_init_188 (by decide) (by decide) ?_
  refine r_iast (h' := (BK 165 163, upn (NK 195) 147 11 100)) dX12_init_190 (BK_obj (x := (100, 1800)) (by decide) rfl) (by decide) (by decide) rfl ?_
  rw [upn_NK (i := 195) rfl]
  refine r_aload_n dX12_init_191 rfl rfl ?_
  refine r_getR (b := 147) dX12_init_192 fX12_13 (BK_obj (x := (12, 39)) (by decide) rfl) (by decide) rfl (show rf (BK 165 163) 145 3 = some 147 by decide +kernel) ?_
  refine r_bipush (x := 12) dX12_init_195 (by decide) (by decide) ?_
  refine r_iconst (x := 1) dX12_init_197 rfl (by decide) ?_
  refine r_iast (h' := (BK 165 163, upn (NK 196) 147 12 1)) dX12_init_198 (BK_obj (x := (100, 1800)) (by decide) rfl) (by decide) (by decide) rfl ?_
  rw [upn_NK (i := 196) rfl]
  refine r_iconst (x := 0) dX12_init_199 rfl (by decide) ?_
  refine r_istore_n (ls' := [(0, vr 145), (1, vi 0)]) dX12_init_200 rfl (Nat.le_of_ble_eq_true rfl) rfl ?_
  refine r_iload_n dX12_init_201 rfl rfl ?_
  refine r_bipush (x := 20) dX12_init_202 (by decide) (by decide) ?_
  refine r_jge (tgt := 224) dX12_init_204 rfl (fun c => absurd c (by decide)) (fun _ => ?_)
  refine r_aload_n dX12_init_207 rfl rfl ?_
  refine r_getR (b := 147) dX12_init_208 fX12_13 (BK_obj (x := (12, 39)) (by decide) rfl) (by decide) rfl (show rf (BK 165 163) 145 3 = some 147 by decide +kernel) ?_
  refine r_sipush (x := 870) dX12_init_211 (by decide) (by decide) ?_
  refine r_iload_n dX12_init_214 rfl rfl ?_
  refine r_iadd dX12_init_215 (by decide) ?_
  rw [show (870 : Int) + 0 = 870 from rfl]
  refine r_iconst (x := 1) dX12_init_216 rfl (by decide) ?_
  refine r_iast (h' := (BK 165 163, upn (NK 197) 147 870 1)) dX12_init_217 (BK_obj (x := (100, 1800)) (by decide) rfl) (by decide) (by decide) rfl ?_
  rw [upn_NK (i := 197) rfl]
  refine r_iinc (y := 1) (ls' := [(0, vr 145), (1, vi 1)]) dX12_init_218 rfl rfl (by decide) (Nat.le_of_ble_eq_true rfl) rfl ?_
  refine r_goto (tgt := 201) dX12_init_221 rfl ?_
  refine r_iload_n dX12_init_201 rfl rfl ?_
  refine r_bipush (x := 20) dX12_init_202 (by decide) (by decide) ?_
  refine r_jge (tgt := 224) dX12_init_204 rfl (fun c => absurd c (by decide)) (fun _ => ?_)
  refine r_aload_n dX12_init_207 rfl rfl ?_
  refine r_getR (b := 147) dX12_init_208 fX12_13 (BK_obj (x := (12, 39)) (by decide) rfl) (by decide) rfl (show rf (BK 165 163) 145 3 = some 147 by decide +kernel) ?_
  refine r_sipush (x := 870) dX12_init_211 (by decide) (by decide) ?_
  refine r_iload_n dX12_init_214 rfl rfl ?_
  refine r_iadd dX12_init_215 (by decide) ?_
  rw [show (870 : Int) + 1 = 871 from rfl]
  refine r_iconst (x := 1) dX12_init_216 rfl (by decide) ?_
  refine r_iast (h' := (BK 165 163, upn (NK 198) 147 871 1)) dX12_init_217 (BK_obj (x := (100, 1800)) (by decide) rfl) (by decide) (by decide) rfl ?_
  rw [upn_NK (i := 198) rfl]
  refine r_iinc (y := 2) (ls' := [(0, vr 145), (1, vi 2)]) dX12_init_218 rfl rfl (by decide) (Nat.le_of_ble_eq_true rfl) rfl ?_
  refine r_goto (tgt := 201) dX12_init_221 rfl ?_
  refine r_iload_n dX12_init_201 rfl rfl ?_
  refine r_bipush (x := 20) dX12_init_202 (by decide) (by decide) ?_
  refine r_jge (tgt := 224) dX12_init_204 rfl (fun c => absurd c (by decide)) (fun _ => ?_)
  refine r_aload_n dX12_init_207 rfl rfl ?_
  refine r_getR (b := 147) dX12_init_208 fX12_13 (BK_obj (x := (12, 39)) (by decide) rfl) (by decide) rfl (show rf (BK 165 163) 145 3 = some 147 by decide +kernel) ?_
  refine r_sipush (x := 870) dX12_init_211 (by decide) (by decide) ?_
  refine r_iload_n dX12_init_214 rfl rfl ?_
  refine r_iadd dX12_init_215 (by decide) ?_
  rw [show (870 : Int) + 2 = 872 from rfl]
  refine r_iconst (x := 1) dX12_init_216 rfl (by decide) ?_
  refine r_iast (h' := (BK 165 163, upn (NK 199) 147 872 1)) dX12_init_217 (BK_obj (x := (100, 1800)) (by decide) rfl) (by decide) (by decide) rfl ?_
  rw [upn_NK (i := 199) rfl]
  refine r_iinc (y := 3) (ls' := [(0, vr 145), (1, vi 3)]) dX12_init_218 rfl rfl (by decide) (Nat.le_of_ble_eq_true rfl) rfl ?_
  refine r_goto (tgt := 201) dX12_init_221 rfl ?_
  refine r_iload_n dX12_init_201 rfl rfl ?_
  refine r_bipush (x := 20) dX12_init_202 (by decide) (by decide) ?_
  refine r_jge (tgt := 224) dX12_init_204 rfl (fun c => absurd c (by decide)) (fun _ => ?_)
  refine r_aload_n dX12_init_207 rfl rfl ?_
  refine r_getR (b := 147) dX12_init_208 fX12_13 (BK_obj (x := (12, 39)) (by decide) rfl) (by decide) rfl (show rf (BK 165 163) 145 3 = some 147 by decide +kernel) ?_
  refine r_sipush (x := 870) dX12_init_211 (by decide) (by decide) ?_
  refine r_iload_n dX12_init_214 rfl rfl ?_
  refine r_iadd dX12_init_215 (by decide) ?_
  rw [show (870 : Int) + 3 = 873 from rfl]
  refine r_iconst (x := 1) dX12_init_216 rfl (by decide) ?_
  refine r_iast (h' := (BK 165 163, upn (NK 200) 147 873 1)) dX12_init_217 (BK_obj (x := (100, 1800)) (by decide) rfl) (by decide) (by decide) rfl ?_
  rw [upn_NK (i := 200) rfl]
  refine r_iinc (y := 4) (ls' := [(0, vr 145), (1, vi 4)]) dX12_init_218 rfl rfl (by decide) (Nat.le_of_ble_eq_true rfl) rfl ?_
  refine r_goto (tgt := 201) dX12_init_221 rfl ?_
  refine r_iload_n dX12_init_201 rfl rfl ?_
  refine r_bipush (x := 20) dX12_init_202 (by decide) (by decide) ?_
  refine r_jge (tgt := 224) dX12_init_204 rfl (fun c => absurd c (by decide)) (fun _ => ?_)
  refine r_aload_n dX12_init_207 rfl rfl ?_
  refine r_getR (b := 147) dX12_init_208 fX12_13 (BK_obj (x := (12, 39)) (by decide) rfl) (by decide) rfl (show rf (BK 165 163) 145 3 = some 147 by decide +kernel) ?_
  refine r_sipush (x := 870) dX12_init_211 (by decide) (by decide) ?_
  refine r_iload_n dX12_init_214 rfl rfl ?_
  refine r_iadd dX12_init_215 (by decide) ?_
  rw [show (870 : Int) + 4 = 874 from rfl]
  refine r_iconst (x := 1) dX12_init_216 rfl (by decide) ?_
  refine r_iast (h' := (BK 165 163, upn (NK 201) 147 874 1)) dX12_init_217 (BK_obj (x := (100, 1800)) (by decide) rfl) (by decide) (by decide) rfl ?_
  rw [upn_NK (i := 201) rfl]
  refine r_iinc (y := 5) (ls' := [(0, vr 145), (1, vi 5)]) dX12_init_218 rfl rfl (by decide) (Nat.le_of_ble_eq_true rfl) rfl ?_
  refine r_goto (tgt := 201) dX12_init_221 rfl ?_
  refine r_iload_n dX12_init_201 rfl rfl ?_
  refine r_bipush (x := 20) dX12_init_202 (by decide) (by decide) ?_
  refine r_jge (tgt := 224) dX12_init_204 rfl (fun c => absurd c (by decide)) (fun _ => ?_)
  refine r_aload_n dX12_init_207 rfl rfl ?_
  refine r_getR (b := 147) dX12_init_208 fX12_13 (BK_obj (x := (12, 39)) (by decide) rfl) (by decide) rfl (show rf (BK 165 163) 145 3 = some 147 by decide +kernel) ?_
  refine r_sipush (x := 870) dX12_init_211 (by decide) (by decide) ?_
  refine r_iload_n dX12_init_214 rfl rfl ?_
  refine r_iadd dX12_init_215 (by decide) ?_
  rw [show (870 : Int) + 5 = 875 from rfl]
  refine r_iconst (x := 1) dX12_init_216 rfl (by decide) ?_
  refine r_iast (h' := (BK 165 163, upn (NK 202) 147 875 1)) dX12_init_217 (BK_obj (x := (100, 1800)) (by decide) rfl) (by decide) (by decide) rfl ?_
  rw [upn_NK (i := 202) rfl]
  refine r_iinc (y := 6) (ls' := [(0, vr 145), (1, vi 6)]) dX12_init_218 rfl rfl (by decide) (Nat.le_of_ble_eq_true rfl) rfl ?_
  refine r_goto (tgt := 201) dX12_init_221 rfl ?_
  refine r_iload_n dX12_init_201 rfl rfl ?_
  refine r_bipush (x := 20) dX12_init_202 (by decide) (by decide) ?_
  refine r_jge (tgt := 224) dX12_init_204 rfl (fun c => absurd c (by decide)) (fun _ => ?_)
  refine r_aload_n dX12_init_207 rfl rfl ?_
  refine r_getR (b := 147) dX12_init_208 fX12_13 (BK_obj (x := (12, 39)) (by decide) rfl) (by decide) rfl (show rf (BK 165 163) 145 3 = some 147 by decide +kernel) ?_
  refine r_sipush (x := 870) dX12_init_211 (by decide) (by decide) ?_
  refine r_iload_n dX12_init_214 rfl rfl ?_
  refine r_iadd dX12_init_215 (by decide) ?_
  rw [show (870 : Int) + 6 = 876 from rfl]
  refine r_iconst (x := 1) dX12_init_216 rfl (by decide) ?_
  refine r_iast (h' := (BK 165 163, upn (NK 203) 147 876 1)) dX12_init_217 (BK_obj (x := (100, 1800)) (by decide) rfl) (by decide) (by decide) rfl ?_
  rw [upn_NK (i := 203) rfl]
  refine r_iinc (y := 7) (ls' := [(0, vr 145), (1, vi 7)]) dX12_init_218 rfl rfl (by decide) (Nat.le_of_ble_eq_true rfl) rfl ?_
  refine r_goto (tgt := 201) dX12_init_221 rfl ?_
  refine r_iload_n dX12_init_201 rfl rfl ?_
  refine r_bipush (x := 20) dX12_init_202 (by decide) (by decide) ?_
  refine r_jge (tgt := 224) dX12_init_204 rfl (fun c => absurd c (by decide)) (fun _ => ?_)
  refine r_aload_n dX12_init_207 rfl rfl ?_
  refine r_getR (b := 147) dX12_init_208 fX12_13 (BK_obj (x := (12, 39)) (by decide) rfl) (by decide) rfl (show rf (BK 165 163) 145 3 = some 147 by decide +kernel) ?_
  refine r_sipush (x := 870) dX12_init_211 (by decide) (by decide) ?_
  refine r_iload_n dX12_init_214 rfl rfl ?_
  refine r_iadd dX12_init_215 (by decide) ?_
  rw [show (870 : Int) + 7 = 877 from rfl]
  refine r_iconst (x := 1) dX12_init_216 rfl (by decide) ?_
  refine r_iast (h' := (BK 165 163, upn (NK 204) 147 877 1)) dX12_init_217 (BK_obj (x := (100, 1800)) (by decide) rfl) (by decide) (by decide) rfl ?_
  rw [upn_NK (i := 204) rfl]
  refine r_iinc (y := 8) (ls' := [(0, vr 145), (1, vi 8)]) dX12_init_218 rfl rfl (by decide) (Nat.le_of_ble_eq_true rfl) rfl ?_
  refine r_goto (tgt := 201) dX12_init_221 rfl ?_
  refine r_iload_n dX12_init_201 rfl rfl ?_
  refine r_bipush (x := 20) dX12_init_202 (by decide) (by decide) ?_
  refine r_jge (tgt := 224) dX12_init_204 rfl (fun c => absurd c (by decide)) (fun _ => ?_)
  refine r_aload_n dX12_init_207 rfl rfl ?_
  refine r_getR (b := 147) dX12_init_208 fX12_13 (BK_obj (x := (12, 39)) (by decide) rfl) (by decide) rfl (show rf (BK 165 163) 145 3 = some 147 by decide +kernel) ?_
  refine r_sipush (x := 870) dX12_init_211 (by decide) (by decide) ?_
  refine r_iload_n dX12_init_214 rfl rfl ?_
  refine r_iadd dX12_init_215 (by decide) ?_
  rw [show (870 : Int) + 8 = 878 from rfl]
  refine r_iconst (x := 1) dX12_init_216 rfl (by decide) ?_
  refine r_iast (h' := (BK 165 163, upn (NK 205) 147 878 1)) dX12_init_217 (BK_obj (x := (100, 1800)) (by decide) rfl) (by decide) (by decide) rfl ?_
  rw [upn_NK (i := 205) rfl]
  refine r_iinc (y := 9) (ls' := [(0, vr 145), (1, vi 9)]) dX12_init_218 rfl rfl (by decide) (Nat.le_of_ble_eq_true rfl) rfl ?_
  refine r_goto (tgt := 201) dX12_init_221 rfl ?_
  refine r_iload_n dX12_init_201 rfl rfl ?_
  refine r_bipush (x := 20) dX12_init_202 (by decide) (by decide) ?_
  refine r_jge (tgt := 224) dX12_init_204 rfl (fun c => absurd c (by decide)) (fun _ => ?_)
  refine r_aload_n dX12_init_207 rfl rfl ?_
  refine r_getR (b := 147) dX12_init_208 fX12_13 (BK_obj (x := (12, 39)) (by decide) rfl) (by decide) rfl (show rf (BK 165 163) 145 3 = some 147 by decide +kernel) ?_
  refine r_sipush (x := 870) dX12_init_211 (by decide) (by decide) ?_
  refine r_iload_n dX12_init_214 rfl rfl ?_
  refine r_iadd dX12_init_215 (by decide) ?_
  rw [show (870 : Int) + 9 = 879 from rfl]
  refine r_iconst (x := 1) dX12_init_216 rfl (by decide) ?_
  refine r_iast (h' := (BK 165 163, upn (NK 206) 147 879 1)) dX12_init_217 (BK_obj (x := (100, 1800)) (by decide) rfl) (by decide) (by decide) rfl ?_
  rw [upn_NK (i := 206) rfl]
  refine r_iinc (y := 10) (ls' := [(0, vr 145), (1, vi 10)]) dX12_init_218 rfl rfl (by decide) (Nat.le_of_ble_eq_true rfl) rfl ?_
  refine r_goto (tgt := 201) dX12_init_221 rfl ?_
  refine r_iload_n dX12_init_201 rfl rfl ?_
  refine r_bipush (x := 20) dX12_init_202 (by decide) (by decide) ?_
  refine r_jge (tgt := 224) dX12_init_204 rfl (fun c => absurd c (by decide)) (fun _ => ?_)
  refine r_aload_n dX12_init_207 rfl rfl ?_
  refine r_getR (b := 147) dX12_init_208 fX12_13 (BK_obj (x := (12, 39)) (by decide) rfl) (by decide) rfl (show rf (BK 165 163) 145 3 = some 147 by decide +kernel) ?_
  refine r_sipush (x := 870) dX12_init_211 (by decide) (by decide) ?_
  refine r_iload_n dX12_init_214 rfl rfl ?_
  refine r_iadd dX12_init_215 (by decide) ?_
  rw [show (870 : Int) + 10 = 880 from rfl]
  refine r_iconst (x := 1) dX12_init_216 rfl (by decide) ?_
  refine r_iast (h' := (BK 165 163, upn (NK 207) 147 880 1)) dX12_init_217 (BK_obj (x := (100, 1800)) (by decide) rfl) (by decide) (by decide) rfl ?_
  rw [upn_NK (i := 207) rfl]
  refine r_iinc (y := 11) (ls' := [(0, vr 145), (1, vi 11)]) dX12_init_218 rfl rfl (by decide) (Nat.le_of_ble_eq_true rfl) rfl ?_
  refine r_goto (tgt := 201) dX12_init_221 rfl ?_
  refine r_iload_n dX12_init_201 rfl rfl ?_
  refine r_bipush (x := 20) dX12_init_202 (by decide) (by decide) ?_
  refine r_jge (tgt := 224) dX12_init_204 rfl (fun c => absurd c (by decide)) (fun _ => ?_)
  refine r_aload_n dX12_init_207 rfl rfl ?_
  refine r_getR (b := 147) dX12_init_208 fX12_13 (BK_obj (x := (12, 39)) (by decide) rfl) (by decide) rfl (show rf (BK 165 163) 145 3 = some 147 by decide +kernel) ?_
  refine r_sipush (x := 870) dX12_init_211 (by decide) (by decide) ?_
  refine r_iload_n dX12_init_214 rfl rfl ?_
  refine r_iadd dX12_init_215 (by decide) ?_
  rw [show (870 : Int) + 11 = 881 from rfl]
  refine r_iconst (x := 1) dX12_init_216 rfl (by decide) ?_
  refine r_iast (h' := (BK 165 163, upn (NK 208) 147 881 1)) dX12_init_217 (BK_obj (x := (100, 1800)) (by decide) rfl) (by decide) (by decide) rfl ?_
  rw [upn_NK (i := 208) rfl]
  refine r_iinc (y := 12) (ls' := [(0, vr 145), (1, vi 12)]) dX12_init_218 rfl rfl (by decide) (Nat.le_of_ble_eq_true rfl) rfl ?_
  refine r_goto (tgt := 201) dX12_init_221 rfl ?_
  refine r_iload_n dX12_init_201 rfl rfl ?_
  refine r_bipush (x := 20) dX12_init_202 (by decide) (by decide) ?_
  refine r_jge (tgt := 224) dX12_init_204 rfl (fun c => absurd c (by decide)) (fun _ => ?_)
  refine r_aload_n dX12_init_207 rfl rfl ?_
  refine r_getR (b := 147) dX12_init_208 fX12_13 (BK_obj (x := (12, 39)) (by decide) rfl) (by decide) rfl (show rf (BK 165 163) 145 3 = some 147 by decide +kernel) ?_
  refine r_sipush (x := 870) dX12_init_211 (by decide) (by decide) ?_
  refine r_iload_n dX12_init_214 rfl rfl ?_
  refine r_iadd dX12_init_215 (by decide) ?_
  rw [show (870 : Int) + 12 = 882 from rfl]
  refine r_iconst (x := 1) dX12_init_216 rfl (by decide) ?_
  refine r_iast (h' := (BK 165 163, upn (NK 209) 147 882 1)) dX12_init_217 (BK_obj (x := (100, 1800)) (by decide) rfl) (by decide) (by decide) rfl ?_
  rw [upn_NK (i := 209) rfl]
  refine r_iinc (y := 13) (ls' := [(0, vr 145), (1, vi 13)]) dX12_init_218 rfl rfl (by decide) (Nat.le_of_ble_eq_true rfl) rfl ?_
  refine r_goto (tgt := 201) dX12_init_221 rfl ?_
  refine r_iload_n dX12_init_201 rfl rfl ?_
  refine r_bipush (x := 20) dX12_init_202 (by decide) (by decide) ?_
  refine r_jge (tgt := 224) dX12_init_204 rfl (fun c => absurd c (by decide)) (fun _ => ?_)
  refine r_aload_n dX12_init_207 rfl rfl ?_
  refine r_getR (b := 147) dX12_init_208 fX12_13 (BK_obj (x := (12, 39)) (by decide) rfl) (by decide) rfl (show rf (BK 165 163) 145 3 = some 147 by decide +kernel) ?_
  refine r_sipush (x := 870) dX12_init_211 (by decide) (by decide) ?_
  refine r_iload_n dX12_init_214 rfl rfl ?_
  refine r_iadd dX12_init_215 (by decide) ?_
  rw [show (870 : Int) + 13 = 883 from rfl]
  refine r_iconst (x := 1) dX12_init_216 rfl (by decide) ?_
  refine r_iast (h' := (BK 165 163, upn (NK 210) 147 883 1)) dX12_init_217 (BK_obj (x := (100, 1800)) (by decide) rfl) (by decide) (by decide) rfl ?_
  rw [upn_NK (i := 210) rfl]
  refine r_iinc (y := 14) (ls' := [(0, vr 145), (1, vi 14)]) dX12_init_218 rfl rfl (by decide) (Nat.le_of_ble_eq_true rfl) rfl ?_
  refine r_goto (tgt := 201) dX12_init_221 rfl ?_
  refine r_iload_n dX12_init_201 rfl rfl ?_
  refine r_bipush (x := 20) dX12_init_202 (by decide) (by decide) ?_
  refine r_jge (tgt := 224) dX12_init_204 rfl (fun c => absurd c (by decide)) (fun _ => ?_)
  refine r_aload_n dX12_init_207 rfl rfl ?_
  refine r_getR (b := 147) dX12_init_208 fX12_13 (BK_obj (x := (12, 39)) (by decide) rfl) (by decide) rfl (show rf (BK 165 163) 145 3 = some 147 by decide +kernel) ?_
  refine r_sipush (x := 870) dX12_init_211 (by decide) (by decide) ?_
  refine r_iload_n dX12_init_214 rfl rfl ?_
  refine r_iadd dX12_init_215 (by decide) ?_
  rw [show (870 : Int) + 14 = 884 from rfl]
  refine r_iconst (x := 1) dX12_init_216 rfl (by decide) ?_
  refine r_iast (h' := (BK 165 163, upn (NK 211) 147 884 1)) dX12_init_217 (BK_obj (x := (100, 1800)) (by decide) rfl) (by decide) (by decide) rfl ?_
  rw [upn_NK (i := 211) rfl]
  refine r_iinc (y := 15) (ls' := [(0, vr 145), (1, vi 15)]) dX12_init_218 rfl rfl (by decide) (Nat.le_of_ble_eq_true rfl) rfl ?_
  refine r_goto (tgt := 201) dX12_init_221 rfl ?_
  refine r_iload_n dX12_init_201 rfl rfl ?_
  refine r_bipush (x := 20) dX12_init_202 (by decide) (by decide) ?_
  refine r_jge (tgt := 224) dX12_init_204 rfl (fun c => absurd c (by decide)) (fun _ => ?_)
  refine r_aload_n dX12_init_207 rfl rfl ?_
  refine r_getR (b := 147) dX12_init_208 fX12_13 (BK_obj (x := (12, 39)) (by decide) rfl) (by decide) rfl (show rf (BK 165 163) 145 3 = some 147 by decide +kernel) ?_
  refine r_sipush (x := 870) dX12_init_211 (by decide) (by decide) ?_
  refine r_iload_n dX12_init_214 rfl rfl ?_
  refine r_iadd dX12_init_215 (by decide) ?_
  rw [show (870 : Int) + 15 = 885 from rfl]
  refine r_iconst (x := 1) dX12_init_216 rfl (by decide) ?_
  refine r_iast (h' := (BK 165 163, upn (NK 212) 147 885 1)) dX12_init_217 (BK_obj (x := (100, 1800)) (by decide) rfl) (by decide) (by decide) rfl ?_
  rw [upn_NK (i := 212) rfl]
  refine r_iinc (y := 16) (ls' := [(0, vr 145), (1, vi 16)]) dX12_init_218 rfl rfl (by decide) (Nat.le_of_ble_eq_true rfl) rfl ?_
  refine r_goto (tgt := 201) dX12_init_221 rfl ?_
  refine r_iload_n dX12_init_201 rfl rfl ?_
  refine r_bipush (x := 20) dX12_init_202 (by decide) (by decide) ?_
  refine r_jge (tgt := 224) dX12_init_204 rfl (fun c => absurd c (by decide)) (fun _ => ?_)
  refine r_aload_n dX12_init_207 rfl rfl ?_
  refine r_getR (b := 147) dX12_init_208 fX12_13 (BK_obj (x := (12, 39)) (by decide) rfl) (by decide) rfl (show rf (BK 165 163) 145 3 = some 147 by decide +kernel) ?_
  refine r_sipush (x := 870) dX12_init_211 (by decide) (by decide) ?_
  refine r_iload_n dX12_init_214 rfl rfl ?_
  refine r_iadd dX12_init_215 (by decide) ?_
  rw [show (870 : Int) + 16 = 886 from rfl]
  refine r_iconst (x := 1) dX12_init_216 rfl (by decide) ?_
  refine r_iast (h' := (BK 165 163, upn (NK 213) 147 886 1)) dX12_init_217 (BK_obj (x := (100, 1800)) (by decide) rfl) (by decide) (by decide) rfl ?_
  rw [upn_NK (i := 213) rfl]
  refine r_iinc (y := 17) (ls' := [(0, vr 145), (1, vi 17)]) dX12_init_218 rfl rfl (by decide) (Nat.le_of_ble_eq_true rfl) rfl ?_
  refine r_goto (tgt := 201) dX12_init_221 rfl ?_
  refine r_iload_n dX12_init_201 rfl rfl ?_
  refine r_bipush (x := 20) dX12_init_202 (by decide) (by decide) ?_
  refine r_jge (tgt := 224) dX12_init_204 rfl (fun c => absurd c (by decide)) (fun _ => ?_)
  refine r_aload_n dX12_init_207 rfl rfl ?_
  refine r_getR (b := 147) dX12_init_208 fX12_13 (BK_obj (x := (12, 39)) (by decide) rfl) (by decide) rfl (show rf (BK 165 163) 145 3 = some 147 by decide +kernel) ?_
  refine r_sipush (x := 870) dX12_init_211 (by decide) (by decide) ?_
  refine r_iload_n dX12_init_214 rfl rfl ?_
  refine r_iadd dX12_init_215 (by decide) ?_
  rw [show (870 : Int) + 17 = 887 from rfl]
  refine r_iconst (x := 1) dX12_init_216 rfl (by decide) ?_
  refine r_iast (h' := (BK 165 163, upn (NK 214) 147 887 1)) dX12_init_217 (BK_obj (x := (100, 1800)) (by decide) rfl) (by decide) (by decide) rfl ?_
  rw [upn_NK (i := 214) rfl]
  refine r_iinc (y := 18) (ls' := [(0, vr 145), (1, vi 18)]) dX12_init_218 rfl rfl (by decide) (Nat.le_of_ble_eq_true rfl) rfl ?_
  refine r_goto (tgt := 201) dX12_init_221 rfl ?_
  refine r_iload_n dX12_init_201 rfl rfl ?_
  refine r_bipush (x := 20) dX12_init_202 (by decide) (by decide) ?_
  refine r_jge (tgt := 224) dX12_init_204 rfl (fun c => absurd c (by decide)) (fun _ => ?_)
  refine r_aload_n dX12_init_207 rfl rfl ?_
  refine r_getR (b := 147) dX12_init_208 fX12_13 (BK_obj (x := (12, 39)) (by decide) rfl) (by decide) rfl (show rf (BK 165 163) 145 3 = some 147 by decide +kernel) ?_
  refine r_sipush (x := 870) dX12_init_211 (by decide) (by decide) ?_
  refine r_iload_n dX12_init_214 rfl rfl ?_
  refine r_iadd dX12_init_215 (by decide) ?_
  rw [show (870 : Int) + 18 = 888 from rfl]
  refine r_iconst (x := 1) dX12_init_216 rfl (by decide) ?_
  refine r_iast (h' := (BK 165 163, upn (NK 215) 147 888 1)) dX12_init_217 (BK_obj (x := (100, 1800)) (by decide) rfl) (by decide) (by decide) rfl ?_
  rw [upn_NK (i := 215) rfl]
  refine r_iinc (y := 19) (ls' := [(0, vr 145), (1, vi 19)]) dX12_init_218 rfl rfl (by decide) (Nat.le_of_ble_eq_true rfl) rfl ?_
  refine r_goto (tgt := 201) dX12_init_221 rfl ?_
  refine r_iload_n dX12_init_201 rfl rfl ?_
  refine r_bipush (x := 20) dX12_init_202 (by decide) (by decide) ?_
  refine r_jge (tgt := 224) dX12_init_204 rfl (fun c => absurd c (by decide)) (fun _ => ?_)
  refine r_aload_n dX12_init_207 rfl rfl ?_
  refine r_getR (b := 147) dX12_init_208 fX12_13 (BK_obj (x := (12, 39)) (by decide) rfl) (by decide) rfl (show rf (BK 165 163) 145 3 = some 147 by decide +kernel) ?_
  refine r_sipush (x := 870) dX12_init_211 (by decide) (by decide) ?_
  refine r_iload_n dX12_init_214 rfl rfl ?_
  refine r_iadd dX12_init_215 (by decide) ?_
  rw [show (870 : Int) + 19 = 889 from rfl]
  refine r_iconst (x := 1) dX12_init_216 rfl (by decide) ?_
  refine r_iast (h' := (BK 165 163, upn (NK 216) 147 889 1)) dX12_init_217 (BK_obj (x := (100, 1800)) (by decide) rfl) (by decide) (by decide) rfl ?_
  rw [upn_NK (i := 216) rfl]
  refine r_iinc (y := 20) (ls' := [(0, vr 145), (1, vi 20)]) dX12_init_218 rfl rfl (by decide) (Nat.le_of_ble_eq_true rfl) rfl ?_
  refine r_goto (tgt := 201) dX12_init_221 rfl ?_
  refine r_iload_n dX12_init_201 rfl rfl ?_
  refine r_bipush (x := 20) dX12_init_202 (by decide) (by decide) ?_
  refine r_jge (tgt := 224) dX12_init_204 rfl (fun _ => ?_) (fun c => absurd c (by decide))
  refine r_ret dX12_init_224 rfl ⟨⟨rfl, rfl⟩, rfl, ?_⟩
  exact (show hu (BK 165 163) = hu (BK 146 144) + 8557 by decide +kernel)
end MINIT
