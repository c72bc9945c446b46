section INITS
set_option maxRecDepth 20000 in
theorem in_X8_init_35 {w : WD} {d : Nat} : Ev w (d + 1) 1 400 mX8_init [vr 35] (BK 36 34, NK 54) (fun r h' => r = none ∧ h' = (BK 37 35, NK 55)) := by
  refine Ev.of (by decide +kernel) (Nat.le_of_ble_eq_true rfl) rfl (fun ho G hcz hcu => ?_)
  have hcz : gcz G = 37 := hcz
  have hcu : gcu G = 2182 := hcu.trans (show hu (BK 36 34) + 400 = 2182 by decide +kernel)
  refine r_aload_n dX8_init_0 rfl rfl ?_
  refine r_objInit dX8_init_1 kX8_3 (by decide) ?_
  refine r_aload_n dX8_init_4 rfl rfl ?_
  refine r_sipush (x := 400) dX8_init_5 (by decide) (by decide) ?_
  refine r_newaI (len := 400) dX8_init_8 arI rfl (by decide) (NK_zero (i := 54) (a := 36) (by decide +kernel)) (by rw [hcz]; exact Nat.le_of_ble_eq_true rfl) (by rw [hcu]; exact (show hu (BK 36 34) + 400 ≤ 2182 by decide +kernel)) ?_
  dsimp only
  rw [newB_BK (k := 36) (j := 34) (x := (100, 400)) rfl (by decide +kernel)]
  refine r_putFR (b := 36) dX8_init_10 pfX8_9 rfl (BK_obj (x := (8, 2)) (by decide) rfl) (by decide) rfl ?_
  dsimp only
  rw [putB_BK (j := 34) rfl]
  refine r_aload_n dX8_init_13 rfl rfl ?_
  refine r_iconst (x := 0) dX8_init_14 rfl (by decide) ?_
  refine r_putI (h' := (BK 37 35, upn (NK 54) 35 1 0)) dX8_init_15 pX8_15 (BK_obj (x := (8, 2)) (by decide) rfl) (by decide) rfl rfl rfl ?_
  rw [upn_NK (i := 54) rfl]
  refine r_ret dX8_init_18 rfl ⟨⟨rfl, rfl⟩, rfl, ?_⟩
  exact (show hu (BK 37 35) = hu (BK 36 34) + 400 by decide +kernel)
set_option maxRecDepth 20000 in
theorem in_X9_init_38 {w : WD} {d : Nat} : Ev w (d + 1) 3 1203 mX9_init [vr 38] (BK 39 36, NK 55) (fun r h' => r = none ∧ h' = (BK 42 39, NK 56)) := by
  refine Ev.of (by decide +kernel) (Nat.le_of_ble_eq_true rfl) rfl (fun ho G hcz hcu => ?_)
  have hcz : gcz G = 42 := hcz
  have hcu : gcu G = 3394 := hcu.trans (show hu (BK 39 36) + 1203 = 3394 by decide +kernel)
  refine r_aload_n dX9_init_0 rfl rfl ?_
  refine r_objInit dX9_init_1 kX9_3 (by decide) ?_
  refine r_aload_n dX9_init_4 rfl rfl ?_
  refine r_sipush (x := 401) dX9_init_5 (by decide) (by decide) ?_
  refine r_newaI (len := 401) dX9_init_8 arI rfl (by decide) (NK_zero (i := 55) (a := 39) (by decide +kernel)) (by rw [hcz]; exact Nat.le_of_ble_eq_true rfl) (by rw [hcu]; exact (show hu (BK 39 36) + 401 ≤ 3394 by decide +kernel)) ?_
  dsimp only
  rw [newB_BK (k := 39) (j := 36) (x := (100, 401)) rfl (by decide +kernel)]
  refine r_putFR (b := 39) dX9_init_10 pfX9_9 rfl (BK_obj (x := (9, 4)) (by decide) rfl) (by decide) rfl ?_
  dsimp only
  rw [putB_BK (j := 36) rfl]
  refine r_aload_n dX9_init_13 rfl rfl ?_
  refine r_sipush (x := 401) dX9_init_14 (by decide) (by decide) ?_
  refine r_newaI (len := 401) dX9_init_17 arI rfl (by decide) (NK_zero (i := 55) (a := 40) (by decide +kernel)) (by rw [hcz]; exact Nat.le_of_ble_eq_true rfl) (by rw [hcu]; exact (show hu (BK 40 37) + 401 ≤ 3394 by decide +kernel)) ?_
  dsimp only
  rw [newB_BK (k := 40) (j := 37) (x := (100, 401)) rfl (by decide +kernel)]
  refine r_putFR (b := 40) dX9_init_19 pfX9_15 rfl (BK_obj (x := (9, 4)) (by decide) rfl) (by decide) rfl ?_
  dsimp only
  rw [putB_BK (j := 37) rfl]
  refine r_aload_n dX9_init_22 rfl rfl ?_
  refine r_sipush (x := 401) dX9_init_23 (by decide) (by decide) ?_
  refine r_newaI (len := 401) dX9_init_26 arI rfl (by decide) (NK_zero (i := 55) (a := 41) (by decide +kernel)) (by rw [hcz]; exact Nat.le_of_ble_eq_true rfl) (by rw [hcu]; exact (show hu (BK 41 38) + 401 ≤ 3394 by decide +kernel)) ?_
  dsimp only
  rw [newB_BK (k := 41) (j := 38) (x := (100, 401)) rfl (by decide +kernel)]
  refine r_putFR (b := 41) dX9_init_28 pfX9_18 rfl (BK_obj (x := (9, 4)) (by decide) rfl) (by decide) rfl ?_
  dsimp only
  rw [putB_BK (j := 38) rfl]
  refine r_aload_n dX9_init_31 rfl rfl ?_
  refine r_iconst (x := 0) dX9_init_32 rfl (by decide) ?_
  refine r_putI (h' := (BK 42 39, upn (NK 55) 38 3 0)) dX9_init_33 pX9_21 (BK_obj (x := (9, 4)) (by decide) rfl) (by decide) rfl rfl rfl ?_
  rw [upn_NK (i := 55) rfl]
  refine r_ret dX9_init_36 rfl ⟨⟨rfl, rfl⟩, rfl, ?_⟩
  exact (show hu (BK 42 39) = hu (BK 39 36) + 1203 by decide +kernel)
set_option maxRecDepth 20000 in
theorem in_X3_init_37 {w : WD} {d : Nat} : Ev w (d + 3) 9 2063 mX3_init [vr 37] (BK 38 36, NK 55) (fun r h' => r = none ∧ h' = (BK 47 45, NK 63)) := by
  refine Ev.of (by decide +kernel) (Nat.le_of_ble_eq_true rfl) rfl (fun ho G hcz hcu => ?_)
  have hcz : gcz G = 47 := hcz
  have hcu : gcu G = 4250 := hcu.trans (show hu (BK 38 36) + 2063 = 4250 by decide +kernel)
  refine r_aload_n dX3_init_0 rfl rfl ?_
  refine r_objInit dX3_init_1 kX3_3 (by decide) ?_
  refine r_aload_n dX3_init_4 rfl rfl ?_
  refine r_new (ci := 9) (nf := 4) dX3_init_5 nwRX3_9 ⟨_, rfl, rfl⟩ tyf9 (NK_zero (i := 55) (a := 38) (by decide +kernel)) (by rw [hcz]; exact Nat.le_of_ble_eq_true rfl) (by rw [hcu]; exact (show hu (BK 38 36) + 4 ≤ 4250 by decide +kernel)) ?_
  dsimp only
  rw [newB_BK (k := 38) (j := 36) (x := (9, 4)) rfl (by decide +kernel)]
  refine r_dup dX3_init_8 rfl ?_
  refine r_callIN (mc := 3) (ms := 1203) (a := 38) (args := []) (st := [vr 38, vr 37]) dX3_init_9 kX3_11 rfl rfl (Nat.le_of_ble_eq_true rfl) (fun _ _ => ⟨by rw [hcz]; exact Nat.le_of_ble_eq_true rfl, by rw [hcu]; exact (show hu (BK 39 36) + 1203 ≤ 4250 by decide +kernel)⟩) ?_
  refine Ev.mono (Ev.deep (by omega) (in_X9_init_38 (d := d))) (fun r h' y => ?_)
  obtain ⟨y1, y2⟩ := y
  subst y1 y2
  refine r_putFR (b := 38) dX3_init_12 pfX3_12 rfl (BK_obj (x := (3, 5)) (by decide) rfl) (by decide) rfl ?_
  dsimp only
  rw [putB_BK (j := 39) rfl]
  refine r_aload_n dX3_init_15 rfl rfl ?_
  refine r_new (ci := 2) (nf := 4) dX3_init_16 nwRX3_18 ⟨_, rfl, rfl⟩ tyf2 (NK_zero (i := 56) (a := 42) (by decide +kernel)) (by rw [hcz]; exact Nat.le_of_ble_eq_true rfl) (by rw [hcu]; exact (show hu (BK 42 40) + 4 ≤ 4250 by decide +kernel)) ?_
  dsimp only
  rw [newB_BK (k := 42) (j := 40) (x := (2, 4)) rfl (by decide +kernel)]
  refine r_dup dX3_init_19 rfl ?_
  refine r_callIN (mc := 4) (ms := 852) (a := 42) (args := []) (st := [vr 42, vr 37]) dX3_init_20 kX3_20 rfl rfl (Nat.le_of_ble_eq_true rfl) (fun _ _ => ⟨by rw [hcz]; exact Nat.le_of_ble_eq_true rfl, by rw [hcu]; exact (show hu (BK 43 40) + 852 ≤ 4250 by decide +kernel)⟩) ?_
  refine Ev.mono (Ev.deep (by omega) (lK (d := d) (a := 42) (j := 40) (i := 56) rfl rfl rfl rfl rfl rfl rfl rfl rfl (by decide +kernel) (by decide +kernel) (by decide +kernel) (by decide +kernel) rfl rfl rfl rfl)) (fun r h' y => ?_)
  obtain ⟨y1, y2⟩ := y
  subst y1 y2
  refine r_putFR (b := 42) dX3_init_23 pfX3_21 rfl (BK_obj (x := (3, 5)) (by decide) rfl) (by decide) rfl ?_
  dsimp only
  rw [putB_BK (j := 44) rfl]
  refine r_aload_n dX3_init_26 rfl rfl ?_
  refine r_iconst (x := 0) dX3_init_27 rfl (by decide) ?_
  refine r_putI (h' := (BK 47 45, upn (NK 60) 37 2 0)) dX3_init_28 pX3_25 (BK_obj (x := (3, 5)) (by decide) rfl) (by decide) rfl rfl rfl ?_
  rw [upn_NK (i := 60) rfl]
  refine r_aload_n dX3_init_31 rfl rfl ?_
  refine r_iconst (x := 0) dX3_init_32 rfl (by decide) ?_
  refine r_putI (h' := (BK 47 45, upn (NK 61) 37 3 0)) dX3_init_33 pX3_29 (BK_obj (x := (3, 5)) (by decide) rfl) (by decide) rfl rfl rfl ?_
  rw [upn_NK (i := 61) rfl]
  refine r_aload_n dX3_init_36 rfl rfl ?_
  refine r_iconst (x := (-1)) dX3_init_37 rfl (by decide) ?_
  refine r_putI (h' := (BK 47 45, upn (NK 62) 37 4 (-1))) dX3_init_38 pX3_32 (BK_obj (x := (3, 5)) (by decide) rfl) (by decide) rfl rfl rfl ?_
  rw [upn_NK (i := 62) rfl]
  refine r_ret dX3_init_41 rfl ⟨⟨rfl, rfl⟩, rfl, ?_⟩
  exact (show hu (BK 47 45) = hu (BK 38 36) + 2063 by decide +kernel)
set_option maxRecDepth 20000 in
theorem in_X0_init_47 {w : WD} {d : Nat} : Ev w (d + 1) 3 79 mX0_init [vr 47] (BK 48 46, NK 63) (fun r h' => r = none ∧ h' = (BK 51 49, NK 66)) := by
  refine Ev.of (by decide +kernel) (Nat.le_of_ble_eq_true rfl) rfl (fun ho G hcz hcu => ?_)
  have hcz : gcz G = 51 := hcz
  have hcu : gcu G = 4335 := hcu.trans (show hu (BK 48 46) + 79 = 4335 by decide +kernel)
  refine r_aload_n dX0_init_0 rfl rfl ?_
  refine r_objInit dX0_init_1 kX0_3 (by decide) ?_
  refine r_aload_n dX0_init_4 rfl rfl ?_
  refine r_bipush (x := 64) dX0_init_5 (by decide) (by decide) ?_
  refine r_newaI (len := 64) dX0_init_7 arI rfl (by decide) (NK_zero (i := 63) (a := 48) (by decide +kernel)) (by rw [hcz]; exact Nat.le_of_ble_eq_true rfl) (by rw [hcu]; exact (show hu (BK 48 46) + 64 ≤ 4335 by decide +kernel)) ?_
  dsimp only
  rw [newB_BK (k := 48) (j := 46) (x := (100, 64)) rfl (by decide +kernel)]
  refine r_putFR (b := 48) dX0_init_9 pfX0_9 rfl (BK_obj (x := (0, 6)) (by decide) rfl) (by decide) rfl ?_
  dsimp only
  rw [putB_BK (j := 46) rfl]
  refine r_aload_n dX0_init_12 rfl rfl ?_
  refine r_iconst (x := 0) dX0_init_13 rfl (by decide) ?_
  refine r_putI (h' := (BK 49 47, upn (NK 63) 47 1 0)) dX0_init_14 pX0_15 (BK_obj (x := (0, 6)) (by decide) rfl) (by decide) rfl rfl rfl ?_
  rw [upn_NK (i := 63) rfl]
  refine r_aload_n dX0_init_17 rfl rfl ?_
  refine r_iconst (x := 0) dX0_init_18 rfl (by decide) ?_
  refine r_putZ (h' := (BK 49 47, upn (NK 64) 47 2 0)) dX0_init_19 pX0_19 (BK_obj (x := (0, 6)) (by decide) rfl) (by decide) rfl rfl (by decide) rfl ?_
  rw [upn_NK (i := 64) rfl]
  refine r_aload_n dX0_init_22 rfl rfl ?_
  refine r_bipush (x := 9) dX0_init_23 (by decide) (by decide) ?_
  refine r_newaI (len := 9) dX0_init_25 arI rfl (by decide) (NK_zero (i := 65) (a := 49) (by decide +kernel)) (by rw [hcz]; exact Nat.le_of_ble_eq_true rfl) (by rw [hcu]; exact (show hu (BK 49 47) + 9 ≤ 4335 by decide +kernel)) ?_
  dsimp only
  rw [newB_BK (k := 49) (j := 47) (x := (100, 9)) rfl (by decide +kernel)]
  refine r_putFR (b := 49) dX0_init_27 pfX0_23 rfl (BK_obj (x := (0, 6)) (by decide) rfl) (by decide) rfl ?_
  dsimp only
  rw [putB_BK (j := 47) rfl]
  refine r_aload_n dX0_init_30 rfl rfl ?_
  refine r_bipush (x := 6) dX0_init_31 (by decide) (by decide) ?_
  refine r_newaI (len := 6) dX0_init_33 arI rfl (by decide) (NK_zero (i := 65) (a := 50) (by decide +kernel)) (by rw [hcz]; exact Nat.le_of_ble_eq_true rfl) (by rw [hcu]; exact (show hu (BK 50 48) + 6 ≤ 4335 by decide +kernel)) ?_
  dsimp only
  rw [newB_BK (k := 50) (j := 48) (x := (100, 6)) rfl (by decide +kernel)]
  refine r_putFR (b := 50) dX0_init_35 pfX0_26 rfl (BK_obj (x := (0, 6)) (by decide) rfl) (by decide) rfl ?_
  dsimp only
  rw [putB_BK (j := 48) rfl]
  refine r_aload_n dX0_init_38 rfl rfl ?_
  refine r_iconst (x := 0) dX0_init_39 rfl (by decide) ?_
  refine r_putI (h' := (BK 51 49, upn (NK 65) 47 5 0)) dX0_init_40 pX0_29 (BK_obj (x := (0, 6)) (by decide) rfl) (by decide) rfl rfl rfl ?_
  rw [upn_NK (i := 65) rfl]
  refine r_ret dX0_init_43 rfl ⟨⟨rfl, rfl⟩, rfl, ?_⟩
  exact (show hu (BK 51 49) = hu (BK 48 46) + 79 by decide +kernel)
set_option maxRecDepth 20000 in
theorem in_X6_init_51 {w : WD} {d : Nat} : Ev w (d + 2) 21 666 mX6_init [vr 51] (BK 52 50, NK 66) (fun r h' => r = none ∧ h' = (BK 73 71, NK 76)) := by
  refine Ev.of (by decide +kernel) (Nat.le_of_ble_eq_true rfl) rfl (fun ho G hcz hcu => ?_)
  have hcz : gcz G = 73 := hcz
  have hcu : gcu G = 5006 := hcu.trans (show hu (BK 52 50) + 666 = 5006 by decide +kernel)
  refine r_aload_n dX6_init_0 rfl rfl ?_
  refine r_objInit dX6_init_1 kX6_3 (by decide) ?_
  refine r_aload_n dX6_init_4 rfl rfl ?_
  refine r_bipush (x := 6) dX6_init_5 (by decide) (by decide) ?_
  refine r_anew (len := 6) (c := 1) (Cn := "LakeWatch$Natural") dX6_init_7 (gT_in (by decide +kernel) (by decide +kernel)) (Or.inr ⟨rfl, rfl⟩) rfl (by decide) (NK_zero (i := 66) (a := 52) (by decide +kernel)) (by rw [hcz]; exact Nat.le_of_ble_eq_true rfl) (by rw [hcu]; exact (show hu (BK 52 50) + 6 ≤ 5006 by decide +kernel)) ?_
  dsimp only
  rw [newB_BK (k := 52) (j := 50) (x := (104, 6)) rfl (by decide +kernel)]
  refine r_putFR (b := 52) dX6_init_10 pfX6_11 rfl (BK_obj (x := (6, 5)) (by decide) rfl) (by decide) rfl ?_
  dsimp only
  rw [putB_BK (j := 50) rfl]
  refine r_aload_n dX6_init_13 rfl rfl ?_
  refine r_new (ci := 4) (nf := 2) dX6_init_14 nwRX6_9 ⟨_, rfl, rfl⟩ tyf4 (NK_zero (i := 66) (a := 53) (by decide +kernel)) (by rw [hcz]; exact Nat.le_of_ble_eq_true rfl) (by rw [hcu]; exact (show hu (BK 53 51) + 2 ≤ 5006 by decide +kernel)) ?_
  dsimp only
  rw [newB_BK (k := 53) (j := 51) (x := (4, 2)) rfl (by decide +kernel)]
  refine r_dup dX6_init_17 rfl ?_
  refine r_callIN (mc := 1) (ms := 64) (a := 53) (args := []) (st := [vr 53, vr 51]) dX6_init_18 kX6_17 rfl rfl (Nat.le_of_ble_eq_true rfl) (fun _ _ => ⟨by rw [hcz]; exact Nat.le_of_ble_eq_true rfl, by rw [hcu]; exact (show hu (BK 54 51) + 64 ≤ 5006 by decide +kernel)⟩) ?_
  refine Ev.mono (Ev.deep (by omega) (nK (d := d) (a := 53) (j := 51) (i := 66) rfl rfl rfl (by decide +kernel) (by decide +kernel) rfl)) (fun r h' y => ?_)
  obtain ⟨y1, y2⟩ := y
  subst y1 y2
  refine r_putFR (b := 53) dX6_init_21 pfX6_18 rfl (BK_obj (x := (6, 5)) (by decide) rfl) (by decide) rfl ?_
  dsimp only
  rw [putB_BK (j := 52) rfl]
  refine r_aload_n dX6_init_24 rfl rfl ?_
  refine r_new (ci := 4) (nf := 2) dX6_init_25 nwRX6_9 ⟨_, rfl, rfl⟩ tyf4 (NK_zero (i := 67) (a := 55) (by decide +kernel)) (by rw [hcz]; exact Nat.le_of_ble_eq_true rfl) (by rw [hcu]; exact (show hu (BK 55 53) + 2 ≤ 5006 by decide +kernel)) ?_
  dsimp only
  rw [newB_BK (k := 55) (j := 53) (x := (4, 2)) rfl (by decide +kernel)]
  refine r_dup dX6_init_28 rfl ?_
  refine r_callIN (mc := 1) (ms := 64) (a := 55) (args := []) (st := [vr 55, vr 51]) dX6_init_29 kX6_17 rfl rfl (Nat.le_of_ble_eq_true rfl) (fun _ _ => ⟨by rw [hcz]; exact Nat.le_of_ble_eq_true rfl, by rw [hcu]; exact (show hu (BK 56 53) + 64 ≤ 5006 by decide +kernel)⟩) ?_
  refine Ev.mono (Ev.deep (by omega) (nK (d := d) (a := 55) (j := 53) (i := 67) rfl rfl rfl (by decide +kernel) (by decide +kernel) rfl)) (fun r h' y => ?_)
  obtain ⟨y1, y2⟩ := y
  subst y1 y2
  refine r_putFR (b := 55) dX6_init_32 pfX6_22 rfl (BK_obj (x := (6, 5)) (by decide) rfl) (by decide) rfl ?_
  dsimp only
  rw [putB_BK (j := 54) rfl]
  refine r_aload_n dX6_init_35 rfl rfl ?_
  refine r_new (ci := 4) (nf := 2) dX6_init_36 nwRX6_9 ⟨_, rfl, rfl⟩ tyf4 (NK_zero (i := 68) (a := 57) (by decide +kernel)) (by rw [hcz]; exact Nat.le_of_ble_eq_true rfl) (by rw [hcu]; exact (show hu (BK 57 55) + 2 ≤ 5006 by decide +kernel)) ?_
  dsimp only
  rw [newB_BK (k := 57) (j := 55) (x := (4, 2)) rfl (by decide +kernel)]
  refine r_dup dX6_init_39 rfl ?_
  refine r_callIN (mc := 1) (ms := 64) (a := 57) (args := []) (st := [vr 57, vr 51]) dX6_init_40 kX6_17 rfl rfl (Nat.le_of_ble_eq_true rfl) (fun _ _ => ⟨by rw [hcz]; exact Nat.le_of_ble_eq_true rfl, by rw [hcu]; exact (show hu (BK 58 55) + 64 ≤ 5006 by decide +kernel)⟩) ?_
  refine Ev.mono (Ev.deep (by omega) (nK (d := d) (a := 57) (j := 55) (i := 68) rfl rfl rfl (by decide +kernel) (by decide +kernel) rfl)) (fun r h' y => ?_)
  obtain ⟨y1, y2⟩ := y
  subst y1 y2
  refine r_putFR (b := 57) dX6_init_43 pfX6_25 rfl (BK_obj (x := (6, 5)) (by decide) rfl) (by decide) rfl ?_
  dsimp only
  rw [putB_BK (j := 56) rfl]
  refine r_aload_n dX6_init_46 rfl rfl ?_
  refine r_new (ci := 4) (nf := 2) dX6_init_47 nwRX6_9 ⟨_, rfl, rfl⟩ tyf4 (NK_zero (i := 69) (a := 59) (by decide +kernel)) (by rw [hcz]; exact Nat.le_of_ble_eq_true rfl) (by rw [hcu]; exact (show hu (BK 59 57) + 2 ≤ 5006 by decide +kernel)) ?_
  dsimp only
  rw [newB_BK (k := 59) (j := 57) (x := (4, 2)) rfl (by decide +kernel)]
  refine r_dup dX6_init_50 rfl ?_
  refine r_callIN (mc := 1) (ms := 64) (a := 59) (args := []) (st := [vr 59, vr 51]) dX6_init_51 kX6_17 rfl rfl (Nat.le_of_ble_eq_true rfl) (fun _ _ => ⟨by rw [hcz]; exact Nat.le_of_ble_eq_true rfl, by rw [hcu]; exact (show hu (BK 60 57) + 64 ≤ 5006 by decide +kernel)⟩) ?_
  refine Ev.mono (Ev.deep (by omega) (nK (d := d) (a := 59) (j := 57) (i := 69) rfl rfl rfl (by decide +kernel) (by decide +kernel) rfl)) (fun r h' y => ?_)
  obtain ⟨y1, y2⟩ := y
  subst y1 y2
  refine r_putFR (b := 59) dX6_init_54 pfX6_28 rfl (BK_obj (x := (6, 5)) (by decide) rfl) (by decide) rfl ?_
  dsimp only
  rw [putB_BK (j := 58) rfl]
  refine r_iconst (x := 0) dX6_init_57 rfl (by decide) ?_
  refine r_istore_n (ls' := [(0, vr 51), (1, vi 0)]) dX6_init_58 rfl (Nat.le_of_ble_eq_true rfl) rfl ?_
  refine r_iload_n dX6_init_59 rfl rfl ?_
  refine r_bipush (x := 6) dX6_init_60 (by decide) (by decide) ?_
  refine r_jge (tgt := 84) dX6_init_62 rfl (fun c => absurd c (by decide)) (fun _ => ?_)
  refine r_aload_n dX6_init_65 rfl rfl ?_
  refine r_getR (b := 52) dX6_init_66 fX6_11 (BK_obj (x := (6, 5)) (by decide) rfl) (by decide) rfl (show rf (BK 61 59) 51 0 = some 52 by decide +kernel) ?_
  refine r_iload_n dX6_init_69 rfl rfl ?_
  refine r_new (ci := 4) (nf := 2) dX6_init_70 nwRX6_9 ⟨_, rfl, rfl⟩ tyf4 (NK_zero (i := 70) (a := 61) (by decide +kernel)) (by rw [hcz]; exact Nat.le_of_ble_eq_true rfl) (by rw [hcu]; exact (show hu (BK 61 59) + 2 ≤ 5006 by decide +kernel)) ?_
  dsimp only
  rw [newB_BK (k := 61) (j := 59) (x := (4, 2)) rfl (by decide +kernel)]
  refine r_dup dX6_init_73 rfl ?_
  refine r_callIN (mc := 1) (ms := 64) (a := 61) (args := []) (st := [vr 61, vi 0, vr 52]) dX6_init_74 kX6_17 rfl rfl (Nat.le_of_ble_eq_true rfl) (fun _ _ => ⟨by rw [hcz]; exact Nat.le_of_ble_eq_true rfl, by rw [hcu]; exact (show hu (BK 62 59) + 64 ≤ 5006 by decide +kernel)⟩) ?_
  refine Ev.mono (Ev.deep (by omega) (nK (d := d) (a := 61) (j := 59) (i := 70) rfl rfl rfl (by decide +kernel) (by decide +kernel) rfl)) (fun r h' y => ?_)
  obtain ⟨y1, y2⟩ := y
  subst y1 y2
  refine r_aast (c := 1) (len := 6) (ci := 4) (nf := 2) (Cn := "LakeWatch$Natural") dX6_init_77 (BK_obj (x := (104, 6)) (by decide) rfl) (BK_obj (x := (4, 2)) (by decide) rfl) (by decide) (Or.inr ⟨rfl, rfl⟩) ⟨_, rfl, rfl⟩ (by decide) (by decide) ?_
  dsimp only
  rw [show ((0 : Int)).toNat = 0 from rfl, putB_BK (j := 60) rfl]
  refine r_iinc (y := 1) (ls' := [(0, vr 51), (1, vi 1)]) dX6_init_78 rfl rfl (by decide) (Nat.le_of_ble_eq_true rfl) rfl ?_
  refine r_goto (tgt := 59) dX6_init_81 rfl ?_
  refine r_iload_n dX6_init_59 rfl rfl ?_
  refine r_bipush (x := 6) dX6_init_60 (by decide) (by decide) ?_
  refine r_jge (tgt := 84) dX6_init_62 rfl (fun c => absurd c (by decide)) (fun _ => ?_)
  refine r_aload_n dX6_init_65 rfl rfl ?_
  refine r_getR (b := 52) dX6_init_66 fX6_11 (BK_obj (x := (6, 5)) (by decide) rfl) (by decide) rfl (show rf (BK 63 61) 51 0 = some 52 by decide +kernel) ?_
  refine r_iload_n dX6_init_69 rfl rfl ?_
  refine r_new (ci := 4) (nf := 2) dX6_init_70 nwRX6_9 ⟨_, rfl, rfl⟩ tyf4 (NK_zero (i := 71) (a := 63) (by decide +kernel)) (by rw [hcz]; exact Nat.le_of_ble_eq_true rfl) (by rw [hcu]; exact (show hu (BK 63 61) + 2 ≤ 5006 by decide +kernel)) ?_
  dsimp only
  rw [newB_BK (k := 63) (j := 61) (x := (4, 2)) rfl (by decide +kernel)]
  refine r_dup dX6_init_73 rfl ?_
  refine r_callIN (mc := 1) (ms := 64) (a := 63) (args := []) (st := [vr 63, vi 1, vr 52]) dX6_init_74 kX6_17 rfl rfl (Nat.le_of_ble_eq_true rfl) (fun _ _ => ⟨by rw [hcz]; exact Nat.le_of_ble_eq_true rfl, by rw [hcu]; exact (show hu (BK 64 61) + 64 ≤ 5006 by decide +kernel)⟩) ?_
  refine Ev.mono (Ev.deep (by omega) (nK (d := d) (a := 63) (j := 61) (i := 71) rfl rfl rfl (by decide +kernel) (by decide +kernel) rfl)) (fun r h' y => ?_)
  obtain ⟨y1, y2⟩ := y
  subst y1 y2
  refine r_aast (c := 1) (len := 6) (ci := 4) (nf := 2) (Cn := "LakeWatch$Natural") dX6_init_77 (BK_obj (x := (104, 6)) (by decide) rfl) (BK_obj (x := (4, 2)) (by decide) rfl) (by decide) (Or.inr ⟨rfl, rfl⟩) ⟨_, rfl, rfl⟩ (by decide) (by decide) ?_
  dsimp only
  rw [show ((1 : Int)).toNat = 1 from rfl, putB_BK (j := 62) rfl]
  refine r_iinc (y := 2) (ls' := [(0, vr 51), (1, vi 2)]) dX6_init_78 rfl rfl (by decide) (Nat.le_of_ble_eq_true rfl) rfl ?_
  refine r_goto (tgt := 59) dX6_init_81 rfl ?_
  refine r_iload_n dX6_init_59 rfl rfl ?_
  refine r_bipush (x := 6) dX6_init_60 (by decide) (by decide) ?_
  refine r_jge (tgt := 84) dX6_init_62 rfl (fun c => absurd c (by decide)) (fun _ => ?_)
  refine r_aload_n dX6_init_65 rfl rfl ?_
  refine r_getR (b := 52) dX6_init_66 fX6_11 (BK_obj (x := (6, 5)) (by decide) rfl) (by decide) rfl (show rf (BK 65 63) 51 0 = some 52 by decide +kernel) ?_
  refine r_iload_n dX6_init_69 rfl rfl ?_
  refine r_new (ci := 4) (nf := 2) dX6_init_70 nwRX6_9 ⟨_, rfl, rfl⟩ tyf4 (NK_zero (i := 72) (a := 65) (by decide +kernel)) (by rw [hcz]; exact Nat.le_of_ble_eq_true rfl) (by rw [hcu]; exact (show hu (BK 65 63) + 2 ≤ 5006 by decide +kernel)) ?_
  dsimp only
  rw [newB_BK (k := 65) (j := 63) (x := (4, 2)) rfl (by decide +kernel)]
  refine r_dup dX6_init_73 rfl ?_
  refine r_callIN (mc := 1) (ms := 64) (a := 65) (args := []) (st := [vr 65, vi 2, vr 52]) dX6_init_74 kX6_17 rfl rfl (Nat.le_of_ble_eq_true rfl) (fun _ _ => ⟨by rw [hcz]; exact Nat.le_of_ble_eq_true rfl, by rw [hcu]; exact (show hu (BK 66 63) + 64 ≤ 5006 by decide +kernel)⟩) ?_
  refine Ev.mono (Ev.deep (by omega) (nK (d := d) (a := 65) (j := 63) (i := 72) rfl rfl rfl (by decide +kernel) (by decide +kernel) rfl)) (fun r h' y => ?_)
  obtain ⟨y1, y2⟩ := y
  subst y1 y2
  refine r_aast (c := 1) (len := 6) (ci := 4) (nf := 2) (Cn := "LakeWatch$Natural") dX6_init_77 (BK_obj (x := (104, 6)) (by decide) rfl) (BK_obj (x := (4, 2)) (by decide) rfl) (by decide) (Or.inr ⟨rfl, rfl⟩) ⟨_, rfl, rfl⟩ (by decide) (by decide) ?_
  dsimp only
  rw [show ((2 : Int)).toNat = 2 from rfl, putB_BK (j := 64) rfl]
  refine r_iinc (y := 3) (ls' := [(0, vr 51), (1, vi 3)]) dX6_init_78 rfl rfl (by decide) (Nat.le_of_ble_eq_true rfl) rfl ?_
  refine r_goto (tgt := 59) dX6_init_81 rfl ?_
  refine r_iload_n dX6_init_59 rfl rfl ?_
  refine r_bipush (x := 6) dX6_init_60 (by decide) (by decide) ?_
  refine r_jge (tgt := 84) dX6_init_62 rfl (fun c => absurd c (by decide)) (fun _ => ?_)
  refine r_aload_n dX6_init_65 rfl rfl ?_
  refine r_getR (b := 52) dX6_init_66 fX6_11 (BK_obj (x := (6, 5)) (by decide) rfl) (by decide) rfl (show rf (BK 67 65) 51 0 = some 52 by decide +kernel) ?_
  refine r_iload_n dX6_init_69 rfl rfl ?_
  refine r_new (ci := 4) (nf := 2) dX6_init_70 nwRX6_9 ⟨_, rfl, rfl⟩ tyf4 (NK_zero (i := 73) (a := 67) (by decide +kernel)) (by rw [hcz]; exact Nat.le_of_ble_eq_true rfl) (by rw [hcu]; exact (show hu (BK 67 65) + 2 ≤ 5006 by decide +kernel)) ?_
  dsimp only
  rw [newB_BK (k := 67) (j := 65) (x := (4, 2)) rfl (by decide +kernel)]
  refine r_dup dX6_init_73 rfl ?_
  refine r_callIN (mc := 1) (ms := 64) (a := 67) (args := []) (st := [vr 67, vi 3, vr 52]) dX6_init_74 kX6_17 rfl rfl (Nat.le_of_ble_eq_true rfl) (fun _ _ => ⟨by rw [hcz]; exact Nat.le_of_ble_eq_true rfl, by rw [hcu]; exact (show hu (BK 68 65) + 64 ≤ 5006 by decide +kernel)⟩) ?_
  refine Ev.mono (Ev.deep (by omega) (nK (d := d) (a := 67) (j := 65) (i := 73) rfl rfl rfl (by decide +kernel) (by decide +kernel) rfl)) (fun r h' y => ?_)
  obtain ⟨y1, y2⟩ := y
  subst y1 y2
  refine r_aast (c := 1) (len := 6) (ci := 4) (nf := 2) (Cn := "LakeWatch$Natural") dX6_init_77 (BK_obj (x := (104, 6)) (by decide) rfl) (BK_obj (x := (4, 2)) (by decide) rfl) (by decide) (Or.inr ⟨rfl, rfl⟩) ⟨_, rfl, rfl⟩ (by decide) (by decide) ?_
  dsimp only
  rw [show ((3 : Int)).toNat = 3 from rfl, putB_BK (j := 66) rfl]
  refine r_iinc (y := 4) (ls' := [(0, vr 51), (1, vi 4)]) dX6_init_78 rfl rfl (by decide) (Nat.le_of_ble_eq_true rfl) rfl ?_
  refine r_goto (tgt := 59) dX6_init_81 rfl ?_
  refine r_iload_n dX6_init_59 rfl rfl ?_
  refine r_bipush (x := 6) dX6_init_60 (by decide) (by decide) ?_
  refine r_jge (tgt := 84) dX6_init_62 rfl (fun c => absurd c (by decide)) (fun _ => ?_)
  refine r_aload_n dX6_init_65 rfl rfl ?_
  refine r_getR (b := 52) dX6_init_66 fX6_11 (BK_obj (x := (6, 5)) (by decide) rfl) (by decide) rfl (show rf (BK 69 67) 51 0 = some 52 by decide +kernel) ?_
  refine r_iload_n dX6_init_69 rfl rfl ?_
  refine r_new (ci := 4) (nf := 2) dX6_init_70 nwRX6_9 ⟨_, rfl, rfl⟩ tyf4 (NK_zero (i := 74) (a := 69) (by decide +kernel)) (by rw [hcz]; exact Nat.le_of_ble_eq_true rfl) (by rw [hcu]; exact (show hu (BK 69 67) + 2 ≤ 5006 by decide +kernel)) ?_
  dsimp only
  rw [newB_BK (k := 69) (j := 67) (x := (4, 2)) rfl (by decide +kernel)]
  refine r_dup dX6_init_73 rfl ?_
  refine r_callIN (mc := 1) (ms := 64) (a := 69) (args := []) (st := [vr 69, vi 4, vr 52]) dX6_init_74 kX6_17 rfl rfl (Nat.le_of_ble_eq_true rfl) (fun _ _ => ⟨by rw [hcz]; exact Nat.le_of_ble_eq_true rfl, by rw [hcu]; exact (show hu (BK 70 67) + 64 ≤ 5006 by decide +kernel)⟩) ?_
  refine Ev.mono (Ev.deep (by omega) (nK (d := d) (a := 69) (j := 67) (i := 74) rfl rfl rfl (by decide +kernel) (by decide +kernel) rfl)) (fun r h' y => ?_)
  obtain ⟨y1, y2⟩ := y
  subst y1 y2
  refine r_aast (c := 1) (len := 6) (ci := 4) (nf := 2) (Cn := "LakeWatch$Natural") dX6_init_77 (BK_obj (x := (104, 6)) (by decide) rfl) (BK_obj (x := (4, 2)) (by decide) rfl) (by decide) (Or.inr ⟨rfl, rfl⟩) ⟨_, rfl, rfl⟩ (by decide) (by decide) ?_
  dsimp only
  rw [show ((4 : Int)).toNat = 4 from rfl, putB_BK (j := 68) rfl]
  refine r_iinc (y := 5) (ls' := [(0, vr 51), (1, vi 5)]) dX6_init_78 rfl rfl (by decide) (Nat.le_of_ble_eq_true rfl) rfl ?_
  refine r_goto (tgt := 59) dX6_init_81 rfl ?_
  refine r_iload_n dX6_init_59 rfl rfl ?_
  refine r_bipush (x := 6) dX6_init_60 (by decide) (by decide) ?_
  refine r_jge (tgt := 84) dX6_init_62 rfl (fun c => absurd c (by decide)) (fun _ => ?_)
  refine r_aload_n dX6_init_65 rfl rfl ?_
  refine r_getR (b := 52) dX6_init_66 fX6_11 (BK_obj (x := (6, 5)) (by decide) rfl) (by decide) rfl (show rf (BK 71 69) 51 0 = some 52 by decide +kernel) ?_
  refine r_iload_n dX6_init_69 rfl rfl ?_
  refine r_new (ci := 4) (nf := 2) dX6_init_70 nwRX6_9 ⟨_, rfl, rfl⟩ tyf4 (NK_zero (i := 75) (a := 71) (by decide +kernel)) (by rw [hcz]; exact Nat.le_of_ble_eq_true rfl) (by rw [hcu]; exact (show hu (BK 71 69) + 2 ≤ 5006 by decide +kernel)) ?_
  dsimp only
  rw [newB_BK (k := 71) (j := 69) (x := (4, 2)) rfl (by decide +kernel)]
  refine r_dup dX6_init_73 rfl ?_
  refine r_callIN (mc := 1) (ms := 64) (a := 71) (args := []) (st := [vr 71, vi 5, vr 52]) dX6_init_74 kX6_17 rfl rfl (Nat.le_of_ble_eq_true rfl) (fun _ _ => ⟨by rw [hcz]; exact Nat.le_of_ble_eq_true rfl, by rw [hcu]; exact (show hu (BK 72 69) + 64 ≤ 5006 by decide +kernel)⟩) ?_
  refine Ev.mono (Ev.deep (by omega) (nK (d := d) (a := 71) (j := 69) (i := 75) rfl rfl rfl (by decide +kernel) (by decide +kernel) rfl)) (fun r h' y => ?_)
  obtain ⟨y1, y2⟩ := y
  subst y1 y2
  refine r_aast (c := 1) (len := 6) (ci := 4) (nf := 2) (Cn := "LakeWatch$Natural") dX6_init_77 (BK_obj (x := (104, 6)) (by decide) rfl) (BK_obj (x := (4, 2)) (by decide) rfl) (by decide) (Or.inr ⟨rfl, rfl⟩) ⟨_, rfl, rfl⟩ (by decide) (by decide) ?_
  dsimp only
  rw [show ((5 : Int)).toNat = 5 from rfl, putB_BK (j := 70) rfl]
  refine r_iinc (y := 6) (ls' := [(0, vr 51), (1, vi 6)]) dX6_init_78 rfl rfl (by decide) (Nat.le_of_ble_eq_true rfl) rfl ?_
  refine r_goto (tgt := 59) dX6_init_81 rfl ?_
  refine r_iload_n dX6_init_59 rfl rfl ?_
  refine r_bipush (x := 6) dX6_init_60 (by decide) (by decide) ?_
  refine r_jge (tgt := 84) dX6_init_62 rfl (fun _ => ?_) (fun c => absurd c (by decide))
  refine r_ret dX6_init_84 rfl ⟨⟨rfl, rfl⟩, rfl, ?_⟩
  exact (show hu (BK 73 71) = hu (BK 52 50) + 666 by decide +kernel)
set_option maxRecDepth 20000 in
theorem in_X5_init_73 {w : WD} {d : Nat} : Ev w (d + 1) 3 3072 mX5_init [vr 73] (BK 74 72, NK 76) (fun r h' => r = none ∧ h' = (BK 77 75, NK 76)) := by
  refine Ev.of (by decide +kernel) (Nat.le_of_ble_eq_true rfl) rfl (fun ho G hcz hcu => ?_)
  have hcz : gcz G = 77 := hcz
  have hcu : gcu G = 8081 := hcu.trans (show hu (BK 74 72) + 3072 = 8081 by decide +kernel)
  refine r_aload_n dX5_init_0 rfl rfl ?_
  refine r_objInit dX5_init_1 kX5_3 (by decide) ?_
  refine r_aload_n dX5_init_4 rfl rfl ?_
  refine r_sipush (x := 1024) dX5_init_5 (by decide) (by decide) ?_
  refine r_newaI (len := 1024) dX5_init_8 arI rfl (by decide) (NK_zero (i := 76) (a := 74) (by decide +kernel)) (by rw [hcz]; exact Nat.le_of_ble_eq_true rfl) (by rw [hcu]; exact (show hu (BK 74 72) + 1024 ≤ 8081 by decide +kernel)) ?_
  dsimp only
  rw [newB_BK (k := 74) (j := 72) (x := (100, 1024)) rfl (by decide +kernel)]
  refine r_putFR (b := 74) dX5_init_10 pfX5_11 rfl (BK_obj (x := (5, 3)) (by decide) rfl) (by decide) rfl ?_
  dsimp only
  rw [putB_BK (j := 72) rfl]
  refine r_aload_n dX5_init_13 rfl rfl ?_
  refine r_sipush (x := 1024) dX5_init_14 (by decide) (by decide) ?_
  refine r_newaI (len := 1024) dX5_init_17 arI rfl (by decide) (NK_zero (i := 76) (a := 75) (by decide +kernel)) (by rw [hcz]; exact Nat.le_of_ble_eq_true rfl) (by rw [hcu]; exact (show hu (BK 75 73) + 1024 ≤ 8081 by decide +kernel)) ?_
  dsimp only
  rw [newB_BK (k := 75) (j := 73) (x := (100, 1024)) rfl (by decide +kernel)]
  refine r_putFR (b := 75) dX5_init_19 pfX5_15 rfl (BK_obj (x := (5, 3)) (by decide) rfl) (by decide) rfl ?_
  dsimp only
  rw [putB_BK (j := 73) rfl]
  refine r_aload_n dX5_init_22 rfl rfl ?_
  refine r_sipush (x := 1024) dX5_init_23 (by decide) (by decide) ?_
  refine r_newaI (len := 1024) dX5_init_26 arI rfl (by decide) (NK_zero (i := 76) (a := 76) (by decide +kernel)) (by rw [hcz]; exact Nat.le_of_ble_eq_true rfl) (by rw [hcu]; exact (show hu (BK 76 74) + 1024 ≤ 8081 by decide +kernel)) ?_
  dsimp only
  rw [newB_BK (k := 76) (j := 74) (x := (100, 1024)) rfl (by decide +kernel)]
  refine r_putFR (b := 76) dX5_init_28 pfX5_18 rfl (BK_obj (x := (5, 3)) (by decide) rfl) (by decide) rfl ?_
  dsimp only
  rw [putB_BK (j := 74) rfl]
  refine r_ret dX5_init_31 rfl ⟨⟨rfl, rfl⟩, rfl, ?_⟩
  exact (show hu (BK 77 75) = hu (BK 74 72) + 3072 by decide +kernel)
set_option maxRecDepth 20000 in
theorem in_X10_init_77 {w : WD} {d : Nat} : Ev w (d + 2) 2 40 mX10_init [vr 77] (BK 78 76, NK 76) (fun r h' => r = none ∧ h' = (BK 80 78, NK 81)) := by
  refine Ev.of (by decide +kernel) (Nat.le_of_ble_eq_true rfl) rfl (fun ho G hcz hcu => ?_)
  have hcz : gcz G = 80 := hcz
  have hcu : gcu G = 8124 := hcu.trans (show hu (BK 78 76) + 40 = 8124 by decide +kernel)
  refine r_aload_n dX10_init_0 rfl rfl ?_
  refine r_objInit dX10_init_1 kX10_3 (by decide) ?_
  refine r_aload_n dX10_init_4 rfl rfl ?_
  refine r_new (ci := 7) (nf := 4) dX10_init_5 nwRX10_9 ⟨_, rfl, rfl⟩ tyf7 (NK_zero (i := 76) (a := 78) (by decide +kernel)) (by rw [hcz]; exact Nat.le_of_ble_eq_true rfl) (by rw [hcu]; exact (show hu (BK 78 76) + 4 ≤ 8124 by decide +kernel)) ?_
  dsimp only
  rw [newB_BK (k := 78) (j := 76) (x := (7, 4)) rfl (by decide +kernel)]
  refine r_dup dX10_init_8 rfl ?_
  refine r_bipush (x := 12) dX10_init_9 (by decide) (by decide) ?_
  refine r_iconst (x := 3) dX10_init_11 rfl (by decide) ?_
  refine r_callI (mc := 1) (ms := 36) (a := 78) (args := [vi 12, vi 3]) (st := [vr 78, vr 77]) dX10_init_12 kX10_11 rfl rfl (Nat.le_of_ble_eq_true rfl) (fun _ _ => ⟨by rw [hcz]; exact Nat.le_of_ble_eq_true rfl, by rw [hcu]; exact (show hu (BK 79 76) + 36 ≤ 8124 by decide +kernel)⟩) ?_
  refine Ev.mono (Ev.deep (by omega) (tK (d := d) (a := 78) (j := 76) (i := 76) (L := 36) (W := 3) (R := 12) rfl rfl rfl (by decide +kernel) (by decide) (by decide) rfl (by decide) (by decide +kernel) rfl rfl rfl)) (fun r h' y => ?_)
  obtain ⟨y1, y2⟩ := y
  subst y1 y2
  refine r_putFR (b := 78) dX10_init_15 pfX10_14 rfl (BK_obj (x := (10, 3)) (by decide) rfl) (by decide) rfl ?_
  dsimp only
  rw [putB_BK (j := 77) rfl]
  refine r_aload_n dX10_init_18 rfl rfl ?_
  refine r_iconst (x := 0) dX10_init_19 rfl (by decide) ?_
  refine r_putZ (h' := (BK 80 78, upn (NK 79) 77 1 0)) dX10_init_20 pX10_20 (BK_obj (x := (10, 3)) (by decide) rfl) (by decide) rfl rfl (by decide) rfl ?_
  rw [upn_NK (i := 79) rfl]
  refine r_aload_n dX10_init_23 rfl rfl ?_
  refine r_iconst (x := 0) dX10_init_24 rfl (by decide) ?_
  refine r_putI (h' := (BK 80 78, upn (NK 80) 77 2 0)) dX10_init_25 pX10_24 (BK_obj (x := (10, 3)) (by decide) rfl) (by decide) rfl rfl rfl ?_
  rw [upn_NK (i := 80) rfl]
  refine r_ret dX10_init_28 rfl ⟨⟨rfl, rfl⟩, rfl, ?_⟩
  exact (show hu (BK 80 78) = hu (BK 78 76) + 40 by decide +kernel)
set_option maxRecDepth 20000 in
theorem in_X11_init_0 {w : WD} {d : Nat} : Ev w (d + 5) 144 11641 mX11_init [vr 0] (BK 1 0, NK 0) (fun r h' => r = none ∧ h' = (BK 145 144, NK 192)) := by
  refine Ev.of (by decide +kernel) (Nat.le_of_ble_eq_true rfl) rfl (fun ho G hcz hcu => ?_)
  have hcz : gcz G = 145 := hcz
  have hcu : gcu G = 11654 := hcu.trans (show hu (BK 1 0) + 11641 = 11654 by decide +kernel)
  refine r_aload_n dX11_init_0 rfl rfl ?_
  refine r_objInit dX11_init_1 kX11_1 (by decide) ?_
  refine r_aload_n dX11_init_4 rfl rfl ?_
  refine r_new (ci := 1) (nf := 14) dX11_init_5 nwRX11_7 ⟨_, rfl, rfl⟩ tyf1 (NK_zero (i := 0) (a := 1) (by decide +kernel)) (by rw [hcz]; exact Nat.le_of_ble_eq_true rfl) (by rw [hcu]; exact (show hu (BK 1 0) + 14 ≤ 11654 by decide +kernel)) ?_
  dsimp only
  rw [newB_BK (k := 1) (j := 0) (x := (1, 14)) rfl (by decide +kernel)]
  refine r_dup dX11_init_8 rfl ?_
  refine r_callI (mc := 31) (ms := 1749) (a := 1) (args := []) (st := [vr 1, vr 0]) dX11_init_9 kX11_9 rfl rfl (Nat.le_of_ble_eq_true rfl) (fun _ _ => ⟨by rw [hcz]; exact Nat.le_of_ble_eq_true rfl, by rw [hcu]; exact (show hu (BK 2 0) + 1749 ≤ 11654 by decide +kernel)⟩) ?_
  refine Ev.mono (Ev.deep (by omega) (in_X1_init_1 (d := d))) (fun r h' y => ?_)
  obtain ⟨y1, y2⟩ := y
  subst y1 y2
  refine r_putFR (b := 1) dX11_init_12 pfX11_10 rfl (BK_obj (x := (11, 13)) (by decide) rfl) (by decide) rfl ?_
  dsimp only
  rw [putB_BK (j := 31) rfl]
  refine r_aload_n dX11_init_15 rfl rfl ?_
  refine r_iconst (x := 2) dX11_init_16 rfl (by decide) ?_
  refine r_anew (len := 2) (c := 0) (Cn := "LakeWatch$Lake") dX11_init_17 (gT_in (by decide +kernel) (by decide +kernel)) (Or.inl ⟨rfl, rfl⟩) rfl (by decide) (NK_zero (i := 54) (a := 33) (by decide +kernel)) (by rw [hcz]; exact Nat.le_of_ble_eq_true rfl) (by rw [hcu]; exact (show hu (BK 33 32) + 2 ≤ 11654 by decide +kernel)) ?_
  dsimp only
  rw [newB_BK (k := 33) (j := 32) (x := (103, 2)) rfl (by decide +kernel)]
  refine r_putFR (b := 33) dX11_init_20 pfX11_16 rfl (BK_obj (x := (11, 13)) (by decide) rfl) (by decide) rfl ?_
  dsimp only
  rw [putB_BK (j := 32) rfl]
  refine r_aload_n dX11_init_23 rfl rfl ?_
  refine r_iconst (x := 2) dX11_init_24 rfl (by decide) ?_
  refine r_newaZ (len := 2) dX11_init_25 arZ rfl (by decide) (NK_zero (i := 54) (a := 34) (by decide +kernel)) (by rw [hcz]; exact Nat.le_of_ble_eq_true rfl) (by rw [hcu]; exact (show hu (BK 34 33) + 2 ≤ 11654 by decide +kernel)) ?_
  dsimp only
  rw [newB_BK (k := 34) (j := 33) (x := (102, 2)) rfl (by decide +kernel)]
  refine r_putFR (b := 34) dX11_init_27 pfX11_20 rfl (BK_obj (x := (11, 13)) (by decide) rfl) (by decide) rfl ?_
  dsimp only
  rw [putB_BK (j := 33) rfl]
  refine r_aload_n dX11_init_30 rfl rfl ?_
  refine r_new (ci := 8) (nf := 2) dX11_init_31 nwRX11_24 ⟨_, rfl, rfl⟩ tyf8 (NK_zero (i := 54) (a := 35) (by decide +kernel)) (by rw [hcz]; exact Nat.le_of_ble_eq_true rfl) (by rw [hcu]; exact (show hu (BK 35 34) + 2 ≤ 11654 by decide +kernel)) ?_
  dsimp only
  rw [newB_BK (k := 35) (j := 34) (x := (8, 2)) rfl (by decide +kernel)]
  refine r_dup dX11_init_34 rfl ?_
  refine r_callIN (mc := 1) (ms := 400) (a := 35) (args := []) (st := [vr 35, vr 0]) dX11_init_35 kX11_26 rfl rfl (Nat.le_of_ble_eq_true rfl) (fun _ _ => ⟨by rw [hcz]; exact Nat.le_of_ble_eq_true rfl, by rw [hcu]; exact (show hu (BK 36 34) + 400 ≤ 11654 by decide +kernel)⟩) ?_
  refine Ev.mono (Ev.deep (by omega) (in_X8_init_35 (d := d))) (fun r h' y => ?_)
  obtain ⟨y1, y2⟩ := y
  subst y1 y2
  refine r_putFR (b := 35) dX11_init_38 pfX11_27 rfl (BK_obj (x := (11, 13)) (by decide) rfl) (by decide) rfl ?_
  dsimp only
  rw [putB_BK (j := 35) rfl]
  refine r_aload_n dX11_init_41 rfl rfl ?_
  refine r_new (ci := 3) (nf := 5) dX11_init_42 nwRX11_31 ⟨_, rfl, rfl⟩ tyf3 (NK_zero (i := 55) (a := 37) (by decide +kernel)) (by rw [hcz]; exact Nat.le_of_ble_eq_true rfl) (by rw [hcu]; exact (show hu (BK 37 36) + 5 ≤ 11654 by decide +kernel)) ?_
  dsimp only
  rw [newB_BK (k := 37) (j := 36) (x := (3, 5)) rfl (by decide +kernel)]
  refine r_dup dX11_init_45 rfl ?_
  refine r_callIN (mc := 9) (ms := 2063) (a := 37) (args := []) (st := [vr 37, vr 0]) dX11_init_46 kX11_33 rfl rfl (Nat.le_of_ble_eq_true rfl) (fun _ _ => ⟨by rw [hcz]; exact Nat.le_of_ble_eq_true rfl, by rw [hcu]; exact (show hu (BK 38 36) + 2063 ≤ 11654 by decide +kernel)⟩) ?_
  refine Ev.mono (Ev.deep (by omega) (in_X3_init_37 (d := d))) (fun r h' y => ?_)
  obtain ⟨y1, y2⟩ := y
  subst y1 y2
  refine r_putFR (b := 37) dX11_init_49 pfX11_34 rfl (BK_obj (x := (11, 13)) (by decide) rfl) (by decide) rfl ?_
  dsimp only
  rw [putB_BK (j := 45) rfl]
  refine r_aload_n dX11_init_52 rfl rfl ?_
  refine r_new (ci := 0) (nf := 6) dX11_init_53 nwRX11_38 ⟨_, rfl, rfl⟩ tyf0 (NK_zero (i := 63) (a := 47) (by decide +kernel)) (by rw [hcz]; exact Nat.le_of_ble_eq_true rfl) (by rw [hcu]; exact (show hu (BK 47 46) + 6 ≤ 11654 by decide +kernel)) ?_
  dsimp only
  rw [newB_BK (k := 47) (j := 46) (x := (0, 6)) rfl (by decide +kernel)]
  refine r_dup dX11_init_56 rfl ?_
  refine r_callIN (mc := 3) (ms := 79) (a := 47) (args := []) (st := [vr 47, vr 0]) dX11_init_57 kX11_40 rfl rfl (Nat.le_of_ble_eq_true rfl) (fun _ _ => ⟨by rw [hcz]; exact Nat.le_of_ble_eq_true rfl, by rw [hcu]; exact (show hu (BK 48 46) + 79 ≤ 11654 by decide +kernel)⟩) ?_
  refine Ev.mono (Ev.deep (by omega) (in_X0_init_47 (d := d))) (fun r h' y => ?_)
  obtain ⟨y1, y2⟩ := y
  subst y1 y2
  refine r_putFR (b := 47) dX11_init_60 pfX11_41 rfl (BK_obj (x := (11, 13)) (by decide) rfl) (by decide) rfl ?_
  dsimp only
  rw [putB_BK (j := 49) rfl]
  refine r_aload_n dX11_init_63 rfl rfl ?_
  refine r_new (ci := 6) (nf := 5) dX11_init_64 nwRX11_45 ⟨_, rfl, rfl⟩ tyf6 (NK_zero (i := 66) (a := 51) (by decide +kernel)) (by rw [hcz]; exact Nat.le_of_ble_eq_true rfl) (by rw [hcu]; exact (show hu (BK 51 50) + 5 ≤ 11654 by decide +kernel)) ?_
  dsimp only
  rw [newB_BK (k := 51) (j := 50) (x := (6, 5)) rfl (by decide +kernel)]
  refine r_dup dX11_init_67 rfl ?_
  refine r_callI (mc := 21) (ms := 666) (a := 51) (args := []) (st := [vr 51, vr 0]) dX11_init_68 kX11_47 rfl rfl (Nat.le_of_ble_eq_true rfl) (fun _ _ => ⟨by rw [hcz]; exact Nat.le_of_ble_eq_true rfl, by rw [hcu]; exact (show hu (BK 52 50) + 666 ≤ 11654 by decide +kernel)⟩) ?_
  refine Ev.mono (Ev.deep (by omega) (in_X6_init_51 (d := d))) (fun r h' y => ?_)
  obtain ⟨y1, y2⟩ := y
  subst y1 y2
  refine r_putFR (b := 51) dX11_init_71 pfX11_48 rfl (BK_obj (x := (11, 13)) (by decide) rfl) (by decide) rfl ?_
  dsimp only
  rw [putB_BK (j := 71) rfl]
  refine r_aload_n dX11_init_74 rfl rfl ?_
  refine r_new (ci := 5) (nf := 3) dX11_init_75 nwRX11_52 ⟨_, rfl, rfl⟩ tyf5 (NK_zero (i := 76) (a := 73) (by decide +kernel)) (by rw [hcz]; exact Nat.le_of_ble_eq_true rfl) (by rw [hcu]; exact (show hu (BK 73 72) + 3 ≤ 11654 by decide +kernel)) ?_
  dsimp only
  rw [newB_BK (k := 73) (j := 72) (x := (5, 3)) rfl (by decide +kernel)]
  refine r_dup dX11_init_78 rfl ?_
  refine r_callIN (mc := 3) (ms := 3072) (a := 73) (args := []) (st := [vr 73, vr 0]) dX11_init_79 kX11_54 rfl rfl (Nat.le_of_ble_eq_true rfl) (fun _ _ => ⟨by rw [hcz]; exact Nat.le_of_ble_eq_true rfl, by rw [hcu]; exact (show hu (BK 74 72) + 3072 ≤ 11654 by decide +kernel)⟩) ?_
  refine Ev.mono (Ev.deep (by omega) (in_X5_init_73 (d := d))) (fun r h' y => ?_)
  obtain ⟨y1, y2⟩ := y
  subst y1 y2
  refine r_putFR (b := 73) dX11_init_82 pfX11_55 rfl (BK_obj (x := (11, 13)) (by decide) rfl) (by decide) rfl ?_
  dsimp only
  rw [putB_BK (j := 75) rfl]
  refine r_aload_n dX11_init_85 rfl rfl ?_
  refine r_new (ci := 10) (nf := 3) dX11_init_86 nwRX11_59 ⟨_, rfl, rfl⟩ tyf10 (NK_zero (i := 76) (a := 77) (by decide +kernel)) (by rw [hcz]; exact Nat.le_of_ble_eq_true rfl) (by rw [hcu]; exact (show hu (BK 77 76) + 3 ≤ 11654 by decide +kernel)) ?_
  dsimp only
  rw [newB_BK (k := 77) (j := 76) (x := (10, 3)) rfl (by decide +kernel)]
  refine r_dup dX11_init_89 rfl ?_
  refine r_callIN (mc := 2) (ms := 40) (a := 77) (args := []) (st := [vr 77, vr 0]) dX11_init_90 kX11_61 rfl rfl (Nat.le_of_ble_eq_true rfl) (fun _ _ => ⟨by rw [hcz]; exact Nat.le_of_ble_eq_true rfl, by rw [hcu]; exact (show hu (BK 78 76) + 40 ≤ 11654 by decide +kernel)⟩) ?_
  refine Ev.mono (Ev.deep (by omega) (in_X10_init_77 (d := d))) (fun r h' y => ?_)
  obtain ⟨y1, y2⟩ := y
  subst y1 y2
  refine r_putFR (b := 77) dX11_init_93 pfX11_62 rfl (BK_obj (x := (11, 13)) (by decide) rfl) (by decide) rfl ?_
  dsimp only
  rw [putB_BK (j := 78) rfl]
  refine r_aload_n dX11_init_96 rfl rfl ?_
  refine r_iconst (x := 4) dX11_init_97 rfl (by decide) ?_
  refine r_newaI (len := 4) dX11_init_98 arI rfl (by decide) (NK_zero (i := 81) (a := 80) (by decide +kernel)) (by rw [hcz]; exact Nat.le_of_ble_eq_true rfl) (by rw [hcu]; exact (show hu (BK 80 79) + 4 ≤ 11654 by decide +kernel)) ?_
  dsimp only
  rw [newB_BK (k := 80) (j := 79) (x := (100, 4)) rfl (by decide +kernel)]
  refine r_putFR (b := 80) dX11_init_100 pfX11_66 rfl (BK_obj (x := (11, 13)) (by decide) rfl) (by decide) rfl ?_
  dsimp only
  rw [putB_BK (j := 79) rfl]
  refine r_aload_n dX11_init_103 rfl rfl ?_
  refine r_iconst (x := 0) dX11_init_104 rfl (by decide) ?_
  refine r_putI (h' := (BK 81 80, upn (NK 81) 0 10 0)) dX11_init_105 pX11_70 (BK_obj (x := (11, 13)) (by decide) rfl) (by decide) rfl rfl rfl ?_
  rw [upn_NK (i := 81) rfl]
  refine r_aload_n dX11_init_108 rfl rfl ?_
  refine r_iconst (x := (-1)) dX11_init_109 rfl (by decide) ?_
  refine r_putI (h' := (BK 81 80, upn (NK 82) 0 11 (-1))) dX11_init_110 pX11_74 (BK_obj (x := (11, 13)) (by decide) rfl) (by decide) rfl rfl rfl ?_
  rw [upn_NK (i := 82) rfl]
  refine r_aload_n dX11_init_113 rfl rfl ?_
  refine r_iconst (x := 0) dX11_init_114 rfl (by decide) ?_
  refine r_putI (h' := (BK 81 80, upn (NK 83) 0 12 0)) dX11_init_115 pX11_77 (BK_obj (x := (11, 13)) (by decide) rfl) (by decide) rfl rfl rfl ?_
  rw [upn_NK (i := 83) rfl]
  refine r_iconst (x := 0) dX11_init_118 rfl (by decide) ?_
  refine r_istore_n (ls' := [(0, vr 0), (1, vi 0)]) dX11_init_119 rfl (Nat.le_of_ble_eq_true rfl) rfl ?_
  refine r_iload_n dX11_init_120 rfl rfl ?_
  refine r_iconst (x := 2) dX11_init_121 rfl (by decide) ?_
  refine r_jge (tgt := 144) dX11_init_122 rfl (fun c => absurd c (by decide)) (fun _ => ?_)
  refine r_aload_n dX11_init_125 rfl rfl ?_
  refine r_getR (b := 33) dX11_init_126 fX11_16 (BK_obj (x := (11, 13)) (by decide) rfl) (by decide) rfl (show rf (BK 81 80) 0 1 = some 33 by decide +kernel) ?_
  refine r_iload_n dX11_init_129 rfl rfl ?_
  refine r_new (ci := 1) (nf := 14) dX11_init_130 nwRX11_7 ⟨_, rfl, rfl⟩ tyf1 (NK_zero (i := 84) (a := 81) (by decide +kernel)) (by rw [hcz]; exact Nat.le_of_ble_eq_true rfl) (by rw [hcu]; exact (show hu (BK 81 80) + 14 ≤ 11654 by decide +kernel)) ?_
  dsimp only
  rw [newB_BK (k := 81) (j := 80) (x := (1, 14)) rfl (by decide +kernel)]
  refine r_dup dX11_init_133 rfl ?_
  refine r_callI (mc := 31) (ms := 1749) (a := 81) (args := []) (st := [vr 81, vi 0, vr 33]) dX11_init_134 kX11_9 rfl rfl (Nat.le_of_ble_eq_true rfl) (fun _ _ => ⟨by rw [hcz]; exact Nat.le_of_ble_eq_true rfl, by rw [hcu]; exact (show hu (BK 82 80) + 1749 ≤ 11654 by decide +kernel)⟩) ?_
  refine Ev.mono (Ev.deep (by omega) (in_X1_init_81 (d := d))) (fun r h' y => ?_)
  obtain ⟨y1, y2⟩ := y
  subst y1 y2
  refine r_aast (c := 0) (len := 2) (ci := 1) (nf := 14) (Cn := "LakeWatch$Lake") dX11_init_137 (BK_obj (x := (103, 2)) (by decide) rfl) (BK_obj (x := (1, 14)) (by decide) rfl) (by decide) (Or.inl ⟨rfl, rfl⟩) ⟨_, rfl, rfl⟩ (by decide) (by decide) ?_
  dsimp only
  rw [show ((0 : Int)).toNat = 0 from rfl, putB_BK (j := 111) rfl]
  refine r_iinc (y := 1) (ls' := [(0, vr 0), (1, vi 1)]) dX11_init_138 rfl rfl (by decide) (Nat.le_of_ble_eq_true rfl) rfl ?_
  refine r_goto (tgt := 120) dX11_init_141 rfl ?_
  refine r_iload_n dX11_init_120 rfl rfl ?_
  refine r_iconst (x := 2) dX11_init_121 rfl (by decide) ?_
  refine r_jge (tgt := 144) dX11_init_122 rfl (fun c => absurd c (by decide)) (fun _ => ?_)
  refine r_aload_n dX11_init_125 rfl rfl ?_
  refine r_getR (b := 33) dX11_init_126 fX11_16 (BK_obj (x := (11, 13)) (by decide) rfl) (by decide) rfl (show rf (BK 113 112) 0 1 = some 33 by decide +kernel) ?_
  refine r_iload_n dX11_init_129 rfl rfl ?_
  refine r_new (ci := 1) (nf := 14) dX11_init_130 nwRX11_7 ⟨_, rfl, rfl⟩ tyf1 (NK_zero (i := 138) (a := 113) (by decide +kernel)) (by rw [hcz]; exact Nat.le_of_ble_eq_true rfl) (by rw [hcu]; exact (show hu (BK 113 112) + 14 ≤ 11654 by decide +kernel)) ?_
  dsimp only
  rw [newB_BK (k := 113) (j := 112) (x := (1, 14)) rfl (by decide +kernel)]
  refine r_dup dX11_init_133 rfl ?_
  refine r_callI (mc := 31) (ms := 1749) (a := 113) (args := []) (st := [vr 113, vi 1, vr 33]) dX11_init_134 kX11_9 rfl rfl (Nat.le_of_ble_eq_true rfl) (fun _ _ => ⟨by rw [hcz]; exact Nat.le_of_ble_eq_true rfl, by rw [hcu]; exact (show hu (BK 114 112) + 1749 ≤ 11654 by decide +kernel)⟩) ?_
  refine Ev.mono (Ev.deep (by omega) (in_X1_init_113 (d := d))) (fun r h' y => ?_)
  obtain ⟨y1, y2⟩ := y
  subst y1 y2
  refine r_aast (c := 0) (len := 2) (ci := 1) (nf := 14) (Cn := "LakeWatch$Lake") dX11_init_137 (BK_obj (x := (103, 2)) (by decide) rfl) (BK_obj (x := (1, 14)) (by decide) rfl) (by decide) (Or.inl ⟨rfl, rfl⟩) ⟨_, rfl, rfl⟩ (by decide) (by decide) ?_
  dsimp only
  rw [show ((1 : Int)).toNat = 1 from rfl, putB_BK (j := 143) rfl]
  refine r_iinc (y := 2) (ls' := [(0, vr 0), (1, vi 2)]) dX11_init_138 rfl rfl (by decide) (Nat.le_of_ble_eq_true rfl) rfl ?_
  refine r_goto (tgt := 120) dX11_init_141 rfl ?_
  refine r_iload_n dX11_init_120 rfl rfl ?_
  refine r_iconst (x := 2) dX11_init_121 rfl (by decide) ?_
  refine r_jge (tgt := 144) dX11_init_122 rfl (fun _ => ?_) (fun c => absurd c (by decide))
  refine r_ret dX11_init_144 rfl ⟨⟨rfl, rfl⟩, rfl, ?_⟩
  exact (show hu (BK 145 144) = hu (BK 1 0) + 11641 by decide +kernel)
end INITS
