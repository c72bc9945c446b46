section LAKEA
theorem in_X1_init_1 {w : WD} {d : Nat} : Ev w (d + 4) 31 1749 mX1_init [vr 1] (BK 2 0, NK 0) (fun r h' => r = none ∧ h' = (BK 33 31, NK 54)) := by
  refine Ev.of (by decide +kernel) (Nat.le_of_ble_eq_true rfl) rfl (fun ho G hcz hcu => ?_)
  have hcz : gcz G = 33 := hcz
  have hcu : gcu G = 1776 := hcu.trans (show hu (BK 2 0) + 1749 = 1776 by decide +kernel)
  refine r_aload_n dX1_init_0 rfl rfl ?_
  refine r_objInit dX1_init_1 kX1_3 (by decide) ?_
  refine r_aload_n dX1_init_4 rfl rfl ?_
  refine r_new (ci := 7) (nf := 4) dX1_init_5 nwRX1_9 ⟨_, rfl, rfl⟩ tyf7 (NK_zero (by decide +kernel)) (by rw [hcz]; exact Nat.le_of_ble_eq_true rfl) (by rw [hcu]; exact (show hu (BK 2 0) + 4 ≤ 1776 by decide +kernel)) ?_
  dsimp only
  rw [newB_BK (k := 2) (j := 0) (x := (7, 4)) rfl (by decide +kernel)]
  refine r_dup dX1_init_8 rfl ?_
  refine r_bipush (x := 60) dX1_init_9 (by decide) (by decide) ?_
  refine r_iconst (x := 3) dX1_init_11 rfl (by decide) ?_
  refine r_callI (mc := 1) (ms := 180) (a := 2) (args := [vi 60, vi 3]) (st := [vr 2, vr 1]) dX1_init_12 kX1_11 rfl rfl (Nat.le_of_ble_eq_true rfl) (fun _ _ => ⟨by rw [hcz]; exact Nat.le_of_ble_eq_true rfl, by rw [hcu]; exact (show hu (BK 3 0) + 180 ≤ 1776 by decide +kernel)⟩) ?_
  refine Ev.mono (Ev.deep (by omega) (tK (d := d) (a := 2) (j := 0) (i := 0) (L := 180) (W := 3) (R := 60) rfl rfl rfl (by decide +kernel) (by decide) (by decide) rfl (by decide) (by decide +kernel) rfl rfl rfl)) (fun r h' y => ?_)
  obtain ⟨y1, y2⟩ := y
  subst y1 y2
  refine r_putFR (b := 2) dX1_init_15 pfX1_14 rfl (BK_obj (x := (1, 14)) (by decide) rfl) (by decide) rfl ?_
  dsimp only
  rw [putB_BK (j := 1) rfl]
  refine r_aload_n dX1_init_18 rfl rfl ?_
  refine r_new (ci := 7) (nf := 4) dX1_init_19 nwRX1_9 ⟨_, rfl, rfl⟩ tyf7 (NK_zero (by decide +kernel)) (by rw [hcz]; exact Nat.le_of_ble_eq_true rfl) (by rw [hcu]; exact (show hu (BK 4 2) + 4 ≤ 1776 by decide +kernel)) ?_
  dsimp only
  rw [newB_BK (k := 4) (j := 2) (x := (7, 4)) rfl (by decide +kernel)]
  refine r_dup dX1_init_22 rfl ?_
  refine r_bipush (x := 12) dX1_init_23 (by decide) (by decide) ?_
  refine r_iconst (x := 4) dX1_init_25 rfl (by decide) ?_
  refine r_callI (mc := 1) (ms := 48) (a := 4) (args := [vi 12, vi 4]) (st := [vr 4, vr 1]) dX1_init_26 kX1_11 rfl rfl (Nat.le_of_ble_eq_true rfl) (fun _ _ => ⟨by rw [hcz]; exact Nat.le_of_ble_eq_true rfl, by rw [hcu]; exact (show hu (BK 5 2) + 48 ≤ 1776 by decide +kernel)⟩) ?_
  refine Ev.mono (Ev.deep (by omega) (tK (d := d) (a := 4) (j := 2) (i := 3) (L := 48) (W := 4) (R := 12) rfl rfl rfl (by decide +kernel) (by decide) (by decide) rfl (by decide) (by decide +kernel) rfl rfl rfl)) (fun r h' y => ?_)
  obtain ⟨y1, y2⟩ := y
  subst y1 y2
  refine r_putFR (b := 4) dX1_init_29 pfX1_20 rfl (BK_obj (x := (1, 14)) (by decide) rfl) (by decide) rfl ?_
  dsimp only
  rw [putB_BK (j := 3) rfl]
  refine r_aload_n dX1_init_32 rfl rfl ?_
  refine r_new (ci := 7) (nf := 4) dX1_init_33 nwRX1_9 ⟨_, rfl, rfl⟩ tyf7 (NK_zero (by decide +kernel)) (by rw [hcz]; exact Nat.le_of_ble_eq_true rfl) (by rw [hcu]; exact (show hu (BK 6 4) + 4 ≤ 1776 by decide +kernel)) ?_
  dsimp only
  rw [newB_BK (k := 6) (j := 4) (x := (7, 4)) rfl (by decide +kernel)]
  refine r_dup dX1_init_36 rfl ?_
  refine r_bipush (x := 12) dX1_init_37 (by decide) (by decide) ?_
  refine r_iconst (x := 4) dX1_init_39 rfl (by decide) ?_
  refine r_callI (mc := 1) (ms := 48) (a := 6) (args := [vi 12, vi 4]) (st := [vr 6, vr 1]) dX1_init_40 kX1_11 rfl rfl (Nat.le_of_ble_eq_true rfl) (fun _ _ => ⟨by rw [hcz]; exact Nat.le_of_ble_eq_true rfl, by rw [hcu]; exact (show hu (BK 7 4) + 48 ≤ 1776 by decide +kernel)⟩) ?_
  refine Ev.mono (Ev.deep (by omega) (tK (d := d) (a := 6) (j := 4) (i := 6) (L := 48) (W := 4) (R := 12) rfl rfl rfl (by decide +kernel) (by decide) (by decide) rfl (by decide) (by decide +kernel) rfl rfl rfl)) (fun r h' y => ?_)
  obtain ⟨y1, y2⟩ := y
  subst y1 y2
  refine r_putFR (b := 6) dX1_init_43 pfX1_23 rfl (BK_obj (x := (1, 14)) (by decide) rfl) (by decide) rfl ?_
  dsimp only
  rw [putB_BK (j := 5) rfl]
  refine r_aload_n dX1_init_46 rfl rfl ?_
  refine r_new (ci := 7) (nf := 4) dX1_init_47 nwRX1_9 ⟨_, rfl, rfl⟩ tyf7 (NK_zero (by decide +kernel)) (by rw [hcz]; exact Nat.le_of_ble_eq_true rfl) (by rw [hcu]; exact (show hu (BK 8 6) + 4 ≤ 1776 by decide +kernel)) ?_
  dsimp only
  rw [newB_BK (k := 8) (j := 6) (x := (7, 4)) rfl (by decide +kernel)]
  refine r_dup dX1_init_50 rfl ?_
  refine r_bipush (x := 12) dX1_init_51 (by decide) (by decide) ?_
  refine r_iconst (x := 2) dX1_init_53 rfl (by decide) ?_
  refine r_callI (mc := 1) (ms := 24) (a := 8) (args := [vi 12, vi 2]) (st := [vr 8, vr 1]) dX1_init_54 kX1_11 rfl rfl (Nat.le_of_ble_eq_true rfl) (fun _ _ => ⟨by rw [hcz]; exact Nat.le_of_ble_eq_true rfl, by rw [hcu]; exact (show hu (BK 9 6) + 24 ≤ 1776 by decide +kernel)⟩) ?_
  refine Ev.mono (Ev.deep (by omega) (tK (d := d) (a := 8) (j := 6) (i := 9) (L := 24) (W := 2) (R := 12) rfl rfl rfl (by decide +kernel) (by decide) (by decide) rfl (by decide) (by decide +kernel) rfl rfl rfl)) (fun r h' y => ?_)
  obtain ⟨y1, y2⟩ := y
  subst y1 y2
  refine r_putFR (b := 8) dX1_init_57 pfX1_26 rfl (BK_obj (x := (1, 14)) (by decide) rfl) (by decide) rfl ?_
  dsimp only
  rw [putB_BK (j := 7) rfl]
  refine r_aload_n dX1_init_60 rfl rfl ?_
  refine r_new (ci := 7) (nf := 4) dX1_init_61 nwRX1_9 ⟨_, rfl, rfl⟩ tyf7 (NK_zero (by decide +kernel)) (by rw [hcz]; exact Nat.le_of_ble_eq_true rfl) (by rw [hcu]; exact (show hu (BK 10 8) + 4 ≤ 1776 by decide +kernel)) ?_
  dsimp only
  rw [newB_BK (k := 10) (j := 8) (x := (7, 4)) rfl (by decide +kernel)]
  refine r_dup dX1_init_64 rfl ?_
  refine r_bipush (x := 12) dX1_init_65 (by decide) (by decide) ?_
  refine r_iconst (x := 1) dX1_init_67 rfl (by decide) ?_
  refine r_callI (mc := 1) (ms := 12) (a := 10) (args := [vi 12, vi 1]) (st := [vr 10, vr 1]) dX1_init_68 kX1_11 rfl rfl (Nat.le_of_ble_eq_true rfl) (fun _ _ => ⟨by rw [hcz]; exact Nat.le_of_ble_eq_true rfl, by rw [hcu]; exact (show hu (BK 11 8) + 12 ≤ 1776 by decide +kernel)⟩) ?_
  refine Ev.mono (Ev.deep (by omega) (tK (d := d) (a := 10) (j := 8) (i := 12) (L := 12) (W := 1) (R := 12) rfl rfl rfl (by decide +kernel) (by decide) (by decide) rfl (by decide) (by decide +kernel) rfl rfl rfl)) (fun r h' y => ?_)
  obtain ⟨y1, y2⟩ := y
  subst y1 y2
  refine r_putFR (b := 10) dX1_init_71 pfX1_29 rfl (BK_obj (x := (1, 14)) (by decide) rfl) (by decide) rfl ?_
  dsimp only
  rw [putB_BK (j := 9) rfl]
  refine r_aload_n dX1_init_74 rfl rfl ?_
  refine r_new (ci := 7) (nf := 4) dX1_init_75 nwRX1_9 ⟨_, rfl, rfl⟩ tyf7 (NK_zero (by decide +kernel)) (by rw [hcz]; exact Nat.le_of_ble_eq_true rfl) (by rw [hcu]; exact (show hu (BK 12 10) + 4 ≤ 1776 by decide +kernel)) ?_
  dsimp only
  rw [newB_BK (k := 12) (j := 10) (x := (7, 4)) rfl (by decide +kernel)]
  refine r_dup dX1_init_78 rfl ?_
  refine r_bipush (x := 20) dX1_init_79 (by decide) (by decide) ?_
  refine r_iconst (x := 3) dX1_init_81 rfl (by decide) ?_
  refine r_callI (mc := 1) (ms := 60) (a := 12) (args := [vi 20, vi 3]) (st := [vr 12, vr 1]) dX1_init_82 kX1_11 rfl rfl (Nat.le_of_ble_eq_true rfl) (fun _ _ => ⟨by rw [hcz]; exact Nat.le_of_ble_eq_true rfl, by rw [hcu]; exact (show hu (BK 13 10) + 60 ≤ 1776 by decide +kernel)⟩) ?_
  refine Ev.mono (Ev.deep (by omega) (tK (d := d) (a := 12) (j := 10) (i := 15) (L := 60) (W := 3) (R := 20) rfl rfl rfl (by decide +kernel) (by decide) (by decide) rfl (by decide) (by decide +kernel) rfl rfl rfl)) (fun r h' y => ?_)
  obtain ⟨y1, y2⟩ := y
  subst y1 y2
  refine r_putFR (b := 12) dX1_init_85 pfX1_32 rfl (BK_obj (x := (1, 14)) (by decide) rfl) (by decide) rfl ?_
  dsimp only
  rw [putB_BK (j := 11) rfl]
  refine r_aload_n dX1_init_88 rfl rfl ?_
  refine r_new (ci := 7) (nf := 4) dX1_init_89 nwRX1_9 ⟨_, rfl, rfl⟩ tyf7 (NK_zero (by decide +kernel)) (by rw [hcz]; exact Nat.le_of_ble_eq_true rfl) (by rw [hcu]; exact (show hu (BK 14 12) + 4 ≤ 1776 by decide +kernel)) ?_
  dsimp only
  rw [newB_BK (k := 14) (j := 12) (x := (7, 4)) rfl (by decide +kernel)]
  refine r_dup dX1_init_92 rfl ?_
  refine r_bipush (x := 40) dX1_init_93 (by decide) (by decide) ?_
  refine r_bipush (x := 7) dX1_init_95 (by decide) (by decide) ?_
  refine r_callI (mc := 1) (ms := 280) (a := 14) (args := [vi 40, vi 7]) (st := [vr 14, vr 1]) dX1_init_97 kX1_11 rfl rfl (Nat.le_of_ble_eq_true rfl) (fun _ _ => ⟨by rw [hcz]; exact Nat.le_of_ble_eq_true rfl, by rw [hcu]; exact (show hu (BK 15 12) + 280 ≤ 1776 by decide +kernel)⟩) ?_
  refine Ev.mono (Ev.deep (by omega) (tK (d := d) (a := 14) (j := 12) (i := 18) (L := 280) (W := 7) (R := 40) rfl rfl rfl (by decide +kernel) (by decide) (by decide) rfl (by decide) (by decide +kernel) rfl rfl rfl)) (fun r h' y => ?_)
  obtain ⟨y1, y2⟩ := y
  subst y1 y2
  refine r_putFR (b := 14) dX1_init_100 pfX1_35 rfl (BK_obj (x := (1, 14)) (by decide) rfl) (by decide) rfl ?_
  dsimp only
  rw [putB_BK (j := 13) rfl]
  refine r_aload_n dX1_init_103 rfl rfl ?_
  refine r_new (ci := 2) (nf := 4) dX1_init_104 nwRX1_38 ⟨_, rfl, rfl⟩ tyf2 (NK_zero (by decide +kernel)) (by rw [hcz]; exact Nat.le_of_ble_eq_true rfl) (by rw [hcu]; exact (show hu (BK 16 14) + 4 ≤ 1776 by decide +kernel)) ?_
  dsimp only
  rw [newB_BK (k := 16) (j := 14) (x := (2, 4)) rfl (by decide +kernel)]
  refine r_dup dX1_init_107 rfl ?_
  refine r_callIN (mc := 4) (ms := 852) (a := 16) (args := []) (st := [vr 16, vr 1]) dX1_init_108 kX1_40 rfl rfl (Nat.le_of_ble_eq_true rfl) (fun _ _ => ⟨by rw [hcz]; exact Nat.le_of_ble_eq_true rfl, by rw [hcu]; exact (show hu (BK 17 14) + 852 ≤ 1776 by decide +kernel)⟩) ?_
  refine Ev.mono (Ev.deep (by omega) (lK (d := d) (a := 16) (j := 14) (i := 21) rfl rfl rfl rfl rfl rfl rfl rfl rfl (by decide +kernel) (by decide +kernel) (by decide +kernel) (by decide +kernel) rfl rfl rfl rfl)) (fun r h' y => ?_)
  obtain ⟨y1, y2⟩ := y
  subst y1 y2
  refine r_putFR (b := 16) dX1_init_111 pfX1_41 rfl (BK_obj (x := (1, 14)) (by decide) rfl) (by decide) rfl ?_
  dsimp only
  rw [putB_BK (j := 18) rfl]
  refine r_aload_n dX1_init_114 rfl rfl ?_
  refine r_new (ci := 7) (nf := 4) dX1_init_115 nwRX1_9 ⟨_, rfl, rfl⟩ tyf7 (NK_zero (by decide +kernel)) (by rw [hcz]; exact Nat.le_of_ble_eq_true rfl) (by rw [hcu]; exact (show hu (BK 21 19) + 4 ≤ 1776 by decide +kernel)) ?_
  dsimp only
  rw [newB_BK (k := 21) (j := 19) (x := (7, 4)) rfl (by decide +kernel)]
  refine r_dup dX1_init_118 rfl ?_
  refine r_bipush (x := 6) dX1_init_119 (by decide) (by decide) ?_
  refine r_iconst (x := 3) dX1_init_121 rfl (by decide) ?_
  refine r_callI (mc := 1) (ms := 18) (a := 21) (args := [vi 6, vi 3]) (st := [vr 21, vr 1]) dX1_init_122 kX1_11 rfl rfl (Nat.le_of_ble_eq_true rfl) (fun _ _ => ⟨by rw [hcz]; exact Nat.le_of_ble_eq_true rfl, by rw [hcu]; exact (show hu (BK 22 19) + 18 ≤ 1776 by decide +kernel)⟩) ?_
  refine Ev.mono (Ev.deep (by omega) (tK (d := d) (a := 21) (j := 19) (i := 25) (L := 18) (W := 3) (R := 6) rfl rfl rfl (by decide +kernel) (by decide) (by decide) rfl (by decide) (by decide +kernel) rfl rfl rfl)) (fun r h' y => ?_)
  obtain ⟨y1, y2⟩ := y
  subst y1 y2
  refine r_putFR (b := 21) dX1_init_125 pfX1_45 rfl (BK_obj (x := (1, 14)) (by decide) rfl) (by decide) rfl ?_
  dsimp only
  rw [putB_BK (j := 20) rfl]
  refine r_aload_n dX1_init_128 rfl rfl ?_
  refine r_new (ci := 7) (nf := 4) dX1_init_129 nwRX1_9 ⟨_, rfl, rfl⟩ tyf7 (NK_zero (by decide +kernel)) (by rw [hcz]; exact Nat.le_of_ble_eq_true rfl) (by rw [hcu]; exact (show hu (BK 23 21) + 4 ≤ 1776 by decide +kernel)) ?_
  dsimp only
  rw [newB_BK (k := 23) (j := 21) (x := (7, 4)) rfl (by decide +kernel)]
  refine r_dup dX1_init_132 rfl ?_
  refine r_bipush (x := 12) dX1_init_133 (by decide) (by decide) ?_
  refine r_iconst (x := 4) dX1_init_135 rfl (by decide) ?_
  refine r_callI (mc := 1) (ms := 48) (a := 23) (args := [vi 12, vi 4]) (st := [vr 23, vr 1]) dX1_init_136 kX1_11 rfl rfl (Nat.le_of_ble_eq_true rfl) (fun _ _ => ⟨by rw [hcz]; exact Nat.le_of_ble_eq_true rfl, by rw [hcu]; exact (show hu (BK 24 21) + 48 ≤ 1776 by decide +kernel)⟩) ?_
  refine Ev.mono (Ev.deep (by omega) (tK (d := d) (a := 23) (j := 21) (i := 28) (L := 48) (W := 4) (R := 12) rfl rfl rfl (by decide +kernel) (by decide) (by decide) rfl (by decide) (by decide +kernel) rfl rfl rfl)) (fun r h' y => ?_)
  obtain ⟨y1, y2⟩ := y
  subst y1 y2
  refine r_putFR (b := 23) dX1_init_139 pfX1_48 rfl (BK_obj (x := (1, 14)) (by decide) rfl) (by decide) rfl ?_
  dsimp only
  rw [putB_BK (j := 22) rfl]
  refine r_aload_n dX1_init_142 rfl rfl ?_
  refine r_new (ci := 7) (nf := 4) dX1_init_143 nwRX1_9 ⟨_, rfl, rfl⟩ tyf7 (NK_zero (by decide +kernel)) (by rw [hcz]; exact Nat.le_of_ble_eq_true rfl) (by rw [hcu]; exact (show hu (BK 25 23) + 4 ≤ 1776 by decide +kernel)) ?_
  dsimp only
  rw [newB_BK (k := 25) (j := 23) (x := (7, 4)) rfl (by decide +kernel)]
  refine r_dup dX1_init_146 rfl ?_
  refine r_bipush (x := 10) dX1_init_147 (by decide) (by decide) ?_
  refine r_iconst (x := 4) dX1_init_149 rfl (by decide) ?_
  refine r_callI (mc := 1) (ms := 40) (a := 25) (args := [vi 10, vi 4]) (st := [vr 25, vr 1]) dX1_init_150 kX1_11 rfl rfl (Nat.le_of_ble_eq_true rfl) (fun _ _ => ⟨by rw [hcz]; exact Nat.le_of_ble_eq_true rfl, by rw [hcu]; exact (show hu (BK 26 23) + 40 ≤ 1776 by decide +kernel)⟩) ?_
  refine Ev.mono (Ev.deep (by omega) (tK (d := d) (a := 25) (j := 23) (i := 31) (L := 40) (W := 4) (R := 10) rfl rfl rfl (by decide +kernel) (by decide) (by decide) rfl (by decide) (by decide +kernel) rfl rfl rfl)) (fun r h' y => ?_)
  obtain ⟨y1, y2⟩ := y
  subst y1 y2
  refine r_putFR (b := 25) dX1_init_153 pfX1_51 rfl (BK_obj (x := (1, 14)) (by decide) rfl) (by decide) rfl ?_
  dsimp only
  rw [putB_BK (j := 24) rfl]
  refine r_aload_n dX1_init_156 rfl rfl ?_
  refine r_new (ci := 7) (nf := 4) dX1_init_157 nwRX1_9 ⟨_, rfl, rfl⟩ tyf7 (NK_zero (by decide +kernel)) (by rw [hcz]; exact Nat.le_of_ble_eq_true rfl) (by rw [hcu]; exact (show hu (BK 27 25) + 4 ≤ 1776 by decide +kernel)) ?_
  dsimp only
  rw [newB_BK (k := 27) (j := 25) (x := (7, 4)) rfl (by decide +kernel)]
  refine r_dup dX1_init_160 rfl ?_
  refine r_bipush (x := 30) dX1_init_161 (by decide) (by decide) ?_
  refine r_iconst (x := 2) dX1_init_163 rfl (by decide) ?_
  refine r_callI (mc := 1) (ms := 60) (a := 27) (args := [vi 30, vi 2]) (st := [vr 27, vr 1]) dX1_init_164 kX1_11 rfl rfl (Nat.le_of_ble_eq_true rfl) (fun _ _ => ⟨by rw [hcz]; exact Nat.le_of_ble_eq_true rfl, by rw [hcu]; exact (show hu (BK 28 25) + 60 ≤ 1776 by decide +kernel)⟩) ?_
  refine Ev.mono (Ev.deep (by omega) (tK (d := d) (a := 27) (j := 25) (i := 34) (L := 60) (W := 2) (R := 30) rfl rfl rfl (by decide +kernel) (by decide) (by decide) rfl (by decide) (by decide +kernel) rfl rfl rfl)) (fun r h' y => ?_)
  obtain ⟨y1, y2⟩ := y
  subst y1 y2
  refine r_putFR (b := 27) dX1_init_167 pfX1_54 rfl (BK_obj (x := (1, 14)) (by decide) rfl) (by decide) rfl ?_
  dsimp only
  rw [putB_BK (j := 26) rfl]
  refine r_aload_n dX1_init_170 rfl rfl ?_
  refine r_new (ci := 7) (nf := 4) dX1_init_171 nwRX1_9 ⟨_, rfl, rfl⟩ tyf7 (NK_zero (by decide +kernel)) (by rw [hcz]; exact Nat.le_of_ble_eq_true rfl) (by rw [hcu]; exact (show hu (BK 29 27) + 4 ≤ 1776 by decide +kernel)) ?_
  dsimp only
  rw [newB_BK (k := 29) (j := 27) (x := (7, 4)) rfl (by decide +kernel)]
  refine r_dup dX1_init_174 rfl ?_
  refine r_bipush (x := 10) dX1_init_175 (by decide) (by decide) ?_
  refine r_iconst (x := 2) dX1_init_177 rfl (by decide) ?_
  refine r_callI (mc := 1) (ms := 20) (a := 29) (args := [vi 10, vi 2]) (st := [vr 29, vr 1]) dX1_init_178 kX1_11 rfl rfl (Nat.le_of_ble_eq_true rfl) (fun _ _ => ⟨by rw [hcz]; exact Nat.le_of_ble_eq_true rfl, by rw [hcu]; exact (show hu (BK 30 27) + 20 ≤ 1776 by decide +kernel)⟩) ?_
  refine Ev.mono (Ev.deep (by omega) (tK (d := d) (a := 29) (j := 27) (i := 37) (L := 20) (W := 2) (R := 10) rfl rfl rfl (by decide +kernel) (by decide) (by decide) rfl (by decide) (by decide +kernel) rfl rfl rfl)) (fun r h' y => ?_)
  obtain ⟨y1, y2⟩ := y
  subst y1 y2
  refine r_putFR (b := 29) dX1_init_181 pfX1_57 rfl (BK_obj (x := (1, 14)) (by decide) rfl) (by decide) rfl ?_
  dsimp only
  rw [putB_BK (j := 28) rfl]
  refine r_aload_n dX1_init_184 rfl rfl ?_
  refine r_new (ci := 7) (nf := 4) dX1_init_185 nwRX1_9 ⟨_, rfl, rfl⟩ tyf7 (NK_zero (by decide +kernel)) (by rw [hcz]; exact Nat.le_of_ble_eq_true rfl) (by rw [hcu]; exact (show hu (BK 31 29) + 4 ≤ 1776 by decide +kernel)) ?_
  dsimp only
  rw [newB_BK (k := 31) (j := 29) (x := (7, 4)) rfl (by decide +kernel)]
  refine r_dup dX1_init_188 rfl ?_
  refine r_iconst (x := 1) dX1_init_189 rfl (by decide) ?_
  refine r_iconst (x := 3) dX1_init_190 rfl (by decide) ?_
  refine r_callI (mc := 1) (ms := 3) (a := 31) (args := [vi 1, vi 3]) (st := [vr 31, vr 1]) dX1_init_191 kX1_11 rfl rfl (Nat.le_of_ble_eq_true rfl) (fun _ _ => ⟨by rw [hcz]; exact Nat.le_of_ble_eq_true rfl, by rw [hcu]; exact (show hu (BK 32 29) + 3 ≤ 1776 by decide +kernel)⟩) ?_
  refine Ev.mono (Ev.deep (by omega) (tK (d := d) (a := 31) (j := 29) (i := 40) (L := 3) (W := 3) (R := 1) rfl rfl rfl (by decide +kernel) (by decide) (by decide) rfl (by decide) (by decide +kernel) rfl rfl rfl)) (fun r h' y => ?_)
  obtain ⟨y1, y2⟩ := y
  subst y1 y2
  refine r_putFR (b := 31) dX1_init_194 pfX1_60 rfl (BK_obj (x := (1, 14)) (by decide) rfl) (by decide) rfl ?_
  dsimp only
  rw [putB_BK (j := 30) rfl]
  refine r_aload_n dX1_init_197 rfl rfl ?_
  refine r_getR (b := 2) dX1_init_198 fX1_14 (BK_obj (x := (1, 14)) (by decide) rfl) (by decide) rfl (show rf (BK 33 31) 1 0 = some 2 by decide +kernel) ?_
  refine r_bipush (x := 60) dX1_init_201 (by decide) (by decide) ?_
  refine r_iconst (x := 0) dX1_init_203 rfl (by decide) ?_
  refine r_callV (mc := 0) (ms := 0) (ci := 7) (nf := 4) (a := 2) (args := [vi 60, vi 0]) (st := []) dX1_init_204 kX1_63 (BK_obj (x := (7, 4)) (by decide) rfl) ⟨_, _, rfl⟩ (by decide) rfl rfl (by decide) (fun a b => ⟨a, b⟩) ?_
  refine Ev.mono (Ev.deep (by omega) (fK (d := d) (t := 2) (c := 3) (i := 43) (L := 180) (R := 60) (v := 0) (BK_obj (x := (7, 4)) (by decide) rfl) (show rf (BK 33 31) 2 0 = some 3 by decide +kernel) (BK_obj (x := (100, 180)) (by decide) rfl) (by decide +kernel) (by decide) (by decide) rfl rfl)) (fun r h' y => ?_)
  obtain ⟨y1, y2⟩ := y
  subst y1 y2
  refine r_aload_n dX1_init_207 rfl rfl ?_
  refine r_getR (b := 27) dX1_init_208 fX1_54 (BK_obj (x := (1, 14)) (by decide) rfl) (by decide) rfl (show rf (BK 33 31) 1 11 = some 27 by decide +kernel) ?_
  refine r_bipush (x := 30) dX1_init_211 (by decide) (by decide) ?_
  refine r_iconst (x := 0) dX1_init_213 rfl (by decide) ?_
  refine r_callV (mc := 0) (ms := 0) (ci := 7) (nf := 4) (a := 27) (args := [vi 30, vi 0]) (st := []) dX1_init_214 kX1_63 (BK_obj (x := (7, 4)) (by decide) rfl) ⟨_, _, rfl⟩ (by decide) rfl rfl (by decide) (fun a b => ⟨a, b⟩) ?_
  refine Ev.mono (Ev.deep (by omega) (fK (d := d) (t := 27) (c := 28) (i := 45) (L := 60) (R := 30) (v := 0) (BK_obj (x := (7, 4)) (by decide) rfl) (show rf (BK 33 31) 27 0 = some 28 by decide +kernel) (BK_obj (x := (100, 60)) (by decide) rfl) (by decide +kernel) (by decide) (by decide) rfl rfl)) (fun r h' y => ?_)
  obtain ⟨y1, y2⟩ := y
  subst y1 y2
  refine r_aload_n dX1_init_217 rfl rfl ?_
  refine r_getR (b := 29) dX1_init_218 fX1_57 (BK_obj (x := (1, 14)) (by decide) rfl) (by decide) rfl (show rf (BK 33 31) 1 12 = some 29 by decide +kernel) ?_
  refine r_bipush (x := 10) dX1_init_221 (by decide) (by decide) ?_
  refine r_iconst (x := 1) dX1_init_223 rfl (by decide) ?_
  refine r_callV (mc := 0) (ms := 0) (ci := 7) (nf := 4) (a := 29) (args := [vi 10, vi 1]) (st := []) dX1_init_224 kX1_63 (BK_obj (x := (7, 4)) (by decide) rfl) ⟨_, _, rfl⟩ (by decide) rfl rfl (by decide) (fun a b => ⟨a, b⟩) ?_
  refine Ev.mono (Ev.deep (by omega) (fK (d := d) (t := 29) (c := 30) (i := 47) (L := 20) (R := 10) (v := 1) (BK_obj (x := (7, 4)) (by decide) rfl) (show rf (BK 33 31) 29 0 = some 30 by decide +kernel) (BK_obj (x := (100, 20)) (by decide) rfl) (by decide +kernel) (by decide) (by decide) rfl rfl)) (fun r h' y => ?_)
  obtain ⟨y1, y2⟩ := y
  subst y1 y2
  refine r_aload_n dX1_init_227 rfl rfl ?_
  refine r_getR (b := 31) dX1_init_228 fX1_60 (BK_obj (x := (1, 14)) (by decide) rfl) (by decide) rfl (show rf (BK 33 31) 1 13 = some 31 by decide +kernel) ?_
  refine r_iconst (x := 1) dX1_init_231 rfl (by decide) ?_
  refine r_iconst (x := 0) dX1_init_232 rfl (by decide) ?_
  refine r_callV (mc := 0) (ms := 0) (ci := 7) (nf := 4) (a := 31) (args := [vi 1, vi 0]) (st := []) dX1_init_233 kX1_63 (BK_obj (x := (7, 4)) (by decide) rfl) ⟨_, _, rfl⟩ (by decide) rfl rfl (by decide) (fun a b => ⟨a, b⟩) ?_
  refine Ev.mono (Ev.deep (by omega) (fK (d := d) (t := 31) (c := 32) (i := 49) (L := 3) (R := 1) (v := 0) (BK_obj (x := (7, 4)) (by decide) rfl) (show rf (BK 33 31) 31 0 = some 32 by decide +kernel) (BK_obj (x := (100, 3)) (by decide) rfl) (by decide +kernel) (by decide) (by decide) rfl rfl)) (fun r h' y => ?_)
  obtain ⟨y1, y2⟩ := y
  subst y1 y2
  refine r_aload_n dX1_init_236 rfl rfl ?_
  refine r_getR (b := 31) dX1_init_237 fX1_60 (BK_obj (x := (1, 14)) (by decide) rfl) (by decide) rfl (show rf (BK 33 31) 1 13 = some 31 by decide +kernel) ?_
  refine r_iconst (x := 0) dX1_init_240 rfl (by decide) ?_
  refine r_iconst (x := 0) dX1_init_241 rfl (by decide) ?_
  refine r_iconst (x := 2) dX1_init_242 rfl (by decide) ?_
  refine r_callV (mc := 0) (ms := 0) (ci := 7) (nf := 4) (a := 31) (args := [vi 0, vi 0, vi 2]) (st := []) dX1_init_243 kX1_66 (BK_obj (x := (7, 4)) (by decide) rfl) ⟨_, _, rfl⟩ (by decide) rfl rfl (by decide) (fun a b => ⟨a, b⟩) ?_
  refine Ev.mono (Ev.deep (by omega) (sK (d := d) (t := 31) (c := 32) (i := 51) (L := 3) (W := 3) (R := 1) (x := 0) (y := 0) (v := 2) (q := 0) (BK_obj (x := (7, 4)) (by decide) rfl) (show rf (BK 33 31) 31 0 = some 32 by decide +kernel) (BK_obj (x := (100, 3)) (by decide) rfl) (by decide +kernel) (by decide +kernel) (by decide +kernel) (by decide +kernel) rfl (by decide) (by decide) (by decide +kernel) (by decide) (by decide) rfl rfl)) (fun r h' y => ?_)
  obtain ⟨y1, y2⟩ := y
  subst y1 y2
  refine r_aload_n dX1_init_246 rfl rfl ?_
  refine r_getR (b := 31) dX1_init_247 fX1_60 (BK_obj (x := (1, 14)) (by decide) rfl) (by decide) rfl (show rf (BK 33 31) 1 13 = some 31 by decide +kernel) ?_
  refine r_iconst (x := 0) dX1_init_250 rfl (by decide) ?_
  refine r_iconst (x := 1) dX1_init_251 rfl (by decide) ?_
  refine r_bipush (x := 100) dX1_init_252 (by decide) (by decide) ?_
  refine r_callV (mc := 0) (ms := 0) (ci := 7) (nf := 4) (a := 31) (args := [vi 0, vi 1, vi 100]) (st := []) dX1_init_254 kX1_66 (BK_obj (x := (7, 4)) (by decide) rfl) ⟨_, _, rfl⟩ (by decide) rfl rfl (by decide) (fun a b => ⟨a, b⟩) ?_
  refine Ev.mono (Ev.deep (by omega) (sK (d := d) (t := 31) (c := 32) (i := 52) (L := 3) (W := 3) (R := 1) (x := 0) (y := 1) (v := 100) (q := 1) (BK_obj (x := (7, 4)) (by decide) rfl) (show rf (BK 33 31) 31 0 = some 32 by decide +kernel) (BK_obj (x := (100, 3)) (by decide) rfl) (by decide +kernel) (by decide +kernel) (by decide +kernel) (by decide +kernel) rfl (by decide) (by decide) (by decide +kernel) (by decide) (by decide) rfl rfl)) (fun r h' y => ?_)
  obtain ⟨y1, y2⟩ := y
  subst y1 y2
  refine r_aload_n dX1_init_257 rfl rfl ?_
  refine r_getR (b := 31) dX1_init_258 fX1_60 (BK_obj (x := (1, 14)) (by decide) rfl) (by decide) rfl (show rf (BK 33 31) 1 13 = some 31 by decide +kernel) ?_
  refine r_iconst (x := 0) dX1_init_261 rfl (by decide) ?_
  refine r_iconst (x := 2) dX1_init_262 rfl (by decide) ?_
  refine r_iconst (x := 1) dX1_init_263 rfl (by decide) ?_
  refine r_callV (mc := 0) (ms := 0) (ci := 7) (nf := 4) (a := 31) (args := [vi 0, vi 2, vi 1]) (st := []) dX1_init_264 kX1_66 (BK_obj (x := (7, 4)) (by decide) rfl) ⟨_, _, rfl⟩ (by decide) rfl rfl (by decide) (fun a b => ⟨a, b⟩) ?_
  refine Ev.mono (Ev.deep (by omega) (sK (d := d) (t := 31) (c := 32) (i := 53) (L := 3) (W := 3) (R := 1) (x := 0) (y := 2) (v := 1) (q := 2) (BK_obj (x := (7, 4)) (by decide) rfl) (show rf (BK 33 31) 31 0 = some 32 by decide +kernel) (BK_obj (x := (100, 3)) (by decide) rfl) (by decide +kernel) (by decide +kernel) (by decide +kernel) (by decide +kernel) rfl (by decide) (by decide) (by decide +kernel) (by decide) (by decide) rfl rfl)) (fun r h' y => ?_)
  obtain ⟨y1, y2⟩ := y
  subst y1 y2
  refine r_ret dX1_init_267 rfl ⟨⟨rfl, rfl⟩, rfl, ?_⟩
  exact (show hu (BK 33 31) = hu (BK 2 0) + 1749 by decide +kernel)
end LAKEA
