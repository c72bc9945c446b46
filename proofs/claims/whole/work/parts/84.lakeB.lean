section LAKEB
set_option maxRecDepth 20000 in
theorem in_X1_init_81 {w : WD} {d : Nat} : Ev w (d + 4) 31 1749 mX1_init [vr 81] (BK 82 80, NK 84) (fun r h' => r = none ∧ h' = (BK 113 111, NK 138)) := by
  refine Ev.of (by decide +kernel) (Nat.le_of_ble_eq_true rfl) rfl (fun ho G hcz hcu => ?_)
  have hcz : gcz G = 113 := hcz
  have hcu : gcu G = 9891 := hcu.trans (show hu (BK 82 80) + 1749 = 9891 by decide +kernel)
  refine r_aload_n dX1_init_0 rfl rfl ?_
  refine r_objInit dX1_init_1 kX1_3 (by decide) ?_
  refine r_aload_n dX1_init_4 rfl rfl ?_
  refine r_new (ci := 7) (nf := 4) dX1_init_5 nwRX1_9 ⟨_, rfl, rfl⟩ tyf7 (NK_zero (i := 84) (a := 82) (by decide +kernel)) (by rw [hcz]; exact Nat.le_of_ble_eq_true rfl) (by rw [hcu]; exact (show hu (BK 82 80) + 4 ≤ 9891 by decide +kernel)) ?_
  dsimp only
  rw [newB_BK (k := 82) (j := 80) (x := (7, 4)) rfl (by decide +kernel)]
  refine r_dup dX1_init_8 rfl ?_
  refine r_bipush (x := 60) dX1_init_9 (by decide) (by decide) ?_
  refine r_iconst (x := 3) dX1_init_11 rfl (by decide) ?_
  refine r_callI (mc := 1) (ms := 180) (a := 82) (args := [vi 60, vi 3]) (st := [vr 82, vr 81]) dX1_init_12 kX1_11 rfl rfl (Nat.le_of_ble_eq_true rfl) (fun _ _ => ⟨by rw [hcz]; exact Nat.le_of_ble_eq_true rfl, by rw [hcu]; exact (show hu (BK 83 80) + 180 ≤ 9891 by decide +kernel)⟩) ?_
  refine Ev.mono (Ev.deep (by omega) (tK (d := d) (a := 82) (j := 80) (i := 84) (L := 180) (W := 3) (R := 60) rfl rfl rfl (by decide +kernel) (by decide) (by decide) rfl (by decide) (by decide +kernel) rfl rfl rfl)) (fun r h' y => ?_)
  obtain ⟨y1, y2⟩ := y
  subst y1 y2
  refine r_putFR (b := 82) dX1_init_15 pfX1_14 rfl (BK_obj (x := (1, 14)) (by decide) rfl) (by decide) rfl ?_
  dsimp only
  rw [putB_BK (j := 81) rfl]
  refine r_aload_n dX1_init_18 rfl rfl ?_
  refine r_new (ci := 7) (nf := 4) dX1_init_19 nwRX1_9 ⟨_, rfl, rfl⟩ tyf7 (NK_zero (i := 87) (a := 84) (by decide +kernel)) (by rw [hcz]; exact Nat.le_of_ble_eq_true rfl) (by rw [hcu]; exact (show hu (BK 84 82) + 4 ≤ 9891 by decide +kernel)) ?_
  dsimp only
  rw [newB_BK (k := 84) (j := 82) (x := (7, 4)) rfl (by decide +kernel)]
  refine r_dup dX1_init_22 rfl ?_
  refine r_bipush (x := 12) dX1_init_23 (by decide) (by decide) ?_
  refine r_iconst (x := 4) dX1_init_25 rfl (by decide) ?_
  refine r_callI (mc := 1) (ms := 48) (a := 84) (args := [vi 12, vi 4]) (st := [vr 84, vr 81]) dX1_init_26 kX1_11 rfl rfl (Nat.le_of_ble_eq_true rfl) (fun _ _ => ⟨by rw [hcz]; exact Nat.le_of_ble_eq_true rfl, by rw [hcu]; exact (show hu (BK 85 82) + 48 ≤ 9891 by decide +kernel)⟩) ?_
  refine Ev.mono (Ev.deep (by omega) (tK (d := d) (a := 84) (j := 82) (i := 87) (L := 48) (W := 4) (R := 12) rfl rfl rfl (by decide +kernel) (by decide) (by decide) rfl (by decide) (by decide +kernel) rfl rfl rfl)) (fun r h' y => ?_)
  obtain ⟨y1, y2⟩ := y
  subst y1 y2
  refine r_putFR (b := 84) dX1_init_29 pfX1_20 rfl (BK_obj (x := (1, 14)) (by decide) rfl) (by decide) rfl ?_
  dsimp only
  rw [putB_BK (j := 83) rfl]
  refine r_aload_n dX1_init_32 rfl rfl ?_
  refine r_new (ci := 7) (nf := 4) dX1_init_33 nwRX1_9 ⟨_, rfl, rfl⟩ tyf7 (NK_zero (i := 90) (a := 86) (by decide +kernel)) (by rw [hcz]; exact Nat.le_of_ble_eq_true rfl) (by rw [hcu]; exact (show hu (BK 86 84) + 4 ≤ 9891 by decide +kernel)) ?_
  dsimp only
  rw [newB_BK (k := 86) (j := 84) (x := (7, 4)) rfl (by decide +kernel)]
  refine r_dup dX1_init_36 rfl ?_
  refine r_bipush (x := 12) dX1_init_37 (by decide) (by decide) ?_
  refine r_iconst (x := 4) dX1_init_39 rfl (by decide) ?_
  refine r_callI (mc := 1) (ms := 48) (a := 86) (args := [vi 12, vi 4]) (st := [vr 86, vr 81]) dX1_init_40 kX1_11 rfl rfl (Nat.le_of_ble_eq_true rfl) (fun _ _ => ⟨by rw [hcz]; exact Nat.le_of_ble_eq_true rfl, by rw [hcu]; exact (show hu (BK 87 84) + 48 ≤ 9891 by decide +kernel)⟩) ?_
  refine Ev.mono (Ev.deep (by omega) (tK (d := d) (a := 86) (j := 84) (i := 90) (L := 48) (W := 4) (R := 12) rfl rfl rfl (by decide +kernel) (by decide) (by decide) rfl (by decide) (by decide +kernel) rfl rfl rfl)) (fun r h' y => ?_)
  obtain ⟨y1, y2⟩ := y
  subst y1 y2
  refine r_putFR (b := 86) dX1_init_43 pfX1_23 rfl (BK_obj (x := (1, 14)) (by decide) rfl) (by decide) rfl ?_
  dsimp only
  rw [putB_BK (j := 85) rfl]
  refine r_aload_n dX1_init_46 rfl rfl ?_
  refine r_new (ci := 7) (nf := 4) dX1_init_47 nwRX1_9 ⟨_, rfl, rfl⟩ tyf7 (NK_zero (i := 93) (a := 88) (by decide +kernel)) (by rw [hcz]; exact Nat.le_of_ble_eq_true rfl) (by rw [hcu]; exact (show hu (BK 88 86) + 4 ≤ 9891 by decide +kernel)) ?_
  dsimp only
  rw [newB_BK (k := 88) (j := 86) (x := (7, 4)) rfl (by decide +kernel)]
  refine r_dup dX1_init_50 rfl ?_
  refine r_bipush (x := 12) dX1_init_51 (by decide) (by decide) ?_
  refine r_iconst (x := 2) dX1_init_53 rfl (by decide) ?_
  refine r_callI (mc := 1) (ms := 24) (a := 88) (args := [vi 12, vi 2]) (st := [vr 88, vr 81]) dX1_init_54 kX1_11 rfl rfl (Nat.le_of_ble_eq_true rfl) (fun _ _ => ⟨by rw [hcz]; exact Nat.le_of_ble_eq_true rfl, by rw [hcu]; exact (show hu (BK 89 86) + 24 ≤ 9891 by decide +kernel)⟩) ?_
  refine Ev.mono (Ev.deep (by omega) (tK (d := d) (a := 88) (j := 86) (i := 93) (L := 24) (W := 2) (R := 12) rfl rfl rfl (by decide +kernel) (by decide) (by decide) rfl (by decide) (by decide +kernel) rfl rfl rfl)) (fun r h' y => ?_)
  obtain ⟨y1, y2⟩ := y
  subst y1 y2
  refine r_putFR (b := 88) dX1_init_57 pfX1_26 rfl (BK_obj (x := (1, 14)) (by decide) rfl) (by decide) rfl ?_
  dsimp only
  rw [putB_BK (j := 87) rfl]
  refine r_aload_n dX1_init_60 rfl rfl ?_
  refine r_new (ci := 7) (nf := 4) dX1_init_61 nwRX1_9 ⟨_, rfl, rfl⟩ tyf7 (NK_zero (i := 96) (a := 90) (by decide +kernel)) (by rw [hcz]; exact Nat.le_of_ble_eq_true rfl) (by rw [hcu]; exact (show hu (BK 90 88) + 4 ≤ 9891 by decide +kernel)) ?_
  dsimp only
  rw [newB_BK (k := 90) (j := 88) (x := (7, 4)) rfl (by decide +kernel)]
  refine r_dup dX1_init_64 rfl ?_
  refine r_bipush (x := 12) dX1_init_65 (by decide) (by decide) ?_
  refine r_iconst (x := 1) dX1_init_67 rfl (by decide) ?_
  refine r_callI (mc := 1) (ms := 12) (a := 90) (args := [vi 12, vi 1]) (st := [vr 90, vr 81]) dX1_init_68 kX1_11 rfl rfl (Nat.le_of_ble_eq_true rfl) (fun _ _ => ⟨by rw [hcz]; exact Nat.le_of_ble_eq_true rfl, by rw [hcu]; exact (show hu (BK 91 88) + 12 ≤ 9891 by decide +kernel)⟩) ?_
  refine Ev.mono (Ev.deep (by omega) (tK (d := d) (a := 90) (j := 88) (i := 96) (L := 12) (W := 1) (R := 12) rfl rfl rfl (by decide +kernel) (by decide) (by decide) rfl (by decide) (by decide +kernel) rfl rfl rfl)) (fun r h' y => ?_)
  obtain ⟨y1, y2⟩ := y
  subst y1 y2
  refine r_putFR (b := 90) dX1_init_71 pfX1_29 rfl (BK_obj (x := (1, 14)) (by decide) rfl) (by decide) rfl ?_
  dsimp only
  rw [putB_BK (j := 89) rfl]
  refine r_aload_n dX1_init_74 rfl rfl ?_
  refine r_new (ci := 7) (nf := 4) dX1_init_75 nwRX1_9 ⟨_, rfl, rfl⟩ tyf7 (NK_zero (i := 99) (a := 92) (by decide +kernel)) (by rw [hcz]; exact Nat.le_of_ble_eq_true rfl) (by rw [hcu]; exact (show hu (BK 92 90) + 4 ≤ 9891 by decide +kernel)) ?_
  dsimp only
  rw [newB_BK (k := 92) (j := 90) (x := (7, 4)) rfl (by decide +kernel)]
  refine r_dup dX1_init_78 rfl ?_
  refine r_bipush (x := 20) dX1_init_79 (by decide) (by decide) ?_
  refine r_iconst (x := 3) dX1_init_81 rfl (by decide) ?_
  refine r_callI (mc := 1) (ms := 60) (a := 92) (args := [vi 20, vi 3]) (st := [vr 92, vr 81]) dX1_init_82 kX1_11 rfl rfl (Nat.le_of_ble_eq_true rfl) (fun _ _ => ⟨by rw [hcz]; exact Nat.le_of_ble_eq_true rfl, by rw [hcu]; exact (show hu (BK 93 90) + 60 ≤ 9891 by decide +kernel)⟩) ?_
  refine Ev.mono (Ev.deep (by omega) (tK (d := d) (a := 92) (j := 90) (i := 99) (L := 60) (W := 3) (R := 20) rfl rfl rfl (by decide +kernel) (by decide) (by decide) rfl (by decide) (by decide +kernel) rfl rfl rfl)) (fun r h' y => ?_)
  obtain ⟨y1, y2⟩ := y
  subst y1 y2
  refine r_putFR (b := 92) dX1_init_85 pfX1_32 rfl (BK_obj (x := (1, 14)) (by decide) rfl) (by decide) rfl ?_
  dsimp only
  rw [putB_BK (j := 91) rfl]
  refine r_aload_n dX1_init_88 rfl rfl ?_
  refine r_new (ci := 7) (nf := 4) dX1_init_89 nwRX1_9 ⟨_, rfl, rfl⟩ tyf7 (NK_zero (i := 102) (a := 94) (by decide +kernel)) (by rw [hcz]; exact Nat.le_of_ble_eq_true rfl) (by rw [hcu]; exact (show hu (BK 94 92) + 4 ≤ 9891 by decide +kernel)) ?_
  dsimp only
  rw [newB_BK (k := 94) (j := 92) (x := (7, 4)) rfl (by decide +kernel)]
  refine r_dup dX1_init_92 rfl ?_
  refine r_bipush (x := 40) dX1_init_93 (by decide) (by decide) ?_
  refine r_bipush (x := 7) dX1_init_95 (by decide) (by decide) ?_
  refine r_callI (mc := 1) (ms := 280) (a := 94) (args := [vi 40, vi 7]) (st := [vr 94, vr 81]) dX1_init_97 kX1_11 rfl rfl (Nat.le_of_ble_eq_true rfl) (fun _ _ => ⟨by rw [hcz]; exact Nat.le_of_ble_eq_true rfl, by rw [hcu]; exact (show hu (BK 95 92) + 280 ≤ 9891 by decide +kernel)⟩) ?_
  refine Ev.mono (Ev.deep (by omega) (tK (d := d) (a := 94) (j := 92) (i := 102) (L := 280) (W := 7) (R := 40) rfl rfl rfl (by decide +kernel) (by decide) (by decide) rfl (by decide) (by decide +kernel) rfl rfl rfl)) (fun r h' y => ?_)
  obtain ⟨y1, y2⟩ := y
  subst y1 y2
  refine r_putFR (b := 94) dX1_init_100 pfX1_35 rfl (BK_obj (x := (1, 14)) (by decide) rfl) (by decide) rfl ?_
  dsimp only
  rw [putB_BK (j := 93) rfl]
  refine r_aload_n dX1_init_103 rfl rfl ?_
  refine r_new (ci := 2) (nf := 4) dX1_init_104 nwRX1_38 ⟨_, rfl, rfl⟩ tyf2 (NK_zero (i := 105) (a := 96) (by decide +kernel)) (by rw [hcz]; exact Nat.le_of_ble_eq_true rfl) (by rw [hcu]; exact (show hu (BK 96 94) + 4 ≤ 9891 by decide +kernel)) ?_
  dsimp only
  rw [newB_BK (k := 96) (j := 94) (x := (2, 4)) rfl (by decide +kernel)]
  refine r_dup dX1_init_107 rfl ?_
  refine r_callIN (mc := 4) (ms := 852) (a := 96) (args := []) (st := [vr 96, vr 81]) dX1_init_108 kX1_40 rfl rfl (Nat.le_of_ble_eq_true rfl) (fun _ _ => ⟨by rw [hcz]; exact Nat.le_of_ble_eq_true rfl, by rw [hcu]; exact (show hu (BK 97 94) + 852 ≤ 9891 by decide +kernel)⟩) ?_
  refine Ev.mono (Ev.deep (by omega) (lK (d := d) (a := 96) (j := 94) (i := 105) rfl rfl rfl rfl rfl rfl rfl rfl rfl (by decide +kernel) (by decide +kernel) (by decide +kernel) (by decide +kernel) rfl rfl rfl rfl)) (fun r h' y => ?_)
  obtain ⟨y1, y2⟩ := y
  subst y1 y2
  refine r_putFR (b := 96) dX1_init_111 pfX1_41 rfl (BK_obj (x := (1, 14)) (by decide) rfl) (by decide) rfl ?_
  dsimp only
  rw [putB_BK (j := 98) rfl]
  refine r_aload_n dX1_init_114 rfl rfl ?_
  refine r_new (ci := 7) (nf := 4) dX1_init_115 nwRX1_9 ⟨_, rfl, rfl⟩ tyf7 (NK_zero (i := 109) (a := 101) (by decide +kernel)) (by rw [hcz]; exact Nat.le_of_ble_eq_true rfl) (by rw [hcu]; exact (show hu (BK 101 99) + 4 ≤ 9891 by decide +kernel)) ?_
  dsimp only
  rw [newB_BK (k := 101) (j := 99) (x := (7, 4)) rfl (by decide +kernel)]
  refine r_dup dX1_init_118 rfl ?_
  refine r_bipush (x := 6) dX1_init_119 (by decide) (by decide) ?_
  refine r_iconst (x := 3) dX1_init_121 rfl (by decide) ?_
  refine r_callI (mc := 1) (ms := 18) (a := 101) (args := [vi 6, vi 3]) (st := [vr 101, vr 81]) dX1_init_122 kX1_11 rfl rfl (Nat.le_of_ble_eq_true rfl) (fun _ _ => ⟨by rw [hcz]; exact Nat.le_of_ble_eq_true rfl, by rw [hcu]; exact (show hu (BK 102 99) + 18 ≤ 9891 by decide +kernel)⟩) ?_
  refine Ev.mono (Ev.deep (by omega) (tK (d := d) (a := 101) (j := 99) (i := 109) (L := 18) (W := 3) (R := 6) rfl rfl rfl (by decide +kernel) (by decide) (by decide) rfl (by decide) (by decide +kernel) rfl rfl rfl)) (fun r h' y => ?_)
  obtain ⟨y1, y2⟩ := y
  subst y1 y2
  refine r_putFR (b := 101) dX1_init_125 pfX1_45 rfl (BK_obj (x := (1, 14)) (by decide) rfl) (by decide) rfl ?_
  dsimp only
  rw [putB_BK (j := 100) rfl]
  refine r_aload_n dX1_init_128 rfl rfl ?_
  refine r_new (ci := 7) (nf := 4) dX1_init_129 nwRX1_9 ⟨_, rfl, rfl⟩ tyf7 (NK_zero (i := 112) (a := 103) (by decide +kernel)) (by rw [hcz]; exact Nat.le_of_ble_eq_true rfl) (by rw [hcu]; exact (show hu (BK 103 101) + 4 ≤ 9891 by decide +kernel)) ?_
  dsimp only
  rw [newB_BK (k := 103) (j := 101) (x := (7, 4)) rfl (by decide +kernel)]
  refine r_dup dX1_init_132 rfl ?_
  refine r_bipush (x := 12) dX1_init_133 (by decide) (by decide) ?_
  refine r_iconst (x := 4) dX1_init_135 rfl (by decide) ?_
  refine r_callI (mc := 1) (ms := 48) (a := 103) (args := [vi 12, vi 4]) (st := [vr 103, vr 81]) dX1_init_136 kX1_11 rfl rfl (Nat.le_of_ble_eq_true rfl) (fun _ _ => ⟨by rw [hcz]; exact Nat.le_of_ble_eq_true rfl, by rw [hcu]; exact (show hu (BK 104 101) + 48 ≤ 9891 by decide +kernel)⟩) ?_
  refine Ev.mono (Ev.deep (by omega) (tK (d := d) (a := 103) (j := 101) (i := 112) (L := 48) (W := 4) (R := 12) rfl rfl rfl (by decide +kernel) (by decide) (by decide) rfl (by decide) (by decide +kernel) rfl rfl rfl)) (fun r h' y => ?_)
  obtain ⟨y1, y2⟩ := y
  subst y1 y2
  refine r_putFR (b := 103) dX1_init_139 pfX1_48 rfl (BK_obj (x := (1, 14)) (by decide) rfl) (by decide) rfl ?_
  dsimp only
  rw [putB_BK (j := 102) rfl]
  refine r_aload_n dX1_init_142 rfl rfl ?_
  refine r_new (ci := 7) (nf := 4) dX1_init_143 nwRX1_9 ⟨_, rfl, rfl⟩ tyf7 (NK_zero (i := 115) (a := 105) (by decide +kernel)) (by rw [hcz]; exact Nat.le_of_ble_eq_true rfl) (by rw [hcu]; exact (show hu (BK 105 103) + 4 ≤ 9891 by decide +kernel)) ?_
  dsimp only
  rw [newB_BK (k := 105) (j := 103) (x := (7, 4)) rfl (by decide +kernel)]
  refine r_dup dX1_init_146 rfl ?_
  refine r_bipush (x := 10) dX1_init_147 (by decide) (by decide) ?_
  refine r_iconst (x := 4) dX1_init_149 rfl (by decide) ?_
  refine r_callI (mc := 1) (ms := 40) (a := 105) (args := [vi 10, vi 4]) (st := [vr 105, vr 81]) dX1_init_150 kX1_11 rfl rfl (Nat.le_of_ble_eq_true rfl) (fun _ _ => ⟨by rw [hcz]; exact Nat.le_of_ble_eq_true rfl, by rw [hcu]; exact (show hu (BK 106 103) + 40 ≤ 9891 by decide +kernel)⟩) ?_
  refine Ev.mono (Ev.deep (by omega) (tK (d := d) (a := 105) (j := 103) (i := 115) (L := 40) (W := 4) (R := 10) rfl rfl rfl (by decide +kernel) (by decide) (by decide) rfl (by decide) (by decide +kernel) rfl rfl rfl)) (fun r h' y => ?_)
  obtain ⟨y1, y2⟩ := y
  subst y1 y2
  refine r_putFR (b := 105) dX1_init_153 pfX1_51 rfl (BK_obj (x := (1, 14)) (by decide) rfl) (by decide) rfl ?_
  dsimp only
  rw [putB_BK (j := 104) rfl]
  refine r_aload_n dX1_init_156 rfl rfl ?_
  refine r_new (ci := 7) (nf := 4) dX1_init_157 nwRX1_9 ⟨_, rfl, rfl⟩ tyf7 (NK_zero (i := 118) (a := 107) (by decide +kernel)) (by rw [hcz]; exact Nat.le_of_ble_eq_true rfl) (by rw [hcu]; exact (show hu (BK 107 105) + 4 ≤ 9891 by decide +kernel)) ?_
  dsimp only
  rw [newB_BK (k := 107) (j := 105) (x := (7, 4)) rfl (by decide +kernel)]
  refine r_dup dX1_init_160 rfl ?_
  refine r_bipush (x := 30) dX1_init_161 (by decide) (by decide) ?_
  refine r_iconst (x := 2) dX1_init_163 rfl (by decide) ?_
  refine r_callI (mc := 1) (ms := 60) (a := 107) (args := [vi 30, vi 2]) (st := [vr 107, vr 81]) dX1_init_164 kX1_11 rfl rfl (Nat.le_of_ble_eq_true rfl) (fun _ _ => ⟨by rw [hcz]; exact Nat.le_of_ble_eq_true rfl, by rw [hcu]; exact (show hu (BK 108 105) + 60 ≤ 9891 by decide +kernel)⟩) ?_
  refine Ev.mono (Ev.deep (by omega) (tK (d := d) (a := 107) (j := 105) (i := 118) (L := 60) (W := 2) (R := 30) rfl rfl rfl (by decide +kernel) (by decide) (by decide) rfl (by decide) (by decide +kernel) rfl rfl rfl)) (fun r h' y => ?_)
  obtain ⟨y1, y2⟩ := y
  subst y1 y2
  refine r_putFR (b := 107) dX1_init_167 pfX1_54 rfl (BK_obj (x := (1, 14)) (by decide) rfl) (by decide) rfl ?_
  dsimp only
  rw [putB_BK (j := 106) rfl]
  refine r_aload_n dX1_init_170 rfl rfl ?_
  refine r_new (ci := 7) (nf := 4) dX1_init_171 nwRX1_9 ⟨_, rfl, rfl⟩ tyf7 (NK_zero (i := 121) (a := 109) (by decide +kernel)) (by rw [hcz]; exact Nat.le_of_ble_eq_true rfl) (by rw [hcu]; exact (show hu (BK 109 107) + 4 ≤ 9891 by decide +kernel)) ?_
  dsimp only
  rw [newB_BK (k := 109) (j := 107) (x := (7, 4)) rfl (by decide +kernel)]
  refine r_dup dX1_init_174 rfl ?_
  refine r_bipush (x := 10) dX1_init_175 (by decide) (by decide) ?_
  refine r_iconst (x := 2) dX1_init_177 rfl (by decide) ?_
  refine r_callI (mc := 1) (ms := 20) (a := 109) (args := [vi 10, vi 2]) (st := [vr 109, vr 81]) dX1_init_178 kX1_11 rfl rfl (Nat.le_of_ble_eq_true rfl) (fun _ _ => ⟨by rw [hcz]; exact Nat.le_of_ble_eq_true rfl, by rw [hcu]; exact (show hu (BK 110 107) + 20 ≤ 9891 by decide +kernel)⟩) ?_
  refine Ev.mono (Ev.deep (by omega) (tK (d := d) (a := 109) (j := 107) (i := 121) (L := 20) (W := 2) (R := 10) rfl rfl rfl (by decide +kernel) (by decide) (by decide) rfl (by decide) (by decide +kernel) rfl rfl rfl)) (fun r h' y => ?_)
  obtain ⟨y1, y2⟩ := y
  subst y1 y2
  refine r_putFR (b := 109) dX1_init_181 pfX1_57 rfl (BK_obj (x := (1, 14)) (by decide) rfl) (by decide) rfl ?_
  dsimp only
  rw [putB_BK (j := 108) rfl]
  refine r_aload_n dX1_init_184 rfl rfl ?_
  refine r_new (ci := 7) (nf := 4) dX1_init_185 nwRX1_9 ⟨_, rfl, rfl⟩ tyf7 (NK_zero (i := 124) (a := 111) (by decide +kernel)) (by rw [hcz]; exact Nat.le_of_ble_eq_true rfl) (by rw [hcu]; exact (show hu (BK 111 109) + 4 ≤ 9891 by decide +kernel)) ?_
  dsimp only
  rw [newB_BK (k := 111) (j := 109) (x := (7, 4)) rfl (by decide +kernel)]
  refine r_dup dX1_init_188 rfl ?_
  refine r_iconst (x := 1) dX1_init_189 rfl (by decide) ?_
  refine r_iconst (x := 3) dX1_init_190 rfl (by decide) ?_
  refine r_callI (mc := 1) (ms := 3) (a := 111) (args := [vi 1, vi 3]) (st := [vr 111, vr 81]) dX1_init_191 kX1_11 rfl rfl (Nat.le_of_ble_eq_true rfl) (fun _ _ => ⟨by rw [hcz]; exact Nat.le_of_ble_eq_true rfl, by rw [hcu]; exact (show hu (BK 112 109) + 3 ≤ 9891 by decide +kernel)⟩) ?_
  refine Ev.mono (Ev.deep (by omega) (tK (d := d) (a := 111) (j := 109) (i := 124) (L := 3) (W := 3) (R := 1) rfl rfl rfl (by decide +kernel) (by decide) (by decide) rfl (by decide) (by decide +kernel) rfl rfl rfl)) (fun r h' y => ?_)
  obtain ⟨y1, y2⟩ := y
  subst y1 y2
  refine r_putFR (b := 111) dX1_init_194 pfX1_60 rfl (BK_obj (x := (1, 14)) (by decide) rfl) (by decide) rfl ?_
  dsimp only
  rw [putB_BK (j := 110) rfl]
  refine r_aload_n dX1_init_197 rfl rfl ?_
  refine r_getR (b := 82) dX1_init_198 fX1_14 (BK_obj (x := (1, 14)) (by decide) rfl) (by decide) rfl (show rf (BK 113 111) 81 0 = some 82 by decide +kernel) ?_
  refine r_bipush (x := 60) dX1_init_201 (by decide) (by decide) ?_
  refine r_iconst (x := 0) dX1_init_203 rfl (by decide) ?_
  refine r_callV (mc := 0) (ms := 0) (ci := 7) (nf := 4) (a := 82) (args := [vi 60, vi 0]) (st := []) dX1_init_204 kX1_63 (BK_obj (x := (7, 4)) (by decide) rfl) ⟨_, _, rfl⟩ (by decide) rfl rfl (by decide) (fun a b => ⟨a, b⟩) ?_
  refine Ev.mono (Ev.deep (by omega) (fK (d := d) (t := 82) (c := 83) (i := 127) (L := 180) (R := 60) (v := 0) (BK_obj (x := (7, 4)) (by decide) rfl) (show rf (BK 113 111) 82 0 = some 83 by decide +kernel) (BK_obj (x := (100, 180)) (by decide) rfl) (by decide +kernel) (by decide) (by decide) rfl rfl)) (fun r h' y => ?_)
  obtain ⟨y1, y2⟩ := y
  subst y1 y2
  refine r_aload_n dX1_init_207 rfl rfl ?_
  refine r_getR (b := 107) dX1_init_208 fX1_54 (BK_obj (x := (1, 14)) (by decide) rfl) (by decide) rfl (show rf (BK 113 111) 81 11 = some 107 by decide +kernel) ?_
  refine r_bipush (x := 30) dX1_init_211 (by decide) (by decide) ?_
  refine r_iconst (x := 0) dX1_init_213 rfl (by decide) ?_
  refine r_callV (mc := 0) (ms := 0) (ci := 7) (nf := 4) (a := 107) (args := [vi 30, vi 0]) (st := []) dX1_init_214 kX1_63 (BK_obj (x := (7, 4)) (by decide) rfl) ⟨_, _, rfl⟩ (by decide) rfl rfl (by decide) (fun a b => ⟨a, b⟩) ?_
  refine Ev.mono (Ev.deep (by omega) (fK (d := d) (t := 107) (c := 108) (i := 129) (L := 60) (R := 30) (v := 0) (BK_obj (x := (7, 4)) (by decide) rfl) (show rf (BK 113 111) 107 0 = some 108 by decide +kernel) (BK_obj (x := (100, 60)) (by decide) rfl) (by decide +kernel) (by decide) (by decide) rfl rfl)) (fun r h' y => ?_)
  obtain ⟨y1, y2⟩ := y
  subst y1 y2
  refine r_aload_n dX1_init_217 rfl rfl ?_
  refine r_getR (b := 109) dX1_init_218 fX1_57 (BK_obj (x := (1, 14)) (by decide) rfl) (by decide) rfl (show rf (BK 113 111) 81 12 = some 109 by decide +kernel) ?_
  refine r_bipush (x := 10) dX1_init_221 (by decide) (by decide) ?_
  refine r_iconst (x := 1) dX1_init_223 rfl (by decide) ?_
  refine r_callV (mc := 0) (ms := 0) (ci := 7) (nf := 4) (a := 109) (args := [vi 10, vi 1]) (st := []) dX1_init_224 kX1_63 (BK_obj (x := (7, 4)) (by decide) rfl) ⟨_, _, rfl⟩ (by decide) rfl rfl (by decide) (fun a b => ⟨a, b⟩) ?_
  refine Ev.mono (Ev.deep (by omega) (fK (d := d) (t := 109) (c := 110) (i := 131) (L := 20) (R := 10) (v := 1) (BK_obj (x := (7, 4)) (by decide) rfl) (show rf (BK 113 111) 109 0 = some 110 by decide +kernel) (BK_obj (x := (100, 20)) (by decide) rfl) (by decide +kernel) (by decide) (by decide) rfl rfl)) (fun r h' y => ?_)
  obtain ⟨y1, y2⟩ := y
  subst y1 y2
  refine r_aload_n dX1_init_227 rfl rfl ?_
  refine r_getR (b := 111) dX1_init_228 fX1_60 (BK_obj (x := (1, 14)) (by decide) rfl) (by decide) rfl (show rf (BK 113 111) 81 13 = some 111 by decide +kernel) ?_
  refine r_iconst (x := 1) dX1_init_231 rfl (by decide) ?_
  refine r_iconst (x := 0) dX1_init_232 rfl (by decide) ?_
  refine r_callV (mc := 0) (ms := 0) (ci := 7) (nf := 4) (a := 111) (args := [vi 1, vi 0]) (st := []) dX1_init_233 kX1_63 (BK_obj (x := (7, 4)) (by decide) rfl) ⟨_, _, rfl⟩ (by decide) rfl rfl (by decide) (fun a b => ⟨a, b⟩) ?_
  refine Ev.mono (Ev.deep (by omega) (fK (d := d) (t := 111) (c := 112) (i := 133) (L := 3) (R := 1) (v := 0) (BK_obj (x := (7, 4)) (by decide) rfl) (show rf (BK 113 111) 111 0 = some 112 by decide +kernel) (BK_obj (x := (100, 3)) (by decide) rfl) (by decide +kernel) (by decide) (by decide) rfl rfl)) (fun r h' y => ?_)
  obtain ⟨y1, y2⟩ := y
  subst y1 y2
  refine r_aload_n dX1_init_236 rfl rfl ?_
  refine r_getR (b := 111) dX1_init_237 fX1_60 (BK_obj (x := (1, 14)) (by decide) rfl) (by decide) rfl (show rf (BK 113 111) 81 13 = some 111 by decide +kernel) ?_
  refine r_iconst (x := 0) dX1_init_240 rfl (by decide) ?_
  refine r_iconst (x := 0) dX1_init_241 rfl (by decide) ?_
  refine r_iconst (x := 2) dX1_init_242 rfl (by decide) ?_
  refine r_callV (mc := 0) (ms := 0) (ci := 7) (nf := 4) (a := 111) (args := [vi 0, vi 0, vi 2]) (st := []) dX1_init_243 kX1_66 (BK_obj (x := (7, 4)) (by decide) rfl) ⟨_, _, rfl⟩ (by decide) rfl rfl (by decide) (fun a b => ⟨a, b⟩) ?_
  refine Ev.mono (Ev.deep (by omega) (sK (d := d) (t := 111) (c := 112) (i := 135) (L := 3) (W := 3) (R := 1) (x := 0) (y := 0) (v := 2) (q := 0) (BK_obj (x := (7, 4)) (by decide) rfl) (show rf (BK 113 111) 111 0 = some 112 by decide +kernel) (BK_obj (x := (100, 3)) (by decide) rfl) (by decide +kernel) (by decide +kernel) (by decide +kernel) (by decide +kernel) rfl (by decide) (by decide) (by decide +kernel) (by decide) (by decide) rfl rfl)) (fun r h' y => ?_)
  obtain ⟨y1, y2⟩ := y
  subst y1 y2
  refine r_aload_n dX1_init_246 rfl rfl ?_
  refine r_getR (b := 111) dX1_init_247 fX1_60 (BK_obj (x := (1, 14)) (by decide) rfl) (by decide) rfl (show rf (BK 113 111) 81 13 = some 111 by decide +kernel) ?_
  refine r_iconst (x := 0) dX1_init_250 rfl (by decide) ?_
  refine r_iconst (x := 1) dX1_init_251 rfl (by decide) ?_
  refine r_bipush (x := 100) dX1_init_252 (by decide) (by decide) ?_
  refine r_callV (mc := 0) (ms := 0) (ci := 7) (nf := 4) (a := 111) (args := [vi 0, vi 1, vi 100]) (st := []) dX1_init_254 kX1_66 (BK_obj (x := (7, 4)) (by decide) rfl) ⟨_, _, rfl⟩ (by decide) rfl rfl (by decide) (fun a b => ⟨a, b⟩) ?_
  refine Ev.mono (Ev.deep (by omega) (sK (d := d) (t := 111) (c := 112) (i := 136) (L := 3) (W := 3) (R := 1) (x := 0) (y := 1) (v := 100) (q := 1) (BK_obj (x := (7, 4)) (by decide) rfl) (show rf (BK 113 111) 111 0 = some 112 by decide +kernel) (BK_obj (x := (100, 3)) (by decide) rfl) (by decide +kernel) (by decide +kernel) (by decide +kernel) (by decide +kernel) rfl (by decide) (by decide) (by decide +kernel) (by decide) (by decide) rfl rfl)) (fun r h' y => ?_)
  obtain ⟨y1, y2⟩ := y
  subst y1 y2
  refine r_aload_n dX1_init_257 rfl rfl ?_
  refine r_getR (b := 111) dX1_init_258 fX1_60 (BK_obj (x := (1, 14)) (by decide) rfl) (by decide) rfl (show rf (BK 113 111) 81 13 = some 111 by decide +kernel) ?_
  refine r_iconst (x := 0) dX1_init_261 rfl (by decide) ?_
  refine r_iconst (x := 2) dX1_init_262 rfl (by decide) ?_
  refine r_iconst (x := 1) dX1_init_263 rfl (by decide) ?_
  refine r_callV (mc := 0) (ms := 0) (ci := 7) (nf := 4) (a := 111) (args := [vi 0, vi 2, vi 1]) (st := []) dX1_init_264 kX1_66 (BK_obj (x := (7, 4)) (by decide) rfl) ⟨_, _, rfl⟩ (by decide) rfl rfl (by decide) (fun a b => ⟨a, b⟩) ?_
  refine Ev.mono (Ev.deep (by omega) (sK (d := d) (t := 111) (c := 112) (i := 137) (L := 3) (W := 3) (R := 1) (x := 0) (y := 2) (v := 1) (q := 2) (BK_obj (x := (7, 4)) (by decide) rfl) (show rf (BK 113 111) 111 0 = some 112 by decide +kernel) (BK_obj (x := (100, 3)) (by decide) rfl) (by decide +kernel) (by decide +kernel) (by decide +kernel) (by decide +kernel) rfl (by decide) (by decide) (by decide +kernel) (by decide) (by decide) rfl rfl)) (fun r h' y => ?_)
  obtain ⟨y1, y2⟩ := y
  subst y1 y2
  refine r_ret dX1_init_267 rfl ⟨⟨rfl, rfl⟩, rfl, ?_⟩
  exact (show hu (BK 113 111) = hu (BK 82 80) + 1749 by decide +kernel)
set_option maxRecDepth 20000 in
theorem in_X1_init_113 {w : WD} {d : Nat} : Ev w (d + 4) 31 1749 mX1_init [vr 113] (BK 114 112, NK 138) (fun r h' => r = none ∧ h' = (BK 145 143, NK 192)) := by
  refine Ev.of (by decide +kernel) (Nat.le_of_ble_eq_true rfl) rfl (fun ho G hcz hcu => ?_)
  have hcz : gcz G = 145 := hcz
  have hcu : gcu G = 11654 := hcu.trans (show hu (BK 114 112) + 1749 = 11654 by decide +kernel)
  refine r_aload_n dX1_init_0 rfl rfl ?_
  refine r_objInit dX1_init_1 kX1_3 (by decide) ?_
  refine r_aload_n dX1_init_4 rfl rfl ?_
  refine r_new (ci := 7) (nf := 4) dX1_init_5 nwRX1_9 ⟨_, rfl, rfl⟩ tyf7 (NK_zero (i := 138) (a := 114) (by decide +kernel)) (by rw [hcz]; exact Nat.le_of_ble_eq_true rfl) (by rw [hcu]; exact (show hu (BK 114 112) + 4 ≤ 11654 by decide +kernel)) ?_
  dsimp only
  rw [newB_BK (k := 114) (j := 112) (x := (7, 4)) rfl (by decide +kernel)]
  refine r_dup dX1_init_8 rfl ?_
  refine r_bipush (x := 60) dX1_init_9 (by decide) (by decide) ?_
  refine r_iconst (x := 3) dX1_init_11 rfl (by decide) ?_
  refine r_callI (mc := 1) (ms := 180) (a := 114) (args := [vi 60, vi 3]) (st := [vr 114, vr 113]) dX1_init_12 kX1_11 rfl rfl (Nat.le_of_ble_eq_true rfl) (fun _ _ => ⟨by rw [hcz]; exact Nat.le_of_ble_eq_true rfl, by rw [hcu]; exact (show hu (BK 115 112) + 180 ≤ 11654 by decide +kernel)⟩) ?_
  refine Ev.mono (Ev.deep (by omega) (tK (d := d) (a := 114) (j := 112) (i := 138) (L := 180) (W := 3) (R := 60) rfl rfl rfl (by decide +kernel) (by decide) (by decide) rfl (by decide) (by decide +kernel) rfl rfl rfl)) (fun r h' y => ?_)
  obtain ⟨y1, y2⟩ := y
  subst y1 y2
  refine r_putFR (b := 114) dX1_init_15 pfX1_14 rfl (BK_obj (x := (1, 14)) (by decide) rfl) (by decide) rfl ?_
  dsimp only
  rw [putB_BK (j := 113) rfl]
  refine r_aload_n dX1_init_18 rfl rfl ?_
  refine r_new (ci := 7) (nf := 4) dX1_init_19 nwRX1_9 ⟨_, rfl, rfl⟩ tyf7 (NK_zero (i := 141) (a := 116) (by decide +kernel)) (by rw [hcz]; exact Nat.le_of_ble_eq_true rfl) (by rw [hcu]; exact (show hu (BK 116 114) + 4 ≤ 11654 by decide +kernel)) ?_
  dsimp only
  rw [newB_BK (k := 116) (j := 114) (x := (7, 4)) rfl (by decide +kernel)]
  refine r_dup dX1_init_22 rfl ?_
  refine r_bipush (x := 12) dX1_init_23 (by decide) (by decide) ?_
  refine r_iconst (x := 4) dX1_init_25 rfl (by decide) ?_
  refine r_callI (mc := 1) (ms := 48) (a := 116) (args := [vi 12, vi 4]) (st := [vr 116, vr 113]) dX1_init_26 kX1_11 rfl rfl (Nat.le_of_ble_eq_true rfl) (fun _ _ => ⟨by rw [hcz]; exact Nat.le_of_ble_eq_true rfl, by rw [hcu]; exact (show hu (BK 117 114) + 48 ≤ 11654 by decide +kernel)⟩) ?_
  refine Ev.mono (Ev.deep (by omega) (tK (d := d) (a := 116) (j := 114) (i := 141) (L := 48) (W := 4) (R := 12) rfl rfl rfl (by decide +kernel) (by decide) (by decide) rfl (by decide) (by decide +kernel) rfl rfl rfl)) (fun r h' y => ?_)
  obtain ⟨y1, y2⟩ := y
  subst y1 y2
  refine r_putFR (b := 116) dX1_init_29 pfX1_20 rfl (BK_obj (x := (1, 14)) (by decide) rfl) (by decide) rfl ?_
  dsimp only
  rw [putB_BK (j := 115) rfl]
  refine r_aload_n dX1_init_32 rfl rfl ?_
  refine r_new (ci := 7) (nf := 4) dX1_init_33 nwRX1_9 ⟨_, rfl, rfl⟩ tyf7 (NK_zero (i := 144) (a := 118) (by decide +kernel)) (by rw [hcz]; exact Nat.le_of_ble_eq_true rfl) (by rw [hcu]; exact (show hu (BK 118 116) + 4 ≤ 11654 by decide +kernel)) ?_
  dsimp only
  rw [newB_BK (k := 118) (j := 116) (x := (7, 4)) rfl (by decide +kernel)]
  refine r_dup dX1_init_36 rfl ?_
  refine r_bipush (x := 12) dX1_init_37 (by decide) (by decide) ?_
  refine r_iconst (x := 4) dX1_init_39 rfl (by decide) ?_
  refine r_callI (mc := 1) (ms := 48) (a := 118) (args := [vi 12, vi 4]) (st := [vr 118, vr 113]) dX1_init_40 kX1_11 rfl rfl (Nat.le_of_ble_eq_true rfl) (fun _ _ => ⟨by rw [hcz]; exact Nat.le_of_ble_eq_true rfl, by rw [hcu]; exact (show hu (BK 119 116) + 48 ≤ 11654 by decide +kernel)⟩) ?_
  refine Ev.mono (Ev.deep (by omega) (tK (d := d) (a := 118) (j := 116) (i := 144) (L := 48) (W := 4) (R := 12) rfl rfl rfl (by decide +kernel) (by decide) (by decide) rfl (by decide) (by decide +kernel) rfl rfl rfl)) (fun r h' y => ?_)
  obtain ⟨y1, y2⟩ := y
  subst y1 y2
  refine r_putFR (b := 118) dX1_init_43 pfX1_23 rfl (BK_obj (x := (1, 14)) (by decide) rfl) (by decide) rfl ?_
  dsimp only
  rw [putB_BK (j := 117) rfl]
  refine r_aload_n dX1_init_46 rfl rfl ?_
  refine r_new (ci := 7) (nf := 4) dX1_init_47 nwRX1_9 ⟨_, rfl, rfl⟩ tyf7 (NK_zero (i := 147) (a := 120) (by decide +kernel)) (by rw [hcz]; exact Nat.le_of_ble_eq_true rfl) (by rw [hcu]; exact (show hu (BK 120 118) + 4 ≤ 11654 by decide +kernel)) ?_
  dsimp only
  rw [newB_BK (k := 120) (j := 118) (x := (7, 4)) rfl (by decide +kernel)]
  refine r_dup dX1_init_50 rfl ?_
  refine r_bipush (x := 12) dX1_init_51 (by decide) (by decide) ?_
  refine r_iconst (x := 2) dX1_init_53 rfl (by decide) ?_
  refine r_callI (mc := 1) (ms := 24) (a := 120) (args := [vi 12, vi 2]) (st := [vr 120, vr 113]) dX1_init_54 kX1_11 rfl rfl (Nat.le_of_ble_eq_true rfl) (fun _ _ => ⟨by rw [hcz]; exact Nat.le_of_ble_eq_true rfl, by rw [hcu]; exact (show hu (BK 121 118) + 24 ≤ 11654 by decide +kernel)⟩) ?_
  refine Ev.mono (Ev.deep (by omega) (tK (d := d) (a := 120) (j := 118) (i := 147) (L := 24) (W := 2) (R := 12) rfl rfl rfl (by decide +kernel) (by decide) (by decide) rfl (by decide) (by decide +kernel) rfl rfl rfl)) (fun r h' y => ?_)
  obtain ⟨y1, y2⟩ := y
  subst y1 y2
  refine r_putFR (b := 120) dX1_init_57 pfX1_26 rfl (BK_obj (x := (1, 14)) (by decide) rfl) (by decide) rfl ?_
  dsimp only
  rw [putB_BK (j := 119) rfl]
  refine r_aload_n dX1_init_60 rfl rfl ?_
  refine r_new (ci := 7) (nf := 4) dX1_init_61 nwRX1_9 ⟨_, rfl, rfl⟩ tyf7 (NK_zero (i := 150) (a := 122) (by decide +kernel)) (by rw [hcz]; exact Nat.le_of_ble_eq_true rfl) (by rw [hcu]; exact (show hu (BK 122 120) + 4 ≤ 11654 by decide +kernel)) ?_
  dsimp only
  rw [newB_BK (k := 122) (j := 120) (x := (7, 4)) rfl (by decide +kernel)]
  refine r_dup dX1_init_64 rfl ?_
  refine r_bipush (x := 12) dX1_init_65 (by decide) (by decide) ?_
  refine r_iconst (x := 1) dX1_init_67 rfl (by decide) ?_
  refine r_callI (mc := 1) (ms := 12) (a := 122) (args := [vi 12, vi 1]) (st := [vr 122, vr 113]) dX1_init_68 kX1_11 rfl rfl (Nat.le_of_ble_eq_true rfl) (fun _ _ => ⟨by rw [hcz]; exact Nat.le_of_ble_eq_true rfl, by rw [hcu]; exact (show hu (BK 123 120) + 12 ≤ 11654 by decide +kernel)⟩) ?_
  refine Ev.mono (Ev.deep (by omega) (tK (d := d) (a := 122) (j := 120) (i := 150) (L := 12) (W := 1) (R := 12) rfl rfl rfl (by decide +kernel) (by decide) (by decide) rfl (by decide) (by decide +kernel) rfl rfl rfl)) (fun r h' y => ?_)
  obtain ⟨y1, y2⟩ := y
  subst y1 y2
  refine r_putFR (b := 122) dX1_init_71 pfX1_29 rfl (BK_obj (x := (1, 14)) (by decide) rfl) (by decide) rfl ?_
  dsimp only
  rw [putB_BK (j := 121) rfl]
  refine r_aload_n dX1_init_74 rfl rfl ?_
  refine r_new (ci := 7) (nf := 4) dX1_init_75 nwRX1_9 ⟨_, rfl, rfl⟩ tyf7 (NK_zero (i := 153) (a := 124) (by decide +kernel)) (by rw [hcz]; exact Nat.le_of_ble_eq_true rfl) (by rw [hcu]; exact (show hu (BK 124 122) + 4 ≤ 11654 by decide +kernel)) ?_
  dsimp only
  rw [newB_BK (k := 124) (j := 122) (x := (7, 4)) rfl (by decide +kernel)]
  refine r_dup dX1_init_78 rfl ?_
  refine r_bipush (x := 20) dX1_init_79 (by decide) (by decide) ?_
  refine r_iconst (x := 3) dX1_init_81 rfl (by decide) ?_
  refine r_callI (mc := 1) (ms := 60) (a := 124) (args := [vi 20, vi 3]) (st := [vr 124, vr 113]) dX1_init_82 kX1_11 rfl rfl (Nat.le_of_ble_eq_true rfl) (fun _ _ => ⟨by rw [hcz]; exact Nat.le_of_ble_eq_true rfl, by rw [hcu]; exact (show hu (BK 125 122) + 60 ≤ 11654 by decide +kernel)⟩) ?_
  refine Ev.mono (Ev.deep (by omega) (tK (d := d) (a := 124) (j := 122) (i := 153) (L := 60) (W := 3) (R := 20) rfl rfl rfl (by decide +kernel) (by decide) (by decide) rfl (by decide) (by decide +kernel) rfl rfl rfl)) (fun r h' y => ?_)
  obtain ⟨y1, y2⟩ := y
  subst y1 y2
  refine r_putFR (b := 124) dX1_init_85 pfX1_32 rfl (BK_obj (x := (1, 14)) (by decide) rfl) (by decide) rfl ?_
  dsimp only
  rw [putB_BK (j := 123) rfl]
  refine r_aload_n dX1_init_88 rfl rfl ?_
  refine r_new (ci := 7) (nf := 4) dX1_init_89 nwRX1_9 ⟨_, rfl, rfl⟩ tyf7 (NK_zero (i := 156) (a := 126) (by decide +kernel)) (by rw [hcz]; exact Nat.le_of_ble_eq_true rfl) (by rw [hcu]; exact (show hu (BK 126 124) + 4 ≤ 11654 by decide +kernel)) ?_
  dsimp only
  rw [newB_BK (k := 126) (j := 124) (x := (7, 4)) rfl (by decide +kernel)]
  refine r_dup dX1_init_92 rfl ?_
  refine r_bipush (x := 40) dX1_init_93 (by decide) (by decide) ?_
  refine r_bipush (x := 7) dX1_init_95 (by decide) (by decide) ?_
  refine r_callI (mc := 1) (ms := 280) (a := 126) (args := [vi 40, vi 7]) (st := [vr 126, vr 113]) dX1_init_97 kX1_11 rfl rfl (Nat.le_of_ble_eq_true rfl) (fun _ _ => ⟨by rw [hcz]; exact Nat.le_of_ble_eq_true rfl, by rw [hcu]; exact (show hu (BK 127 124) + 280 ≤ 11654 by decide +kernel)⟩) ?_
  refine Ev.mono (Ev.deep (by omega) (tK (d := d) (a := 126) (j := 124) (i := 156) (L := 280) (W := 7) (R := 40) rfl rfl rfl (by decide +kernel) (by decide) (by decide) rfl (by decide) (by decide +kernel) rfl rfl rfl)) (fun r h' y => ?_)
  obtain ⟨y1, y2⟩ := y
  subst y1 y2
  refine r_putFR (b := 126) dX1_init_100 pfX1_35 rfl (BK_obj (x := (1, 14)) (by decide) rfl) (by decide) rfl ?_
  dsimp only
  rw [putB_BK (j := 125) rfl]
  refine r_aload_n dX1_init_103 rfl rfl ?_
  refine r_new (ci := 2) (nf := 4) dX1_init_104 nwRX1_38 ⟨_, rfl, rfl⟩ tyf2 (NK_zero (i := 159) (a := 128) (by decide +kernel)) (by rw [hcz]; exact Nat.le_of_ble_eq_true rfl) (by rw [hcu]; exact (show hu (BK 128 126) + 4 ≤ 11654 by decide +kernel)) ?_
  dsimp only
  rw [newB_BK (k := 128) (j := 126) (x := (2, 4)) rfl (by decide +kernel)]
  refine r_dup dX1_init_107 rfl ?_
  refine r_callIN (mc := 4) (ms := 852) (a := 128) (args := []) (st := [vr 128, vr 113]) dX1_init_108 kX1_40 rfl rfl (Nat.le_of_ble_eq_true rfl) (fun _ _ => ⟨by rw [hcz]; exact Nat.le_of_ble_eq_true rfl, by rw [hcu]; exact (show hu (BK 129 126) + 852 ≤ 11654 by decide +kernel)⟩) ?_
  refine Ev.mono (Ev.deep (by omega) (lK (d := d) (a := 128) (j := 126) (i := 159) rfl rfl rfl rfl rfl rfl rfl rfl rfl (by decide +kernel) (by decide +kernel) (by decide +kernel) (by decide +kernel) rfl rfl rfl rfl)) (fun r h' y => ?_)
  obtain ⟨y1, y2⟩ := y
  subst y1 y2
  refine r_putFR (b := 128) dX1_init_111 pfX1_41 rfl (BK_obj (x := (1, 14)) (by decide) rfl) (by decide) rfl ?_
  dsimp only
  rw [putB_BK (j := 130) rfl]
  refine r_aload_n dX1_init_114 rfl rfl ?_
  refine r_new (ci := 7) (nf := 4) dX1_init_115 nwRX1_9 ⟨_, rfl, rfl⟩ tyf7 (NK_zero (i := 163) (a := 133) (by decide +kernel)) (by rw [hcz]; exact Nat.le_of_ble_eq_true rfl) (by rw [hcu]; exact (show hu (BK 133 131) + 4 ≤ 11654 by decide +kernel)) ?_
  dsimp only
  rw [newB_BK (k := 133) (j := 131) (x := (7, 4)) rfl (by decide +kernel)]
  refine r_dup dX1_init_118 rfl ?_
  refine r_bipush (x := 6) dX1_init_119 (by decide) (by decide) ?_
  refine r_iconst (x := 3) dX1_init_121 rfl (by decide) ?_
  refine r_callI (mc := 1) (ms := 18) (a := 133) (args := [vi 6, vi 3]) (st := [vr 133, vr 113]) dX1_init_122 kX1_11 rfl rfl (Nat.le_of_ble_eq_true rfl) (fun _ _ => ⟨by rw [hcz]; exact Nat.le_of_ble_eq_true rfl, by rw [hcu]; exact (show hu (BK 134 131) + 18 ≤ 11654 by decide +kernel)⟩) ?_
  refine Ev.mono (Ev.deep (by omega) (tK (d := d) (a := 133) (j := 131) (i := 163) (L := 18) (W := 3) (R := 6) rfl rfl rfl (by decide +kernel) (by decide) (by decide) rfl (by decide) (by decide +kernel) rfl rfl rfl)) (fun r h' y => ?_)
  obtain ⟨y1, y2⟩ := y
  subst y1 y2
  refine r_putFR (b := 133) dX1_init_125 pfX1_45 rfl (BK_obj (x := (1, 14)) (by decide) rfl) (by decide) rfl ?_
  dsimp only
  rw [putB_BK (j := 132) rfl]
  refine r_aload_n dX1_init_128 rfl rfl ?_
  refine r_new (ci := 7) (nf := 4) dX1_init_129 nwRX1_9 ⟨_, rfl, rfl⟩ tyf7 (NK_zero (i := 166) (a := 135) (by decide +kernel)) (by rw [hcz]; exact Nat.le_of_ble_eq_true rfl) (by rw [hcu]; exact (show hu (BK 135 133) + 4 ≤ 11654 by decide +kernel)) ?_
  dsimp only
  rw [newB_BK (k := 135) (j := 133) (x := (7, 4)) rfl (by decide +kernel)]
  refine r_dup dX1_init_132 rfl ?_
  refine r_bipush (x := 12) dX1_init_133 (by decide) (by decide) ?_
  refine r_iconst (x := 4) dX1_init_135 rfl (by decide) ?_
  refine r_callI (mc := 1) (ms := 48) (a := 135) (args := [vi 12, vi 4]) (st := [vr 135, vr 113]) dX1_init_136 kX1_11 rfl rfl (Nat.le_of_ble_eq_true rfl) (fun _ _ => ⟨by rw [hcz]; exact Nat.le_of_ble_eq_true rfl, by rw [hcu]; exact (show hu (BK 136 133) + 48 ≤ 11654 by decide +kernel)⟩) ?_
  refine Ev.mono (Ev.deep (by omega) (tK (d := d) (a := 135) (j := 133) (i := 166) (L := 48) (W := 4) (R := 12) rfl rfl rfl (by decide +kernel) (by decide) (by decide) rfl (by decide) (by decide +kernel) rfl rfl rfl)) (fun r h' y => ?_)
  obtain ⟨y1, y2⟩ := y
  subst y1 y2
  refine r_putFR (b := 135) dX1_init_139 pfX1_48 rfl (BK_obj (x := (1, 14)) (by decide) rfl) (by decide) rfl ?_
  dsimp only
  rw [putB_BK (j := 134) rfl]
  refine r_aload_n dX1_init_142 rfl rfl ?_
  refine r_new (ci := 7) (nf := 4) dX1_init_143 nwRX1_9 ⟨_, rfl, rfl⟩ tyf7 (NK_zero (i := 169) (a := 137) (by decide +kernel)) (by rw [hcz]; exact Nat.le_of_ble_eq_true rfl) (by rw [hcu]; exact (show hu (BK 137 135) + 4 ≤ 11654 by decide +kernel)) ?_
  dsimp only
  rw [newB_BK (k := 137) (j := 135) (x := (7, 4)) rfl (by decide +kernel)]
  refine r_dup dX1_init_146 rfl ?_
  refine r_bipush (x := 10) dX1_init_147 (by decide) (by decide) ?_
  refine r_iconst (x := 4) dX1_init_149 rfl (by decide) ?_
  refine r_callI (mc := 1) (ms := 40) (a := 137) (args := [vi 10, vi 4]) (st := [vr 137, vr 113]) dX1_init_150 kX1_11 rfl rfl (Nat.le_of_ble_eq_true rfl) (fun _ _ => ⟨by rw [hcz]; exact Nat.le_of_ble_eq_true rfl, by rw [hcu]; exact (show hu (BK 138 135) + 40 ≤ 11654 by decide +kernel)⟩) ?_
  refine Ev.mono (Ev.deep (by omega) (tK (d := d) (a := 137) (j := 135) (i := 169) (L := 40) (W := 4) (R := 10) rfl rfl rfl (by decide +kernel) (by decide) (by decide) rfl (by decide) (by decide +kernel) rfl rfl rfl)) (fun r h' y => ?_)
  obtain ⟨y1, y2⟩ := y
  subst y1 y2
  refine r_putFR (b := 137) dX1_init_153 pfX1_51 rfl (BK_obj (x := (1, 14)) (by decide) rfl) (by decide) rfl ?_
  dsimp only
  rw [putB_BK (j := 136) rfl]
  refine r_aload_n dX1_init_156 rfl rfl ?_
  refine r_new (ci := 7) (nf := 4) dX1_init_157 nwRX1_9 ⟨_, rfl, rfl⟩ tyf7 (NK_zero (i := 172) (a := 139) (by decide +kernel)) (by rw [hcz]; exact Nat.le_of_ble_eq_true rfl) (by rw [hcu]; exact (show hu (BK 139 137) + 4 ≤ 11654 by decide +kernel)) ?_
  dsimp only
  rw [newB_BK (k := 139) (j := 137) (x := (7, 4)) rfl (by decide +kernel)]
  refine r_dup dX1_init_160 rfl ?_
  refine r_bipush (x := 30) dX1_init_161 (by decide) (by decide) ?_
  refine r_iconst (x := 2) dX1_init_163 rfl (by decide) ?_
  refine r_callI (mc := 1) (ms := 60) (a := 139) (args := [vi 30, vi 2]) (st := [vr 139, vr 113]) dX1_init_164 kX1_11 rfl rfl (Nat.le_of_ble_eq_true rfl) (fun _ _ => ⟨by rw [hcz]; exact Nat.le_of_ble_eq_true rfl, by rw [hcu]; exact (show hu (BK 140 137) + 60 ≤ 11654 by decide +kernel)⟩) ?_
  refine Ev.mono (Ev.deep (by omega) (tK (d := d) (a := 139) (j := 137) (i := 172) (L := 60) (W := 2) (R := 30) rfl rfl rfl (by decide +kernel) (by decide) (by decide) rfl (by decide) (by decide +kernel) rfl rfl rfl)) (fun r h' y => ?_)
  obtain ⟨y1, y2⟩ := y
  subst y1 y2
  refine r_putFR (b := 139) dX1_init_167 pfX1_54 rfl (BK_obj (x := (1, 14)) (by decide) rfl) (by decide) rfl ?_
  dsimp only
  rw [putB_BK (j := 138) rfl]
  refine r_aload_n dX1_init_170 rfl rfl ?_
  refine r_new (ci := 7) (nf := 4) dX1_init_171 nwRX1_9 ⟨_, rfl, rfl⟩ tyf7 (NK_zero (i := 175) (a := 141) (by decide +kernel)) (by rw [hcz]; exact Nat.le_of_ble_eq_true rfl) (by rw [hcu]; exact (show hu (BK 141 139) + 4 ≤ 11654 by decide +kernel)) ?_
  dsimp only
  rw [newB_BK (k := 141) (j := 139) (x := (7, 4)) rfl (by decide +kernel)]
  refine r_dup dX1_init_174 rfl ?_
  refine r_bipush (x := 10) dX1_init_175 (by decide) (by decide) ?_
  refine r_iconst (x := 2) dX1_init_177 rfl (by decide) ?_
  refine r_callI (mc := 1) (ms := 20) (a := 141) (args := [vi 10, vi 2]) (st := [vr 141, vr 113]) dX1_init_178 kX1_11 rfl rfl (Nat.le_of_ble_eq_true rfl) (fun _ _ => ⟨by rw [hcz]; exact Nat.le_of_ble_eq_true rfl, by rw [hcu]; exact (show hu (BK 142 139) + 20 ≤ 11654 by decide +kernel)⟩) ?_
  refine Ev.mono (Ev.deep (by omega) (tK (d := d) (a := 141) (j := 139) (i := 175) (L := 20) (W := 2) (R := 10) rfl rfl rfl (by decide +kernel) (by decide) (by decide) rfl (by decide) (by decide +kernel) rfl rfl rfl)) (fun r h' y => ?_)
  obtain ⟨y1, y2⟩ := y
  subst y1 y2
  refine r_putFR (b := 141) dX1_init_181 pfX1_57 rfl (BK_obj (x := (1, 14)) (by decide) rfl) (by decide) rfl ?_
  dsimp only
  rw [putB_BK (j := 140) rfl]
  refine r_aload_n dX1_init_184 rfl rfl ?_
  refine r_new (ci := 7) (nf := 4) dX1_init_185 nwRX1_9 ⟨_, rfl, rfl⟩ tyf7 (NK_zero (i := 178) (a := 143) (by decide +kernel)) (by rw [hcz]; exact Nat.le_of_ble_eq_true rfl) (by rw [hcu]; exact (show hu (BK 143 141) + 4 ≤ 11654 by decide +kernel)) ?_
  dsimp only
  rw [newB_BK (k := 143) (j := 141) (x := (7, 4)) rfl (by decide +kernel)]
  refine r_dup dX1_init_188 rfl ?_
  refine r_iconst (x := 1) dX1_init_189 rfl (by decide) ?_
  refine r_iconst (x := 3) dX1_init_190 rfl (by decide) ?_
  refine r_callI (mc := 1) (ms := 3) (a := 143) (args := [vi 1, vi 3]) (st := [vr 143, vr 113]) dX1_init_191 kX1_11 rfl rfl (Nat.le_of_ble_eq_true rfl) (fun _ _ => ⟨by rw [hcz]; exact Nat.le_of_ble_eq_true rfl, by rw [hcu]; exact (show hu (BK 144 141) + 3 ≤ 11654 by decide +kernel)⟩) ?_
  refine Ev.mono (Ev.deep (by omega) (tK (d := d) (a := 143) (j := 141) (i := 178) (L := 3) (W := 3) (R := 1) rfl rfl rfl (by decide +kernel) (by decide) (by decide) rfl (by decide) (by decide +kernel) rfl rfl rfl)) (fun r h' y => ?_)
  obtain ⟨y1, y2⟩ := y
  subst y1 y2
  refine r_putFR (b := 143) dX1_init_194 pfX1_60 rfl (BK_obj (x := (1, 14)) (by decide) rfl) (by decide) rfl ?_
  dsimp only
  rw [putB_BK (j := 142) rfl]
  refine r_aload_n dX1_init_197 rfl rfl ?_
  refine r_getR (b := 114) dX1_init_198 fX1_14 (BK_obj (x := (1, 14)) (by decide) rfl) (by decide) rfl (show rf (BK 145 143) 113 0 = some 114 by decide +kernel) ?_
  refine r_bipush (x := 60) dX1_init_201 (by decide) (by decide) ?_
  refine r_iconst (x := 0) dX1_init_203 rfl (by decide) ?_
  refine r_callV (mc := 0) (ms := 0) (ci := 7) (nf := 4) (a := 114) (args := [vi 60, vi 0]) (st := []) dX1_init_204 kX1_63 (BK_obj (x := (7, 4)) (by decide) rfl) ⟨_, _, rfl⟩ (by decide) rfl rfl (by decide) (fun a b => ⟨a, b⟩) ?_
  refine Ev.mono (Ev.deep (by omega) (fK (d := d) (t := 114) (c := 115) (i := 181) (L := 180) (R := 60) (v := 0) (BK_obj (x := (7, 4)) (by decide) rfl) (show rf (BK 145 143) 114 0 = some 115 by decide +kernel) (BK_obj (x := (100, 180)) (by decide) rfl) (by decide +kernel) (by decide) (by decide) rfl rfl)) (fun r h' y => ?_)
  obtain ⟨y1, y2⟩ := y
  subst y1 y2
  refine r_aload_n dX1_init_207 rfl rfl ?_
  refine r_getR (b := 139) dX1_init_208 fX1_54 (BK_obj (x := (1, 14)) (by decide) rfl) (by decide) rfl (show rf (BK 145 143) 113 11 = some 139 by decide +kernel) ?_
  refine r_bipush (x := 30) dX1_init_211 (by decide) (by decide) ?_
  refine r_iconst (x := 0) dX1_init_213 rfl (by decide) ?_
  refine r_callV (mc := 0) (ms := 0) (ci := 7) (nf := 4) (a := 139) (args := [vi 30, vi 0]) (st := []) dX1_init_214 kX1_63 (BK_obj (x := (7, 4)) (by decide) rfl) ⟨_, _, rfl⟩ (by decide) rfl rfl (by decide) (fun a b => ⟨a, b⟩) ?_
  refine Ev.mono (Ev.deep (by omega) (fK (d := d) (t := 139) (c := 140) (i := 183) (L := 60) (R := 30) (v := 0) (BK_obj (x := (7, 4)) (by decide) rfl) (show rf (BK 145 143) 139 0 = some 140 by decide +kernel) (BK_obj (x := (100, 60)) (by decide) rfl) (by decide +kernel) (by decide) (by decide) rfl rfl)) (fun r h' y => ?_)
  obtain ⟨y1, y2⟩ := y
  subst y1 y2
  refine r_aload_n dX1_init_217 rfl rfl ?_
  refine r_getR (b := 141) dX1_init_218 fX1_57 (BK_obj (x := (1, 14)) (by decide) rfl) (by decide) rfl (show rf (BK 145 143) 113 12 = some 141 by decide +kernel) ?_
  refine r_bipush (x := 10) dX1_init_221 (by decide) (by decide) ?_
  refine r_iconst (x := 1) dX1_init_223 rfl (by decide) ?_
  refine r_callV (mc := 0) (ms := 0) (ci := 7) (nf := 4) (a := 141) (args := [vi 10, vi 1]) (st := []) dX1_init_224 kX1_63 (BK_obj (x := (7, 4)) (by decide) rfl) ⟨_, _, rfl⟩ (by decide) rfl rfl (by decide) (fun a b => ⟨a, b⟩) ?_
  refine Ev.mono (Ev.deep (by omega) (fK (d := d) (t := 141) (c := 142) (i := 185) (L := 20) (R := 10) (v := 1) (BK_obj (x := (7, 4)) (by decide) rfl) (show rf (BK 145 143) 141 0 = some 142 by decide +kernel) (BK_obj (x := (100, 20)) (by decide) rfl) (by decide +kernel) (by decide) (by decide) rfl rfl)) (fun r h' y => ?_)
  obtain ⟨y1, y2⟩ := y
  subst y1 y2
  refine r_aload_n dX1_init_227 rfl rfl ?_
  refine r_getR (b := 143) dX1_init_228 fX1_60 (BK_obj (x := (1, 14)) (by decide) rfl) (by decide) rfl (show rf (BK 145 143) 113 13 = some 143 by decide +kernel) ?_
  refine r_iconst (x := 1) dX1_init_231 rfl (by decide) ?_
  refine r_iconst (x := 0) dX1_init_232 rfl (by decide) ?_
  refine r_callV (mc := 0) (ms := 0) (ci := 7) (nf := 4) (a := 143) (args := [vi 1, vi 0]) (st := []) dX1_init_233 kX1_63 (BK_obj (x := (7, 4)) (by decide) rfl) ⟨_, _, rfl⟩ (by decide) rfl rfl (by decide) (fun a b => ⟨a, b⟩) ?_
  refine Ev.mono (Ev.deep (by omega) (fK (d := d) (t := 143) (c := 144) (i := 187) (L := 3) (R := 1) (v := 0) (BK_obj (x := (7, 4)) (by decide) rfl) (show rf (BK 145 143) 143 0 = some 144 by decide +kernel) (BK_obj (x := (100, 3)) (by decide) rfl) (by decide +kernel) (by decide) (by decide) rfl rfl)) (fun r h' y => ?_)
  obtain ⟨y1, y2⟩ := y
  subst y1 y2
  refine r_aload_n dX1_init_236 rfl rfl ?_
  refine r_getR (b := 143) dX1_init_237 fX1_60 (BK_obj (x := (1, 14)) (by decide) rfl) (by decide) rfl (show rf (BK 145 143) 113 13 = some 143 by decide +kernel) ?_
  refine r_iconst (x := 0) dX1_init_240 rfl (by decide) ?_
  refine r_iconst (x := 0) dX1_init_241 rfl (by decide) ?_
  refine r_iconst (x := 2) dX1_init_242 rfl (by decide) ?_
  refine r_callV (mc := 0) (ms := 0) (ci := 7) (nf := 4) (a := 143) (args := [vi 0, vi 0, vi 2]) (st := []) dX1_init_243 kX1_66 (BK_obj (x := (7, 4)) (by decide) rfl) ⟨_, _, rfl⟩ (by decide) rfl rfl (by decide) (fun a b => ⟨a, b⟩) ?_
  refine Ev.mono (Ev.deep (by omega) (sK (d := d) (t := 143) (c := 144) (i := 189) (L := 3) (W := 3) (R := 1) (x := 0) (y := 0) (v := 2) (q := 0) (BK_obj (x := (7, 4)) (by decide) rfl) (show rf (BK 145 143) 143 0 = some 144 by decide +kernel) (BK_obj (x := (100, 3)) (by decide) rfl) (by decide +kernel) (by decide +kernel) (by decide +kernel) (by decide +kernel) rfl (by decide) (by decide) (by decide +kernel) (by decide) (by decide) rfl rfl)) (fun r h' y => ?_)
  obtain ⟨y1, y2⟩ := y
  subst y1 y2
  refine r_aload_n dX1_init_246 rfl rfl ?_
  refine r_getR (b := 143) dX1_init_247 fX1_60 (BK_obj (x := (1, 14)) (by decide) rfl) (by decide) rfl (show rf (BK 145 143) 113 13 = some 143 by decide +kernel) ?_
  refine r_iconst (x := 0) dX1_init_250 rfl (by decide) ?_
  refine r_iconst (x := 1) dX1_init_251 rfl (by decide) ?_
  refine r_bipush (x := 100) dX1_init_252 (by decide) (by decide) ?_
  refine r_callV (mc := 0) (ms := 0) (ci := 7) (nf := 4) (a := 143) (args := [vi 0, vi 1, vi 100]) (st := []) dX1_init_254 kX1_66 (BK_obj (x := (7, 4)) (by decide) rfl) ⟨_, _, rfl⟩ (by decide) rfl rfl (by decide) (fun a b => ⟨a, b⟩) ?_
  refine Ev.mono (Ev.deep (by omega) (sK (d := d) (t := 143) (c := 144) (i := 190) (L := 3) (W := 3) (R := 1) (x := 0) (y := 1) (v := 100) (q := 1) (BK_obj (x := (7, 4)) (by decide) rfl) (show rf (BK 145 143) 143 0 = some 144 by decide +kernel) (BK_obj (x := (100, 3)) (by decide) rfl) (by decide +kernel) (by decide +kernel) (by decide +kernel) (by decide +kernel) rfl (by decide) (by decide) (by decide +kernel) (by decide) (by decide) rfl rfl)) (fun r h' y => ?_)
  obtain ⟨y1, y2⟩ := y
  subst y1 y2
  refine r_aload_n dX1_init_257 rfl rfl ?_
  refine r_getR (b := 143) dX1_init_258 fX1_60 (BK_obj (x := (1, 14)) (by decide) rfl) (by decide) rfl (show rf (BK 145 143) 113 13 = some 143 by decide +kernel) ?_
  refine r_iconst (x := 0) dX1_init_261 rfl (by decide) ?_
  refine r_iconst (x := 2) dX1_init_262 rfl (by decide) ?_
  refine r_iconst (x := 1) dX1_init_263 rfl (by decide) ?_
  refine r_callV (mc := 0) (ms := 0) (ci := 7) (nf := 4) (a := 143) (args := [vi 0, vi 2, vi 1]) (st := []) dX1_init_264 kX1_66 (BK_obj (x := (7, 4)) (by decide) rfl) ⟨_, _, rfl⟩ (by decide) rfl rfl (by decide) (fun a b => ⟨a, b⟩) ?_
  refine Ev.mono (Ev.deep (by omega) (sK (d := d) (t := 143) (c := 144) (i := 191) (L := 3) (W := 3) (R := 1) (x := 0) (y := 2) (v := 1) (q := 2) (BK_obj (x := (7, 4)) (by decide) rfl) (show rf (BK 145 143) 143 0 = some 144 by decide +kernel) (BK_obj (x := (100, 3)) (by decide) rfl) (by decide +kernel) (by decide +kernel) (by decide +kernel) (by decide +kernel) rfl (by decide) (by decide) (by decide +kernel) (by decide) (by decide) rfl rfl)) (fun r h' y => ?_)
  obtain ⟨y1, y2⟩ := y
  subst y1 y2
  refine r_ret dX1_init_267 rfl ⟨⟨rfl, rfl⟩, rfl, ?_⟩
  exact (show hu (BK 145 143) = hu (BK 114 112) + 1749 by decide +kernel)
end LAKEB
