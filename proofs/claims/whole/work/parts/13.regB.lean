theorem gX12_in_0 {w : WD} {d : Nat} {G : GM} {Q : Option AV → Hp → Prop} {n : NM} {x0 x2 x4 : Int}
    (V :
    ((x0 < x2 →
      Q (some (vi 0)) (B0, n)) ∧
    (x2 ≤ x0 →
      ((x4 < x0 →
        Q (some (vi 0)) (B0, n)) ∧
      (x0 ≤ x4 →
        Q (some (vi 1)) (B0, n)))))) :
    Rn w mX12_in d G Q 0 [(0, vl x0), (2, vl x2), (4, vl x4)] [] (B0, n) := by
  refine r_lload_n dX12_in_0 rfl rfl ?_
  refine r_lload_n dX12_in_1 rfl rfl ?_
  obtain ⟨V1, V2⟩ := V
  refine r_llt dX12_in_2 rfl dX12_in_3 (tgt := 17) (by decide) (fun c21 => ?_) (fun c21 => ?_)
  · have V := V1 c21
    refine r_iconst (x := 0) dX12_in_17 rfl (by decide) ?_
    exact r_zret dX12_in_18 rfl (by decide) V
  · have V := V2 c21
    refine r_lload_n dX12_in_6 rfl rfl ?_
    refine r_lload dX12_in_7 rfl ?_
    obtain ⟨V1, V2⟩ := V
    refine r_lgt dX12_in_9 rfl dX12_in_10 (tgt := 17) (by decide) (fun c22 => ?_) (fun c22 => ?_)
    · have V := V1 c22
      refine r_iconst (x := 0) dX12_in_17 rfl (by decide) ?_
      exact r_zret dX12_in_18 rfl (by decide) V
    · have V := V2 c22
      refine r_iconst (x := 1) dX12_in_13 rfl (by decide) ?_
      refine r_goto (tgt := 18) dX12_in_14 (by decide) ?_
      exact r_zret dX12_in_18 rfl (by decide) V

theorem gX12_tell_0 {w : WD} {d : Nat} {G : GM} {Q : Option AV → Hp → Prop} {n : NM} {x1 : Int}
    (V :
    (∀ z22 : Int, z22 = (if 0 ≤ x1 then 0 else x1) → 
    ((0 ≤ x1 →
      Q (some (vi x1)) (B0, upn n 145 1 z22)) ∧
    (x1 < 0 →
      (inI (-x1)) ∧
      (0 ≤ -x1) ∧
      (-x1 < 7) ∧
      (inI ((n 146 (-x1)) + 1)) ∧
      (0 ≤ -x1) ∧
      (-x1 < 7) ∧
      Q (some (vi x1)) (B0, upn (upn n 145 1 z22) 146 (-x1) ((n 146 (-x1)) + 1)))))) :
    Rn w mX12_tell d G Q 0 [(0, vr 145), (1, vi x1)] [] (B0, n) := by
  refine r_aload_n dX12_tell_0 rfl rfl ?_
  refine r_iload_n dX12_tell_1 rfl rfl ?_
  have K : ∀ z22 : Int, z22 = (if 0 ≤ x1 then 0 else x1) → Rn w mX12_tell d G Q 10 [(0, vr 145), (1, vi x1)] [vi z22, vr 145] (B0, n) := by
    intro z22 ez22
    have V := V z22 ez22
    refine r_putI (fi := 1) (h' := (B0, upn n 145 1 z22)) dX12_tell_10 pX12_79 ob_145 (by decide) rfl rfl rfl ?_
    refine r_iload_n dX12_tell_13 rfl rfl ?_
    obtain ⟨V1, V2⟩ := V
    refine r_zge (tgt := 28) dX12_tell_14 (by decide) (fun c23 => ?_) (fun c23 => ?_)
    · have V := V1 c23
      refine r_iload_n dX12_tell_28 rfl rfl ?_
      exact r_iret dX12_tell_29 rfl V
    · have V := V2 c23
      refine r_aload_n dX12_tell_17 rfl rfl ?_
      refine r_getR (b := 146) dX12_tell_18 fX12_7 ob_145 (by decide) rfl rfl ?_
      refine r_iload_n dX12_tell_21 rfl rfl ?_
      obtain ⟨s24, V⟩ := V
      refine r_ineg dX12_tell_22 s24 ?_
      refine r_dup2 dX12_tell_23 rfl rfl ?_
      obtain ⟨s25, V⟩ := V
      obtain ⟨s26, V⟩ := V
      refine r_iald dX12_tell_24 ob_146 s25 s26 ?_
      show Rn w mX12_tell d G Q 25 [(0, vr 145), (1, vi x1)] [vi (n 146 (-x1)), vi (-x1), vr 146] (B0, upn n 145 1 z22)
      refine r_iconst (x := 1) dX12_tell_25 rfl (by decide) ?_
      obtain ⟨s27, V⟩ := V
      refine r_iadd dX12_tell_26 s27 ?_
      obtain ⟨s28, V⟩ := V
      obtain ⟨s29, V⟩ := V
      refine r_iast (h' := (B0, upn (upn n 145 1 z22) 146 (-x1) ((n 146 (-x1)) + 1))) dX12_tell_27 ob_146 s28 s29 rfl ?_
      refine r_iload_n dX12_tell_28 rfl rfl ?_
      exact r_iret dX12_tell_29 rfl V
  refine r_zge (tgt := 9) dX12_tell_2 (by decide) (fun c21 => ?_) (fun c21 => ?_)
  · refine r_iconst (x := 0) dX12_tell_9 rfl (by decide) ?_
    exact K 0 (by first | rfl | (simp only [if_pos c21]))
  · refine r_iload_n dX12_tell_5 rfl rfl ?_
    refine r_goto (tgt := 10) dX12_tell_6 (by decide) ?_
    exact K x1 (by first | rfl | (simp only [if_neg (Int.not_le.mpr c21)]))

theorem gX12_image_0 {w : WD} {d : Nat} {G : GM} {Q : Option AV → Hp → Prop} {n : NM} {x1 : Int}
    (V :
    (Ev w d 0 0 mX12_in [vl x1, vl 0, vl 1] (B0, upn n 145 0 0) (fun r h' => ∃ (x22 : Int) (n21 : NM), r = some (vi x22) ∧ h' = (B0, n21) ∧ 
      ((x22 ≠ 0 →
        Rn w mX12_image (d + 1) G Q 23 [(0, vr 145), (1, vi x1), (2, vi 0)] [] (B0, n21)) ∧
      (x22 = 0 →
        (Ev w d 0 0 mX12_tell [vr 145, vi (-1)] (B0, n21) (fun r h' => ∃ (x25 : Int) (n24 : NM), r = some (vi x25) ∧ h' = (B0, n24) ∧ 
          Q (some (vi x25)) (B0, n24)))))))) :
    Rn w mX12_image (d + 1) G Q 0 [(0, vr 145), (1, vi x1)] [] (B0, n) := by
  refine r_aload_n dX12_image_0 rfl rfl ?_
  refine r_iconst (x := 0) dX12_image_1 rfl (by decide) ?_
  refine r_putI (fi := 0) (h' := (B0, upn n 145 0 0)) dX12_image_2 pX12_76 ob_145 (by decide) rfl rfl rfl ?_
  refine r_iload_n dX12_image_5 rfl rfl ?_
  refine r_i2l dX12_image_6 ?_
  refine r_lconst (x := 0) dX12_image_7 rfl (by decide) ?_
  refine r_lconst (x := 1) dX12_image_8 rfl (by decide) ?_
  refine r_callS (args := [vl x1, vl 0, vl 1]) dX12_image_9 kX12_82 rfl rfl (Nat.le_of_ble_eq_true rfl) cap0 (Ev.mono V ?_)
  rintro r h' ⟨x22, n21, rfl, rfl, V⟩
  show Rn w mX12_image (d + 1) G Q 12 [(0, vr 145), (1, vi x1)] [vi x22] (B0, n21)
  obtain ⟨V1, V2⟩ := V
  refine r_zne (tgt := 21) dX12_image_12 (by decide) (fun c23 => ?_) (fun c23 => ?_)
  · have V := V1 c23
    refine r_iconst (x := 0) dX12_image_21 rfl (by decide) ?_
    refine r_istore_n (ls' := [(0, vr 145), (1, vi x1), (2, vi 0)]) dX12_image_22 rfl (by decide) rfl ?_
    exact V
  · have V := V2 c23
    refine r_aload_n dX12_image_15 rfl rfl ?_
    refine r_iconst (x := -1) dX12_image_16 rfl (by decide) ?_
    refine r_callV (args := [vi (-1)]) dX12_image_17 kX12_86 ob_145 ⟨_, _, rfl⟩ (by decide) rfl rfl (Nat.le_of_ble_eq_true rfl) cap0 (Ev.mono V ?_)
    rintro r h' ⟨x25, n24, rfl, rfl, V⟩
    show Rn w mX12_image (d + 1) G Q 20 [(0, vr 145), (1, vi x1)] [vi x25] (B0, n24)
    exact r_iret dX12_image_20 rfl V

theorem gX12_image_23 {w : WD} {d : Nat} {G : GM} {Q : Option AV → Hp → Prop} {n : NM} {x1 x2 : Int}
    (V :
    ((1800 ≤ x2 →
      (0 ≤ x1) ∧
      (x1 < 2) ∧
      (Ev w d 0 0 mX12_tell [vr 145, vi 0] (B0, upn n 149 x1 1) (fun r h' => ∃ (x25 : Int) (n24 : NM), r = some (vi x25) ∧ h' = (B0, n24) ∧ 
        Q (some (vi x25)) (B0, n24)))) ∧
    (x2 < 1800 →
      (inI (1800 * x1)) ∧
      (inI ((1800 * x1) + x2)) ∧
      (0 ≤ x2) ∧
      (x2 < 1800) ∧
      (0 ≤ (1800 * x1) + x2) ∧
      ((1800 * x1) + x2 < 3600) ∧
      (inI (x2 + 1)) ∧
      Rn w mX12_image (d + 1) G Q 23 [(0, vr 145), (1, vi x1), (2, vi (x2 + 1))] [] (B0, upn n 148 ((1800 * x1) + x2) (n 147 x2))))) :
    Rn w mX12_image (d + 1) G Q 23 [(0, vr 145), (1, vi x1), (2, vi x2)] [] (B0, n) := by
  refine r_iload_n dX12_image_23 rfl rfl ?_
  refine r_sipush (x := 1800) dX12_image_24 (by decide +kernel) (by decide) ?_
  obtain ⟨V1, V2⟩ := V
  refine r_jge (tgt := 54) dX12_image_27 (by decide) (fun c21 => ?_) (fun c21 => ?_)
  · have V := V1 c21
    refine r_aload_n dX12_image_54 rfl rfl ?_
    refine r_getR (b := 149) dX12_image_55 fX12_19 ob_145 (by decide) rfl rfl ?_
    refine r_iload_n dX12_image_58 rfl rfl ?_
    refine r_iconst (x := 1) dX12_image_59 rfl (by decide) ?_
    obtain ⟨s22, V⟩ := V
    obtain ⟨s23, V⟩ := V
    refine r_zast (h' := (B0, upn n 149 x1 1)) dX12_image_60 ob_149 s22 s23 (by decide) rfl ?_
    refine r_aload_n dX12_image_61 rfl rfl ?_
    refine r_iconst (x := 0) dX12_image_62 rfl (by decide) ?_
    refine r_callV (args := [vi 0]) dX12_image_63 kX12_86 ob_145 ⟨_, _, rfl⟩ (by decide) rfl rfl (Nat.le_of_ble_eq_true rfl) cap0 (Ev.mono V ?_)
    rintro r h' ⟨x25, n24, rfl, rfl, V⟩
    show Rn w mX12_image (d + 1) G Q 66 [(0, vr 145), (1, vi x1), (2, vi x2)] [vi x25] (B0, n24)
    exact r_iret dX12_image_66 rfl V
  · have V := V2 c21
    refine r_aload_n dX12_image_30 rfl rfl ?_
    refine r_getR (b := 148) dX12_image_31 fX12_16 ob_145 (by decide) rfl rfl ?_
    refine r_sipush (x := 1800) dX12_image_34 (by decide +kernel) (by decide) ?_
    refine r_iload_n dX12_image_37 rfl rfl ?_
    obtain ⟨s26, V⟩ := V
    refine r_imul dX12_image_38 s26 ?_
    refine r_iload_n dX12_image_39 rfl rfl ?_
    obtain ⟨s27, V⟩ := V
    refine r_iadd dX12_image_40 s27 ?_
    refine r_aload_n dX12_image_41 rfl rfl ?_
    refine r_getR (b := 147) dX12_image_42 fX12_13 ob_145 (by decide) rfl rfl ?_
    refine r_iload_n dX12_image_45 rfl rfl ?_
    obtain ⟨s28, V⟩ := V
    obtain ⟨s29, V⟩ := V
    refine r_iald dX12_image_46 ob_147 s28 s29 ?_
    obtain ⟨s30, V⟩ := V
    obtain ⟨s31, V⟩ := V
    refine r_iast (h' := (B0, upn n 148 ((1800 * x1) + x2) (n 147 x2))) dX12_image_47 ob_148 s30 s31 rfl ?_
    obtain ⟨s32, V⟩ := V
    refine r_iinc (y := x2 + 1) (ls' := [(0, vr 145), (1, vi x1), (2, vi (x2 + 1))]) dX12_image_48 rfl rfl s32 (by decide) rfl ?_
    refine r_goto (tgt := 23) dX12_image_51 (by decide) ?_
    exact V

theorem gX12_back_0 {w : WD} {d : Nat} {G : GM} {Q : Option AV → Hp → Prop} {n : NM} {x1 : Int}
    (V :
    (Ev w d 0 0 mX12_in [vl x1, vl 0, vl 1] (B0, upn n 145 0 0) (fun r h' => ∃ (x22 : Int) (n21 : NM), r = some (vi x22) ∧ h' = (B0, n21) ∧ 
      ((x22 ≠ 0 →
        (0 ≤ x1) ∧
        (x1 < 2) ∧
        ((n21 149 x1 ≠ 0 →
          Rn w mX12_back (d + 1) G Q 39 [(0, vr 145), (1, vi x1), (2, vi 0)] [] (B0, n21)) ∧
        (n21 149 x1 = 0 →
          (Ev w d 0 0 mX12_tell [vr 145, vi (-2)] (B0, n21) (fun r h' => ∃ (x28 : Int) (n27 : NM), r = some (vi x28) ∧ h' = (B0, n27) ∧ 
            Q (some (vi x28)) (B0, n27)))))) ∧
      (x22 = 0 →
        (Ev w d 0 0 mX12_tell [vr 145, vi (-1)] (B0, n21) (fun r h' => ∃ (x30 : Int) (n29 : NM), r = some (vi x30) ∧ h' = (B0, n29) ∧ 
          Q (some (vi x30)) (B0, n29)))))))) :
    Rn w mX12_back (d + 1) G Q 0 [(0, vr 145), (1, vi x1)] [] (B0, n) := by
  refine r_aload_n dX12_back_0 rfl rfl ?_
  refine r_iconst (x := 0) dX12_back_1 rfl (by decide) ?_
  refine r_putI (fi := 0) (h' := (B0, upn n 145 0 0)) dX12_back_2 pX12_76 ob_145 (by decide) rfl rfl rfl ?_
  refine r_iload_n dX12_back_5 rfl rfl ?_
  refine r_i2l dX12_back_6 ?_
  refine r_lconst (x := 0) dX12_back_7 rfl (by decide) ?_
  refine r_lconst (x := 1) dX12_back_8 rfl (by decide) ?_
  refine r_callS (args := [vl x1, vl 0, vl 1]) dX12_back_9 kX12_82 rfl rfl (Nat.le_of_ble_eq_true rfl) cap0 (Ev.mono V ?_)
  rintro r h' ⟨x22, n21, rfl, rfl, V⟩
  show Rn w mX12_back (d + 1) G Q 12 [(0, vr 145), (1, vi x1)] [vi x22] (B0, n21)
  obtain ⟨V1, V2⟩ := V
  refine r_zne (tgt := 21) dX12_back_12 (by decide) (fun c23 => ?_) (fun c23 => ?_)
  · have V := V1 c23
    refine r_aload_n dX12_back_21 rfl rfl ?_
    refine r_getR (b := 149) dX12_back_22 fX12_19 ob_145 (by decide) rfl rfl ?_
    refine r_iload_n dX12_back_25 rfl rfl ?_
    obtain ⟨s24, V⟩ := V
    obtain ⟨s25, V⟩ := V
    refine r_zald dX12_back_26 ob_149 s24 s25 (fun _ => ?_)
    obtain ⟨V1, V2⟩ := V
    refine r_zne (tgt := 37) dX12_back_27 (by decide) (fun c26 => ?_) (fun c26 => ?_)
    · have V := V1 c26
      refine r_iconst (x := 0) dX12_back_37 rfl (by decide) ?_
      refine r_istore_n (ls' := [(0, vr 145), (1, vi x1), (2, vi 0)]) dX12_back_38 rfl (by decide) rfl ?_
      exact V
    · have V := V2 c26
      refine r_aload_n dX12_back_30 rfl rfl ?_
      refine r_bipush (x := -2) dX12_back_31 (by decide +kernel) (by decide) ?_
      refine r_callV (args := [vi (-2)]) dX12_back_33 kX12_86 ob_145 ⟨_, _, rfl⟩ (by decide) rfl rfl (Nat.le_of_ble_eq_true rfl) cap0 (Ev.mono V ?_)
      rintro r h' ⟨x28, n27, rfl, rfl, V⟩
      show Rn w mX12_back (d + 1) G Q 36 [(0, vr 145), (1, vi x1)] [vi x28] (B0, n27)
      exact r_iret dX12_back_36 rfl V
  · have V := V2 c23
    refine r_aload_n dX12_back_15 rfl rfl ?_
    refine r_iconst (x := -1) dX12_back_16 rfl (by decide) ?_
    refine r_callV (args := [vi (-1)]) dX12_back_17 kX12_86 ob_145 ⟨_, _, rfl⟩ (by decide) rfl rfl (Nat.le_of_ble_eq_true rfl) cap0 (Ev.mono V ?_)
    rintro r h' ⟨x30, n29, rfl, rfl, V⟩
    show Rn w mX12_back (d + 1) G Q 20 [(0, vr 145), (1, vi x1)] [vi x30] (B0, n29)
    exact r_iret dX12_back_20 rfl V

theorem gX12_back_39 {w : WD} {d : Nat} {G : GM} {Q : Option AV → Hp → Prop} {n : NM} {x1 x2 : Int}
    (V :
    ((1800 ≤ x2 →
      (Ev w d 0 0 mX12_tell [vr 145, vi 0] (B0, n) (fun r h' => ∃ (x23 : Int) (n22 : NM), r = some (vi x23) ∧ h' = (B0, n22) ∧ 
        Q (some (vi x23)) (B0, n22)))) ∧
    (x2 < 1800 →
      (inI (1800 * x1)) ∧
      (inI ((1800 * x1) + x2)) ∧
      (0 ≤ (1800 * x1) + x2) ∧
      ((1800 * x1) + x2 < 3600) ∧
      (0 ≤ x2) ∧
      (x2 < 1800) ∧
      (inI (x2 + 1)) ∧
      Rn w mX12_back (d + 1) G Q 39 [(0, vr 145), (1, vi x1), (2, vi (x2 + 1))] [] (B0, upn n 147 x2 (n 148 ((1800 * x1) + x2)))))) :
    Rn w mX12_back (d + 1) G Q 39 [(0, vr 145), (1, vi x1), (2, vi x2)] [] (B0, n) := by
  refine r_iload_n dX12_back_39 rfl rfl ?_
  refine r_sipush (x := 1800) dX12_back_40 (by decide +kernel) (by decide) ?_
  obtain ⟨V1, V2⟩ := V
  refine r_jge (tgt := 70) dX12_back_43 (by decide) (fun c21 => ?_) (fun c21 => ?_)
  · have V := V1 c21
    refine r_aload_n dX12_back_70 rfl rfl ?_
    refine r_iconst (x := 0) dX12_back_71 rfl (by decide) ?_
    refine r_callV (args := [vi 0]) dX12_back_72 kX12_86 ob_145 ⟨_, _, rfl⟩ (by decide) rfl rfl (Nat.le_of_ble_eq_true rfl) cap0 (Ev.mono V ?_)
    rintro r h' ⟨x23, n22, rfl, rfl, V⟩
    show Rn w mX12_back (d + 1) G Q 75 [(0, vr 145), (1, vi x1), (2, vi x2)] [vi x23] (B0, n22)
    exact r_iret dX12_back_75 rfl V
  · have V := V2 c21
    refine r_aload_n dX12_back_46 rfl rfl ?_
    refine r_getR (b := 147) dX12_back_47 fX12_13 ob_145 (by decide) rfl rfl ?_
    refine r_iload_n dX12_back_50 rfl rfl ?_
    refine r_aload_n dX12_back_51 rfl rfl ?_
    refine r_getR (b := 148) dX12_back_52 fX12_16 ob_145 (by decide) rfl rfl ?_
    refine r_sipush (x := 1800) dX12_back_55 (by decide +kernel) (by decide) ?_
    refine r_iload_n dX12_back_58 rfl rfl ?_
    obtain ⟨s24, V⟩ := V
    refine r_imul dX12_back_59 s24 ?_
    refine r_iload_n dX12_back_60 rfl rfl ?_
    obtain ⟨s25, V⟩ := V
    refine r_iadd dX12_back_61 s25 ?_
    obtain ⟨s26, V⟩ := V
    obtain ⟨s27, V⟩ := V
    refine r_iald dX12_back_62 ob_148 s26 s27 ?_
    obtain ⟨s28, V⟩ := V
    obtain ⟨s29, V⟩ := V
    refine r_iast (h' := (B0, upn n 147 x2 (n 148 ((1800 * x1) + x2)))) dX12_back_63 ob_147 s28 s29 rfl ?_
    obtain ⟨s30, V⟩ := V
    refine r_iinc (y := x2 + 1) (ls' := [(0, vr 145), (1, vi x1), (2, vi (x2 + 1))]) dX12_back_64 rfl rfl s30 (by decide) rfl ?_
    refine r_goto (tgt := 39) dX12_back_67 (by decide) ?_
    exact V

theorem gX12_isDay_0 {w : WD} {d : Nat} {G : GM} {Q : Option AV → Hp → Prop} {n : NM} {x0 : Int}
    (V :
    (Ev w d 0 0 mX12_in [vl x0, vl 0, vl 59] (B0, n) (fun r h' => ∃ (x22 : Int) (n21 : NM), r = some (vi x22) ∧ h' = (B0, n21) ∧ 
      (x22 = 0 ∨ x22 = 1) ∧
      Q (some (vi x22)) (B0, n21)))) :
    Rn w mX12_isDay (d + 1) G Q 0 [(0, vi x0)] [] (B0, n) := by
  refine r_iload_n dX12_isDay_0 rfl rfl ?_
  refine r_i2l dX12_isDay_1 ?_
  refine r_lconst (x := 0) dX12_isDay_2 rfl (by decide) ?_
  refine r_ldc2 (x := 59) dX12_isDay_3 qX12_90 (by decide) ?_
  refine r_callS (args := [vl x0, vl 0, vl 59]) dX12_isDay_6 kX12_82 rfl rfl (Nat.le_of_ble_eq_true rfl) cap0 (Ev.mono V ?_)
  rintro r h' ⟨x22, n21, rfl, rfl, V⟩
  show Rn w mX12_isDay (d + 1) G Q 9 [(0, vi x0)] [vi x22] (B0, n21)
  obtain ⟨s23, V⟩ := V
  exact r_zret dX12_isDay_9 rfl s23 V

theorem gX12_isMinute_0 {w : WD} {d : Nat} {G : GM} {Q : Option AV → Hp → Prop} {n : NM} {x0 : Int}
    (V :
    (Ev w d 0 0 mX12_in [vl x0, vl 0, vl 1439] (B0, n) (fun r h' => ∃ (x22 : Int) (n21 : NM), r = some (vi x22) ∧ h' = (B0, n21) ∧ 
      (x22 = 0 ∨ x22 = 1) ∧
      Q (some (vi x22)) (B0, n21)))) :
    Rn w mX12_isMinute (d + 1) G Q 0 [(0, vi x0)] [] (B0, n) := by
  refine r_iload_n dX12_isMinute_0 rfl rfl ?_
  refine r_i2l dX12_isMinute_1 ?_
  refine r_lconst (x := 0) dX12_isMinute_2 rfl (by decide) ?_
  refine r_ldc2 (x := 1439) dX12_isMinute_3 qX12_92 (by decide) ?_
  refine r_callS (args := [vl x0, vl 0, vl 1439]) dX12_isMinute_6 kX12_82 rfl rfl (Nat.le_of_ble_eq_true rfl) cap0 (Ev.mono V ?_)
  rintro r h' ⟨x22, n21, rfl, rfl, V⟩
  show Rn w mX12_isMinute (d + 1) G Q 9 [(0, vi x0)] [vi x22] (B0, n21)
  obtain ⟨s23, V⟩ := V
  exact r_zret dX12_isMinute_9 rfl s23 V

theorem gX12_isPlace_0 {w : WD} {d : Nat} {G : GM} {Q : Option AV → Hp → Prop} {n : NM} {x0 : Int}
    (V :
    (Ev w d 0 0 mX12_in [vl x0, vl 0, vl 23] (B0, n) (fun r h' => ∃ (x22 : Int) (n21 : NM), r = some (vi x22) ∧ h' = (B0, n21) ∧ 
      (x22 = 0 ∨ x22 = 1) ∧
      Q (some (vi x22)) (B0, n21)))) :
    Rn w mX12_isPlace (d + 1) G Q 0 [(0, vi x0)] [] (B0, n) := by
  refine r_iload_n dX12_isPlace_0 rfl rfl ?_
  refine r_i2l dX12_isPlace_1 ?_
  refine r_lconst (x := 0) dX12_isPlace_2 rfl (by decide) ?_
  refine r_ldc2 (x := 23) dX12_isPlace_3 qX12_94 (by decide) ?_
  refine r_callS (args := [vl x0, vl 0, vl 23]) dX12_isPlace_6 kX12_82 rfl rfl (Nat.le_of_ble_eq_true rfl) cap0 (Ev.mono V ?_)
  rintro r h' ⟨x22, n21, rfl, rfl, V⟩
  show Rn w mX12_isPlace (d + 1) G Q 9 [(0, vi x0)] [vi x22] (B0, n21)
  obtain ⟨s23, V⟩ := V
  exact r_zret dX12_isPlace_9 rfl s23 V

theorem gX12_is_0 {w : WD} {d : Nat} {G : GM} {Q : Option AV → Hp → Prop} {n : NM} {x1 x2 : Int}
    (V :
    (0 ≤ x1) ∧
    (x1 < 1800) ∧
    (inJ ((n 147 x1) - 1)) ∧
    (Ev w d 0 0 mX12_in [vl x2, vl 0, vl ((n 147 x1) - 1)] (B0, n) (fun r h' => ∃ (x25 : Int) (n24 : NM), r = some (vi x25) ∧ h' = (B0, n24) ∧ 
      (x25 = 0 ∨ x25 = 1) ∧
      Q (some (vi x25)) (B0, n24)))) :
    Rn w mX12_is (d + 1) G Q 0 [(0, vr 145), (1, vi x1), (2, vi x2)] [] (B0, n) := by
  refine r_iload_n dX12_is_0 rfl rfl ?_
  refine r_i2l dX12_is_1 ?_
  refine r_lconst (x := 0) dX12_is_2 rfl (by decide) ?_
  refine r_aload_n dX12_is_3 rfl rfl ?_
  refine r_getR (b := 147) dX12_is_4 fX12_13 ob_145 (by decide) rfl rfl ?_
  refine r_iload_n dX12_is_7 rfl rfl ?_
  obtain ⟨s21, V⟩ := V
  obtain ⟨s22, V⟩ := V
  refine r_iald dX12_is_8 ob_147 s21 s22 ?_
  refine r_i2l dX12_is_9 ?_
  refine r_lconst (x := 1) dX12_is_10 rfl (by decide) ?_
  obtain ⟨s23, V⟩ := V
  refine r_lsub dX12_is_11 s23 ?_
  refine r_callS (args := [vl x2, vl 0, vl ((n 147 x1) - 1)]) dX12_is_12 kX12_82 rfl rfl (Nat.le_of_ble_eq_true rfl) cap0 (Ev.mono V ?_)
  rintro r h' ⟨x25, n24, rfl, rfl, V⟩
  show Rn w mX12_is (d + 1) G Q 15 [(0, vr 145), (1, vi x1), (2, vi x2)] [vi x25] (B0, n24)
  obtain ⟨s26, V⟩ := V
  exact r_zret dX12_is_15 rfl s26 V

theorem gX12_add_0 {w : WD} {d : Nat} {G : GM} {Q : Option AV → Hp → Prop} {n : NM} {x1 x2 x3 x4 x5 x6 x7 x8 : Int}
    (V :
    (0 ≤ x1) ∧
    (x1 < 1800) ∧
    ((n 147 x1 ≠ x2 →
      (0 ≤ x1) ∧
      (x1 < 1800) ∧
      (inI (x4 * (n 147 x1))) ∧
      (inI (x3 + (x4 * (n 147 x1)))) ∧
      (0 ≤ x3 + (x4 * (n 147 x1))) ∧
      (x3 + (x4 * (n 147 x1)) < 1800) ∧
      ((x4 ≤ 1 →
        Rn w mX12_add (d + 1) G Q 56 [(0, vr 145), (1, vi x1), (4, vi x4), (7, vi x7), (8, vi x8), (9, vi (x3 + (x4 * (n 147 x1))))] [] (B0, upn n 147 (x3 + (x4 * (n 147 x1))) x5)) ∧
      (1 < x4 →
        (inI ((x3 + (x4 * (n 147 x1))) + 1)) ∧
        (0 ≤ (x3 + (x4 * (n 147 x1))) + 1) ∧
        ((x3 + (x4 * (n 147 x1))) + 1 < 1800) ∧
        Rn w mX12_add (d + 1) G Q 56 [(0, vr 145), (1, vi x1), (4, vi x4), (7, vi x7), (8, vi x8), (9, vi (x3 + (x4 * (n 147 x1))))] [] (B0, upn (upn n 147 (x3 + (x4 * (n 147 x1))) x5) 147 ((x3 + (x4 * (n 147 x1))) + 1) x6)))) ∧
    (n 147 x1 = x2 →
      (Ev w d 0 0 mX12_tell [vr 145, vi (-5)] (B0, n) (fun r h' => ∃ (x35 : Int) (n34 : NM), r = some (vi x35) ∧ h' = (B0, n34) ∧ 
        Q (some (vi x35)) (B0, n34)))))) :
    Rn w mX12_add (d + 1) G Q 0 [(0, vr 145), (1, vi x1), (2, vi x2), (3, vi x3), (4, vi x4), (5, vi x5), (6, vi x6), (7, vi x7), (8, vi x8)] [] (B0, n) := by
  refine r_aload_n dX12_add_0 rfl rfl ?_
  refine r_getR (b := 147) dX12_add_1 fX12_13 ob_145 (by decide) rfl rfl ?_
  refine r_iload_n dX12_add_4 rfl rfl ?_
  obtain ⟨s21, V⟩ := V
  obtain ⟨s22, V⟩ := V
  refine r_iald dX12_add_5 ob_147 s21 s22 ?_
  refine r_iload_n dX12_add_6 rfl rfl ?_
  obtain ⟨V1, V2⟩ := V
  refine r_jne (tgt := 17) dX12_add_7 (by decide) (fun c23 => ?_) (fun c23 => ?_)
  · have V := V1 c23
    refine r_iload_n dX12_add_17 rfl rfl ?_
    refine r_iload dX12_add_18 rfl ?_
    refine r_aload_n dX12_add_20 rfl rfl ?_
    refine r_getR (b := 147) dX12_add_21 fX12_13 ob_145 (by decide) rfl rfl ?_
    refine r_iload_n dX12_add_24 rfl rfl ?_
    obtain ⟨s24, V⟩ := V
    obtain ⟨s25, V⟩ := V
    refine r_iald dX12_add_25 ob_147 s24 s25 ?_
    obtain ⟨s26, V⟩ := V
    refine r_imul dX12_add_26 s26 ?_
    obtain ⟨s27, V⟩ := V
    refine r_iadd dX12_add_27 s27 ?_
    refine r_istore (ls' := [(0, vr 145), (1, vi x1), (2, vi x2), (3, vi x3), (4, vi x4), (5, vi x5), (6, vi x6), (7, vi x7), (8, vi x8), (9, vi (x3 + (x4 * (n 147 x1))))]) dX12_add_28 (by decide) rfl ?_
    refine r_aload_n dX12_add_30 rfl rfl ?_
    refine r_getR (b := 147) dX12_add_31 fX12_13 ob_145 (by decide) rfl rfl ?_
    refine r_iload dX12_add_34 rfl ?_
    refine r_iload dX12_add_36 rfl ?_
    obtain ⟨s28, V⟩ := V
    obtain ⟨s29, V⟩ := V
    refine r_iast (h' := (B0, upn n 147 (x3 + (x4 * (n 147 x1))) x5)) dX12_add_38 ob_147 s28 s29 rfl ?_
    refine r_iload dX12_add_39 rfl ?_
    refine r_iconst (x := 1) dX12_add_41 rfl (by decide) ?_
    obtain ⟨V1, V2⟩ := V
    refine r_jle (tgt := 56) dX12_add_42 (by decide) (fun c30 => ?_) (fun c30 => ?_)
    · have V := V1 c30
      refine r_pick [0, 1, 4, 7, 8, 9] (ls' := [(0, vr 145), (1, vi x1), (4, vi x4), (7, vi x7), (8, vi x8), (9, vi (x3 + (x4 * (n 147 x1))))]) rfl ?_
      exact V
    · have V := V2 c30
      refine r_aload_n dX12_add_45 rfl rfl ?_
      refine r_getR (b := 147) dX12_add_46 fX12_13 ob_145 (by decide) rfl rfl ?_
      refine r_iload dX12_add_49 rfl ?_
      refine r_iconst (x := 1) dX12_add_51 rfl (by decide) ?_
      obtain ⟨s31, V⟩ := V
      refine r_iadd dX12_add_52 s31 ?_
      refine r_iload dX12_add_53 rfl ?_
      obtain ⟨s32, V⟩ := V
      obtain ⟨s33, V⟩ := V
      refine r_iast (h' := (B0, upn (upn n 147 (x3 + (x4 * (n 147 x1))) x5) 147 ((x3 + (x4 * (n 147 x1))) + 1) x6)) dX12_add_55 ob_147 s32 s33 rfl ?_
      refine r_pick [0, 1, 4, 7, 8, 9] (ls' := [(0, vr 145), (1, vi x1), (4, vi x4), (7, vi x7), (8, vi x8), (9, vi (x3 + (x4 * (n 147 x1))))]) rfl ?_
      exact V
  · have V := V2 c23
    refine r_aload_n dX12_add_10 rfl rfl ?_
    refine r_bipush (x := -5) dX12_add_11 (by decide +kernel) (by decide) ?_
    refine r_callV (args := [vi (-5)]) dX12_add_13 kX12_86 ob_145 ⟨_, _, rfl⟩ (by decide) rfl rfl (Nat.le_of_ble_eq_true rfl) cap0 (Ev.mono V ?_)
    rintro r h' ⟨x35, n34, rfl, rfl, V⟩
    show Rn w mX12_add (d + 1) G Q 16 [(0, vr 145), (1, vi x1), (2, vi x2), (3, vi x3), (4, vi x4), (5, vi x5), (6, vi x6), (7, vi x7), (8, vi x8)] [vi x35] (B0, n34)
    exact r_iret dX12_add_16 rfl V

theorem gX12_add_56 {w : WD} {d : Nat} {G : GM} {Q : Option AV → Hp → Prop} {n : NM} {x1 x4 x7 x8 x9 : Int}
    (V :
    ((x4 ≤ 2 →
      Rn w mX12_add d G Q 73 [(0, vr 145), (1, vi x1), (4, vi x4), (8, vi x8), (9, vi x9)] [] (B0, n)) ∧
    (2 < x4 →
      (inI (x9 + 2)) ∧
      (0 ≤ x9 + 2) ∧
      (x9 + 2 < 1800) ∧
      Rn w mX12_add d G Q 73 [(0, vr 145), (1, vi x1), (4, vi x4), (8, vi x8), (9, vi x9)] [] (B0, upn n 147 (x9 + 2) x7)))) :
    Rn w mX12_add d G Q 56 [(0, vr 145), (1, vi x1), (4, vi x4), (7, vi x7), (8, vi x8), (9, vi x9)] [] (B0, n) := by
  refine r_iload dX12_add_56 rfl ?_
  refine r_iconst (x := 2) dX12_add_58 rfl (by decide) ?_
  obtain ⟨V1, V2⟩ := V
  refine r_jle (tgt := 73) dX12_add_59 (by decide) (fun c21 => ?_) (fun c21 => ?_)
  · have V := V1 c21
    refine r_pick [0, 1, 2, 4, 5] (ls' := [(0, vr 145), (1, vi x1), (4, vi x4), (8, vi x8), (9, vi x9)]) rfl ?_
    exact V
  · have V := V2 c21
    refine r_aload_n dX12_add_62 rfl rfl ?_
    refine r_getR (b := 147) dX12_add_63 fX12_13 ob_145 (by decide) rfl rfl ?_
    refine r_iload dX12_add_66 rfl ?_
    refine r_iconst (x := 2) dX12_add_68 rfl (by decide) ?_
    obtain ⟨s22, V⟩ := V
    refine r_iadd dX12_add_69 s22 ?_
    refine r_iload dX12_add_70 rfl ?_
    obtain ⟨s23, V⟩ := V
    obtain ⟨s24, V⟩ := V
    refine r_iast (h' := (B0, upn n 147 (x9 + 2) x7)) dX12_add_72 ob_147 s23 s24 rfl ?_
    refine r_pick [0, 1, 2, 4, 5] (ls' := [(0, vr 145), (1, vi x1), (4, vi x4), (8, vi x8), (9, vi x9)]) rfl ?_
    exact V

theorem gX12_add_73 {w : WD} {d : Nat} {G : GM} {Q : Option AV → Hp → Prop} {n : NM} {x1 x4 x8 x9 : Int}
    (V :
    ((x4 ≤ 3 →
      Rn w mX12_add d G Q 90 [(0, vr 145), (1, vi x1)] [] (B0, n)) ∧
    (3 < x4 →
      (inI (x9 + 3)) ∧
      (0 ≤ x9 + 3) ∧
      (x9 + 3 < 1800) ∧
      Rn w mX12_add d G Q 90 [(0, vr 145), (1, vi x1)] [] (B0, upn n 147 (x9 + 3) x8)))) :
    Rn w mX12_add d G Q 73 [(0, vr 145), (1, vi x1), (4, vi x4), (8, vi x8), (9, vi x9)] [] (B0, n) := by
  refine r_iload dX12_add_73 rfl ?_
  refine r_iconst (x := 3) dX12_add_75 rfl (by decide) ?_
  obtain ⟨V1, V2⟩ := V
  refine r_jle (tgt := 90) dX12_add_76 (by decide) (fun c21 => ?_) (fun c21 => ?_)
  · have V := V1 c21
    refine r_pick [0, 1] (ls' := [(0, vr 145), (1, vi x1)]) rfl ?_
    exact V
  · have V := V2 c21
    refine r_aload_n dX12_add_79 rfl rfl ?_
    refine r_getR (b := 147) dX12_add_80 fX12_13 ob_145 (by decide) rfl rfl ?_
    refine r_iload dX12_add_83 rfl ?_
    refine r_iconst (x := 3) dX12_add_85 rfl (by decide) ?_
    obtain ⟨s22, V⟩ := V
    refine r_iadd dX12_add_86 s22 ?_
    refine r_iload dX12_add_87 rfl ?_
    obtain ⟨s23, V⟩ := V
    obtain ⟨s24, V⟩ := V
    refine r_iast (h' := (B0, upn n 147 (x9 + 3) x8)) dX12_add_89 ob_147 s23 s24 rfl ?_
    refine r_pick [0, 1] (ls' := [(0, vr 145), (1, vi x1)]) rfl ?_
    exact V

theorem gX12_add_90 {w : WD} {d : Nat} {G : GM} {Q : Option AV → Hp → Prop} {n : NM} {x1 : Int}
    (V :
    (0 ≤ x1) ∧
    (x1 < 1800) ∧
    (inI ((n 147 x1) + 1)) ∧
    (0 ≤ x1) ∧
    (x1 < 1800) ∧
    (0 ≤ x1) ∧
    (x1 < 1800) ∧
    (inI (((upn n 147 x1 ((n 147 x1) + 1)) 147 x1) - 1)) ∧
    (Ev w d 0 0 mX12_tell [vr 145, vi (((upn n 147 x1 ((n 147 x1) + 1)) 147 x1) - 1)] (B0, upn n 147 x1 ((n 147 x1) + 1)) (fun r h' => ∃ (x30 : Int) (n29 : NM), r = some (vi x30) ∧ h' = (B0, n29) ∧ 
      Q (some (vi x30)) (B0, n29)))) :
    Rn w mX12_add (d + 1) G Q 90 [(0, vr 145), (1, vi x1)] [] (B0, n) := by
  refine r_aload_n dX12_add_90 rfl rfl ?_
  refine r_getR (b := 147) dX12_add_91 fX12_13 ob_145 (by decide) rfl rfl ?_
  refine r_iload_n dX12_add_94 rfl rfl ?_
  refine r_dup2 dX12_add_95 rfl rfl ?_
  obtain ⟨s21, V⟩ := V
  obtain ⟨s22, V⟩ := V
  refine r_iald dX12_add_96 ob_147 s21 s22 ?_
  refine r_iconst (x := 1) dX12_add_97 rfl (by decide) ?_
  obtain ⟨s23, V⟩ := V
  refine r_iadd dX12_add_98 s23 ?_
  obtain ⟨s24, V⟩ := V
  obtain ⟨s25, V⟩ := V
  refine r_iast (h' := (B0, upn n 147 x1 ((n 147 x1) + 1))) dX12_add_99 ob_147 s24 s25 rfl ?_
  refine r_aload_n dX12_add_100 rfl rfl ?_
  refine r_aload_n dX12_add_101 rfl rfl ?_
  refine r_getR (b := 147) dX12_add_102 fX12_13 ob_145 (by decide) rfl rfl ?_
  refine r_iload_n dX12_add_105 rfl rfl ?_
  obtain ⟨s26, V⟩ := V
  obtain ⟨s27, V⟩ := V
  refine r_iald dX12_add_106 ob_147 s26 s27 ?_
  refine r_iconst (x := 1) dX12_add_107 rfl (by decide) ?_
  obtain ⟨s28, V⟩ := V
  refine r_isub dX12_add_108 s28 ?_
  refine r_callV (args := [vi (((upn n 147 x1 ((n 147 x1) + 1)) 147 x1) - 1)]) dX12_add_109 kX12_86 ob_145 ⟨_, _, rfl⟩ (by decide) rfl rfl (Nat.le_of_ble_eq_true rfl) cap0 (Ev.mono V ?_)
  rintro r h' ⟨x30, n29, rfl, rfl, V⟩
  show Rn w mX12_add (d + 1) G Q 112 [(0, vr 145), (1, vi x1)] [vi x30] (B0, n29)
  exact r_iret dX12_add_112 rfl V

theorem gX12_day_0 {w : WD} {d : Nat} {G : GM} {Q : Option AV → Hp → Prop} {n : NM} {x1 x2 x3 : Int}
    (V :
    (Ev w d 0 0 mX12_isDay [vi x1] (B0, upn n 145 0 0) (fun r h' => ∃ (x22 : Int) (n21 : NM), r = some (vi x22) ∧ h' = (B0, n21) ∧ 
      ((x22 = 0 →
        (Ev w d 0 0 mX12_tell [vr 145, vi (-1)] (B0, n21) (fun r h' => ∃ (x25 : Int) (n24 : NM), r = some (vi x25) ∧ h' = (B0, n24) ∧ 
          Q (some (vi x25)) (B0, n24)))) ∧
      (x22 ≠ 0 →
        (Ev w d 0 0 mX12_in [vl x2, vl 0, vl 2] (B0, n21) (fun r h' => ∃ (x27 : Int) (n26 : NM), r = some (vi x27) ∧ h' = (B0, n26) ∧ 
          ((x27 = 0 →
            (Ev w d 0 0 mX12_tell [vr 145, vi (-1)] (B0, n26) (fun r h' => ∃ (x30 : Int) (n29 : NM), r = some (vi x30) ∧ h' = (B0, n29) ∧ 
              Q (some (vi x30)) (B0, n29)))) ∧
          (x27 ≠ 0 →
            (Ev w d 0 0 mX12_in [vl x3, vl 0, vl 9] (B0, n26) (fun r h' => ∃ (x32 : Int) (n31 : NM), r = some (vi x32) ∧ h' = (B0, n31) ∧ 
              ((x32 ≠ 0 →
                (inI (3 * x1)) ∧
                (inI (20 + (3 * x1))) ∧
                (inI ((20 + (3 * x1)) + x2)) ∧
                (0 ≤ (20 + (3 * x1)) + x2) ∧
                ((20 + (3 * x1)) + x2 < 1800) ∧
                (inI (3 * x1)) ∧
                (inI (20 + (3 * x1))) ∧
                (inI ((20 + (3 * x1)) + x2)) ∧
                (0 ≤ (20 + (3 * x1)) + x2) ∧
                ((20 + (3 * x1)) + x2 < 1800) ∧
                (Ev w d 0 0 mX12_tell [vr 145, vi (n31 147 ((20 + (3 * x1)) + x2))] (B0, upn n31 147 ((20 + (3 * x1)) + x2) x3) (fun r h' => ∃ (x45 : Int) (n44 : NM), r = some (vi x45) ∧ h' = (B0, n44) ∧ 
                  Q (some (vi x45)) (B0, n44)))) ∧
              (x32 = 0 →
                (Ev w d 0 0 mX12_tell [vr 145, vi (-1)] (B0, n31) (fun r h' => ∃ (x47 : Int) (n46 : NM), r = some (vi x47) ∧ h' = (B0, n46) ∧ 
                  Q (some (vi x47)) (B0, n46)))))))))))))))) :
    Rn w mX12_day (d + 1) G Q 0 [(0, vr 145), (1, vi x1), (2, vi x2), (3, vi x3)] [] (B0, n) := by
  refine r_aload_n dX12_day_0 rfl rfl ?_
  refine r_iconst (x := 0) dX12_day_1 rfl (by decide) ?_
  refine r_putI (fi := 0) (h' := (B0, upn n 145 0 0)) dX12_day_2 pX12_76 ob_145 (by decide) rfl rfl rfl ?_
  refine r_iload_n dX12_day_5 rfl rfl ?_
  refine r_callS (args := [vi x1]) dX12_day_6 kX12_96 rfl rfl (Nat.le_of_ble_eq_true rfl) cap0 (Ev.mono V ?_)
  rintro r h' ⟨x22, n21, rfl, rfl, V⟩
  show Rn w mX12_day (d + 1) G Q 9 [(0, vr 145), (1, vi x1), (2, vi x2), (3, vi x3)] [vi x22] (B0, n21)
  obtain ⟨V1, V2⟩ := V
  refine r_zeq (tgt := 36) dX12_day_9 (by decide) (fun c23 => ?_) (fun c23 => ?_)
  · have V := V1 c23
    refine r_aload_n dX12_day_36 rfl rfl ?_
    refine r_iconst (x := -1) dX12_day_37 rfl (by decide) ?_
    refine r_callV (args := [vi (-1)]) dX12_day_38 kX12_86 ob_145 ⟨_, _, rfl⟩ (by decide) rfl rfl (Nat.le_of_ble_eq_true rfl) cap0 (Ev.mono V ?_)
    rintro r h' ⟨x25, n24, rfl, rfl, V⟩
    show Rn w mX12_day (d + 1) G Q 41 [(0, vr 145), (1, vi x1), (2, vi x2), (3, vi x3)] [vi x25] (B0, n24)
    exact r_iret dX12_day_41 rfl V
  · have V := V2 c23
    refine r_iload_n dX12_day_12 rfl rfl ?_
    refine r_i2l dX12_day_13 ?_
    refine r_lconst (x := 0) dX12_day_14 rfl (by decide) ?_
    refine r_ldc2 (x := 2) dX12_day_15 qX12_100 (by decide) ?_
    refine r_callS (args := [vl x2, vl 0, vl 2]) dX12_day_18 kX12_82 rfl rfl (Nat.le_of_ble_eq_true rfl) cap0 (Ev.mono V ?_)
    rintro r h' ⟨x27, n26, rfl, rfl, V⟩
    show Rn w mX12_day (d + 1) G Q 21 [(0, vr 145), (1, vi x1), (2, vi x2), (3, vi x3)] [vi x27] (B0, n26)
    obtain ⟨V1, V2⟩ := V
    refine r_zeq (tgt := 36) dX12_day_21 (by decide) (fun c28 => ?_) (fun c28 => ?_)
    · have V := V1 c28
      refine r_aload_n dX12_day_36 rfl rfl ?_
      refine r_iconst (x := -1) dX12_day_37 rfl (by decide) ?_
      refine r_callV (args := [vi (-1)]) dX12_day_38 kX12_86 ob_145 ⟨_, _, rfl⟩ (by decide) rfl rfl (Nat.le_of_ble_eq_true rfl) cap0 (Ev.mono V ?_)
      rintro r h' ⟨x30, n29, rfl, rfl, V⟩
      show Rn w mX12_day (d + 1) G Q 41 [(0, vr 145), (1, vi x1), (2, vi x2), (3, vi x3)] [vi x30] (B0, n29)
      exact r_iret dX12_day_41 rfl V
    · have V := V2 c28
      refine r_iload_n dX12_day_24 rfl rfl ?_
      refine r_i2l dX12_day_25 ?_
      refine r_lconst (x := 0) dX12_day_26 rfl (by decide) ?_
      refine r_ldc2 (x := 9) dX12_day_27 qX12_102 (by decide) ?_
      refine r_callS (args := [vl x3, vl 0, vl 9]) dX12_day_30 kX12_82 rfl rfl (Nat.le_of_ble_eq_true rfl) cap0 (Ev.mono V ?_)
      rintro r h' ⟨x32, n31, rfl, rfl, V⟩
      show Rn w mX12_day (d + 1) G Q 33 [(0, vr 145), (1, vi x1), (2, vi x2), (3, vi x3)] [vi x32] (B0, n31)
      obtain ⟨V1, V2⟩ := V
      refine r_zne (tgt := 42) dX12_day_33 (by decide) (fun c33 => ?_) (fun c33 => ?_)
      · have V := V1 c33
        refine r_aload_n dX12_day_42 rfl rfl ?_
        refine r_getR (b := 147) dX12_day_43 fX12_13 ob_145 (by decide) rfl rfl ?_
        refine r_bipush (x := 20) dX12_day_46 (by decide +kernel) (by decide) ?_
        refine r_iconst (x := 3) dX12_day_48 rfl (by decide) ?_
        refine r_iload_n dX12_day_49 rfl rfl ?_
        obtain ⟨s34, V⟩ := V
        refine r_imul dX12_day_50 s34 ?_
        obtain ⟨s35, V⟩ := V
        refine r_iadd dX12_day_51 s35 ?_
        refine r_iload_n dX12_day_52 rfl rfl ?_
        obtain ⟨s36, V⟩ := V
        refine r_iadd dX12_day_53 s36 ?_
        obtain ⟨s37, V⟩ := V
        obtain ⟨s38, V⟩ := V
        refine r_iald dX12_day_54 ob_147 s37 s38 ?_
        refine r_istore (ls' := [(0, vr 145), (1, vi x1), (2, vi x2), (3, vi x3), (4, vi (n31 147 ((20 + (3 * x1)) + x2)))]) dX12_day_55 (by decide) rfl ?_
        refine r_aload_n dX12_day_57 rfl rfl ?_
        refine r_getR (b := 147) dX12_day_58 fX12_13 ob_145 (by decide) rfl rfl ?_
        refine r_bipush (x := 20) dX12_day_61 (by decide +kernel) (by decide) ?_
        refine r_iconst (x := 3) dX12_day_63 rfl (by decide) ?_
        refine r_iload_n dX12_day_64 rfl rfl ?_
        obtain ⟨s39, V⟩ := V
        refine r_imul dX12_day_65 s39 ?_
        obtain ⟨s40, V⟩ := V
        refine r_iadd dX12_day_66 s40 ?_
        refine r_iload_n dX12_day_67 rfl rfl ?_
        obtain ⟨s41, V⟩ := V
        refine r_iadd dX12_day_68 s41 ?_
        refine r_iload_n dX12_day_69 rfl rfl ?_
        obtain ⟨s42, V⟩ := V
        obtain ⟨s43, V⟩ := V
        refine r_iast (h' := (B0, upn n31 147 ((20 + (3 * x1)) + x2) x3)) dX12_day_70 ob_147 s42 s43 rfl ?_
        refine r_aload_n dX12_day_71 rfl rfl ?_
        refine r_iload dX12_day_72 rfl ?_
        refine r_callV (args := [vi (n31 147 ((20 + (3 * x1)) + x2))]) dX12_day_74 kX12_86 ob_145 ⟨_, _, rfl⟩ (by decide) rfl rfl (Nat.le_of_ble_eq_true rfl) cap0 (Ev.mono V ?_)
        rintro r h' ⟨x45, n44, rfl, rfl, V⟩
        show Rn w mX12_day (d + 1) G Q 77 [(0, vr 145), (1, vi x1), (2, vi x2), (3, vi x3), (4, vi (n31 147 ((20 + (3 * x1)) + x2)))] [vi x45] (B0, n44)
        exact r_iret dX12_day_77 rfl V
      · have V := V2 c33
        refine r_aload_n dX12_day_36 rfl rfl ?_
        refine r_iconst (x := -1) dX12_day_37 rfl (by decide) ?_
        refine r_callV (args := [vi (-1)]) dX12_day_38 kX12_86 ob_145 ⟨_, _, rfl⟩ (by decide) rfl rfl (Nat.le_of_ble_eq_true rfl) cap0 (Ev.mono V ?_)
        rintro r h' ⟨x47, n46, rfl, rfl, V⟩
        show Rn w mX12_day (d + 1) G Q 41 [(0, vr 145), (1, vi x1), (2, vi x2), (3, vi x3)] [vi x47] (B0, n46)
        exact r_iret dX12_day_41 rfl V

theorem gX12_boat_0 {w : WD} {d : Nat} {G : GM} {Q : Option AV → Hp → Prop} {n : NM} {x1 x2 x3 x4 : Int}
    (V :
    (Ev w d 0 0 mX12_isDay [vi x1] (B0, upn n 145 0 0) (fun r h' => ∃ (x22 : Int) (n21 : NM), r = some (vi x22) ∧ h' = (B0, n21) ∧ 
      ((x22 = 0 →
        (Ev w d 0 0 mX12_tell [vr 145, vi (-1)] (B0, n21) (fun r h' => ∃ (x25 : Int) (n24 : NM), r = some (vi x25) ∧ h' = (B0, n24) ∧ 
          Q (some (vi x25)) (B0, n24)))) ∧
      (x22 ≠ 0 →
        (Ev w d 0 0 mX12_in [vl x2, vl 0, vl 1] (B0, n21) (fun r h' => ∃ (x27 : Int) (n26 : NM), r = some (vi x27) ∧ h' = (B0, n26) ∧ 
          ((x27 = 0 →
            (Ev w d 0 0 mX12_tell [vr 145, vi (-1)] (B0, n26) (fun r h' => ∃ (x30 : Int) (n29 : NM), r = some (vi x30) ∧ h' = (B0, n29) ∧ 
              Q (some (vi x30)) (B0, n29)))) ∧
          (x27 ≠ 0 →
            (Ev w d 0 0 mX12_isMinute [vi x3] (B0, n26) (fun r h' => ∃ (x32 : Int) (n31 : NM), r = some (vi x32) ∧ h' = (B0, n31) ∧ 
              ((x32 = 0 →
                (Ev w d 0 0 mX12_tell [vr 145, vi (-1)] (B0, n31) (fun r h' => ∃ (x35 : Int) (n34 : NM), r = some (vi x35) ∧ h' = (B0, n34) ∧ 
                  Q (some (vi x35)) (B0, n34)))) ∧
              (x32 ≠ 0 →
                (Ev w d 0 0 mX12_in [vl x4, vl 1, vl 24] (B0, n31) (fun r h' => ∃ (x37 : Int) (n36 : NM), r = some (vi x37) ∧ h' = (B0, n36) ∧ 
                  ((x37 ≠ 0 →
                    (Ev w d 0 0 mX12_add [vr 145, vi 0, vi 12, vi 200, vi 4, vi x1, vi x2, vi x3, vi x4] (B0, n36) (fun r h' => ∃ (x40 : Int) (n39 : NM), r = some (vi x40) ∧ h' = (B0, n39) ∧ 
                      Q (some (vi x40)) (B0, n39)))) ∧
                  (x37 = 0 →
                    (Ev w d 0 0 mX12_tell [vr 145, vi (-1)] (B0, n36) (fun r h' => ∃ (x42 : Int) (n41 : NM), r = some (vi x42) ∧ h' = (B0, n41) ∧ 
                      Q (some (vi x42)) (B0, n41)))))))))))))))))))) :
    Rn w mX12_boat (d + 1) G Q 0 [(0, vr 145), (1, vi x1), (2, vi x2), (3, vi x3), (4, vi x4)] [] (B0, n) := by
  refine r_aload_n dX12_boat_0 rfl rfl ?_
  refine r_iconst (x := 0) dX12_boat_1 rfl (by decide) ?_
  refine r_putI (fi := 0) (h' := (B0, upn n 145 0 0)) dX12_boat_2 pX12_76 ob_145 (by decide) rfl rfl rfl ?_
  refine r_iload_n dX12_boat_5 rfl rfl ?_
  refine r_callS (args := [vi x1]) dX12_boat_6 kX12_96 rfl rfl (Nat.le_of_ble_eq_true rfl) cap0 (Ev.mono V ?_)
  rintro r h' ⟨x22, n21, rfl, rfl, V⟩
  show Rn w mX12_boat (d + 1) G Q 9 [(0, vr 145), (1, vi x1), (2, vi x2), (3, vi x3), (4, vi x4)] [vi x22] (B0, n21)
  obtain ⟨V1, V2⟩ := V
  refine r_zeq (tgt := 42) dX12_boat_9 (by decide) (fun c23 => ?_) (fun c23 => ?_)
  · have V := V1 c23
    refine r_aload_n dX12_boat_42 rfl rfl ?_
    refine r_iconst (x := -1) dX12_boat_43 rfl (by decide) ?_
    refine r_callV (args := [vi (-1)]) dX12_boat_44 kX12_86 ob_145 ⟨_, _, rfl⟩ (by decide) rfl rfl (Nat.le_of_ble_eq_true rfl) cap0 (Ev.mono V ?_)
    rintro r h' ⟨x25, n24, rfl, rfl, V⟩
    show Rn w mX12_boat (d + 1) G Q 47 [(0, vr 145), (1, vi x1), (2, vi x2), (3, vi x3), (4, vi x4)] [vi x25] (B0, n24)
    exact r_iret dX12_boat_47 rfl V
  · have V := V2 c23
    refine r_iload_n dX12_boat_12 rfl rfl ?_
    refine r_i2l dX12_boat_13 ?_
    refine r_lconst (x := 0) dX12_boat_14 rfl (by decide) ?_
    refine r_lconst (x := 1) dX12_boat_15 rfl (by decide) ?_
    refine r_callS (args := [vl x2, vl 0, vl 1]) dX12_boat_16 kX12_82 rfl rfl (Nat.le_of_ble_eq_true rfl) cap0 (Ev.mono V ?_)
    rintro r h' ⟨x27, n26, rfl, rfl, V⟩
    show Rn w mX12_boat (d + 1) G Q 19 [(0, vr 145), (1, vi x1), (2, vi x2), (3, vi x3), (4, vi x4)] [vi x27] (B0, n26)
    obtain ⟨V1, V2⟩ := V
    refine r_zeq (tgt := 42) dX12_boat_19 (by decide) (fun c28 => ?_) (fun c28 => ?_)
    · have V := V1 c28
      refine r_aload_n dX12_boat_42 rfl rfl ?_
      refine r_iconst (x := -1) dX12_boat_43 rfl (by decide) ?_
      refine r_callV (args := [vi (-1)]) dX12_boat_44 kX12_86 ob_145 ⟨_, _, rfl⟩ (by decide) rfl rfl (Nat.le_of_ble_eq_true rfl) cap0 (Ev.mono V ?_)
      rintro r h' ⟨x30, n29, rfl, rfl, V⟩
      show Rn w mX12_boat (d + 1) G Q 47 [(0, vr 145), (1, vi x1), (2, vi x2), (3, vi x3), (4, vi x4)] [vi x30] (B0, n29)
      exact r_iret dX12_boat_47 rfl V
    · have V := V2 c28
      refine r_iload_n dX12_boat_22 rfl rfl ?_
      refine r_callS (args := [vi x3]) dX12_boat_23 kX12_104 rfl rfl (Nat.le_of_ble_eq_true rfl) cap0 (Ev.mono V ?_)
      rintro r h' ⟨x32, n31, rfl, rfl, V⟩
      show Rn w mX12_boat (d + 1) G Q 26 [(0, vr 145), (1, vi x1), (2, vi x2), (3, vi x3), (4, vi x4)] [vi x32] (B0, n31)
      obtain ⟨V1, V2⟩ := V
      refine r_zeq (tgt := 42) dX12_boat_26 (by decide) (fun c33 => ?_) (fun c33 => ?_)
      · have V := V1 c33
        refine r_aload_n dX12_boat_42 rfl rfl ?_
        refine r_iconst (x := -1) dX12_boat_43 rfl (by decide) ?_
        refine r_callV (args := [vi (-1)]) dX12_boat_44 kX12_86 ob_145 ⟨_, _, rfl⟩ (by decide) rfl rfl (Nat.le_of_ble_eq_true rfl) cap0 (Ev.mono V ?_)
        rintro r h' ⟨x35, n34, rfl, rfl, V⟩
        show Rn w mX12_boat (d + 1) G Q 47 [(0, vr 145), (1, vi x1), (2, vi x2), (3, vi x3), (4, vi x4)] [vi x35] (B0, n34)
        exact r_iret dX12_boat_47 rfl V
      · have V := V2 c33
        refine r_iload dX12_boat_29 rfl ?_
        refine r_i2l dX12_boat_31 ?_
        refine r_lconst (x := 1) dX12_boat_32 rfl (by decide) ?_
        refine r_ldc2 (x := 24) dX12_boat_33 qX12_107 (by decide) ?_
        refine r_callS (args := [vl x4, vl 1, vl 24]) dX12_boat_36 kX12_82 rfl rfl (Nat.le_of_ble_eq_true rfl) cap0 (Ev.mono V ?_)
        rintro r h' ⟨x37, n36, rfl, rfl, V⟩
        show Rn w mX12_boat (d + 1) G Q 39 [(0, vr 145), (1, vi x1), (2, vi x2), (3, vi x3), (4, vi x4)] [vi x37] (B0, n36)
        obtain ⟨V1, V2⟩ := V
        refine r_zne (tgt := 48) dX12_boat_39 (by decide) (fun c38 => ?_) (fun c38 => ?_)
        · have V := V1 c38
          refine r_aload_n dX12_boat_48 rfl rfl ?_
          refine r_iconst (x := 0) dX12_boat_49 rfl (by decide) ?_
          refine r_bipush (x := 12) dX12_boat_50 (by decide +kernel) (by decide) ?_
          refine r_sipush (x := 200) dX12_boat_52 (by decide +kernel) (by decide) ?_
          refine r_iconst (x := 4) dX12_boat_55 rfl (by decide) ?_
          refine r_iload_n dX12_boat_56 rfl rfl ?_
          refine r_iload_n dX12_boat_57 rfl rfl ?_
          refine r_iload_n dX12_boat_58 rfl rfl ?_
          refine r_iload dX12_boat_59 rfl ?_
          refine r_callV (args := [vi 0, vi 12, vi 200, vi 4, vi x1, vi x2, vi x3, vi x4]) dX12_boat_61 kX12_109 ob_145 ⟨_, _, rfl⟩ (by decide) rfl rfl (Nat.le_of_ble_eq_true rfl) cap0 (Ev.mono V ?_)
          rintro r h' ⟨x40, n39, rfl, rfl, V⟩
          show Rn w mX12_boat (d + 1) G Q 64 [(0, vr 145), (1, vi x1), (2, vi x2), (3, vi x3), (4, vi x4)] [vi x40] (B0, n39)
          exact r_iret dX12_boat_64 rfl V
        · have V := V2 c38
          refine r_aload_n dX12_boat_42 rfl rfl ?_
          refine r_iconst (x := -1) dX12_boat_43 rfl (by decide) ?_
          refine r_callV (args := [vi (-1)]) dX12_boat_44 kX12_86 ob_145 ⟨_, _, rfl⟩ (by decide) rfl rfl (Nat.le_of_ble_eq_true rfl) cap0 (Ev.mono V ?_)
          rintro r h' ⟨x42, n41, rfl, rfl, V⟩
          show Rn w mX12_boat (d + 1) G Q 47 [(0, vr 145), (1, vi x1), (2, vi x2), (3, vi x3), (4, vi x4)] [vi x42] (B0, n41)
          exact r_iret dX12_boat_47 rfl V

theorem gX12_beast_0 {w : WD} {d : Nat} {G : GM} {Q : Option AV → Hp → Prop} {n : NM} {x1 x2 x3 x4 : Int}
    (V :
    (Ev w d 0 0 mX12_isDay [vi x1] (B0, upn n 145 0 0) (fun r h' => ∃ (x22 : Int) (n21 : NM), r = some (vi x22) ∧ h' = (B0, n21) ∧ 
      ((x22 = 0 →
        (Ev w d 0 0 mX12_tell [vr 145, vi (-1)] (B0, n21) (fun r h' => ∃ (x25 : Int) (n24 : NM), r = some (vi x25) ∧ h' = (B0, n24) ∧ 
          Q (some (vi x25)) (B0, n24)))) ∧
      (x22 ≠ 0 →
        (Ev w d 0 0 mX12_isPlace [vi x2] (B0, n21) (fun r h' => ∃ (x27 : Int) (n26 : NM), r = some (vi x27) ∧ h' = (B0, n26) ∧ 
          ((x27 = 0 →
            (Ev w d 0 0 mX12_tell [vr 145, vi (-1)] (B0, n26) (fun r h' => ∃ (x30 : Int) (n29 : NM), r = some (vi x30) ∧ h' = (B0, n29) ∧ 
              Q (some (vi x30)) (B0, n29)))) ∧
          (x27 ≠ 0 →
            (Ev w d 0 0 mX12_isMinute [vi x3] (B0, n26) (fun r h' => ∃ (x32 : Int) (n31 : NM), r = some (vi x32) ∧ h' = (B0, n31) ∧ 
              ((x32 = 0 →
                (Ev w d 0 0 mX12_tell [vr 145, vi (-1)] (B0, n31) (fun r h' => ∃ (x35 : Int) (n34 : NM), r = some (vi x35) ∧ h' = (B0, n34) ∧ 
                  Q (some (vi x35)) (B0, n34)))) ∧
              (x32 ≠ 0 →
                (Ev w d 0 0 mX12_isMinute [vi x4] (B0, n31) (fun r h' => ∃ (x37 : Int) (n36 : NM), r = some (vi x37) ∧ h' = (B0, n36) ∧ 
                  ((x37 = 0 →
                    (Ev w d 0 0 mX12_tell [vr 145, vi (-1)] (B0, n36) (fun r h' => ∃ (x40 : Int) (n39 : NM), r = some (vi x40) ∧ h' = (B0, n39) ∧ 
                      Q (some (vi x40)) (B0, n39)))) ∧
                  (x37 ≠ 0 →
                    ((x3 ≤ x4 →
                      (Ev w d 0 0 mX12_add [vr 145, vi 1, vi 12, vi 250, vi 4, vi x1, vi x2, vi x3, vi x4] (B0, n36) (fun r h' => ∃ (x43 : Int) (n42 : NM), r = some (vi x43) ∧ h' = (B0, n42) ∧ 
                        Q (some (vi x43)) (B0, n42)))) ∧
                    (x4 < x3 →
                      (Ev w d 0 0 mX12_tell [vr 145, vi (-1)] (B0, n36) (fun r h' => ∃ (x45 : Int) (n44 : NM), r = some (vi x45) ∧ h' = (B0, n44) ∧ 
                        Q (some (vi x45)) (B0, n44)))))))))))))))))))))) :
    Rn w mX12_beast (d + 1) G Q 0 [(0, vr 145), (1, vi x1), (2, vi x2), (3, vi x3), (4, vi x4)] [] (B0, n) := by
  refine r_aload_n dX12_beast_0 rfl rfl ?_
  refine r_iconst (x := 0) dX12_beast_1 rfl (by decide) ?_
  refine r_putI (fi := 0) (h' := (B0, upn n 145 0 0)) dX12_beast_2 pX12_76 ob_145 (by decide) rfl rfl rfl ?_
  refine r_iload_n dX12_beast_5 rfl rfl ?_
  refine r_callS (args := [vi x1]) dX12_beast_6 kX12_96 rfl rfl (Nat.le_of_ble_eq_true rfl) cap0 (Ev.mono V ?_)
  rintro r h' ⟨x22, n21, rfl, rfl, V⟩
  show Rn w mX12_beast (d + 1) G Q 9 [(0, vr 145), (1, vi x1), (2, vi x2), (3, vi x3), (4, vi x4)] [vi x22] (B0, n21)
  obtain ⟨V1, V2⟩ := V
  refine r_zeq (tgt := 40) dX12_beast_9 (by decide) (fun c23 => ?_) (fun c23 => ?_)
  · have V := V1 c23
    refine r_aload_n dX12_beast_40 rfl rfl ?_
    refine r_iconst (x := -1) dX12_beast_41 rfl (by decide) ?_
    refine r_callV (args := [vi (-1)]) dX12_beast_42 kX12_86 ob_145 ⟨_, _, rfl⟩ (by decide) rfl rfl (Nat.le_of_ble_eq_true rfl) cap0 (Ev.mono V ?_)
    rintro r h' ⟨x25, n24, rfl, rfl, V⟩
    show Rn w mX12_beast (d + 1) G Q 45 [(0, vr 145), (1, vi x1), (2, vi x2), (3, vi x3), (4, vi x4)] [vi x25] (B0, n24)
    exact r_iret dX12_beast_45 rfl V
  · have V := V2 c23
    refine r_iload_n dX12_beast_12 rfl rfl ?_
    refine r_callS (args := [vi x2]) dX12_beast_13 kX12_113 rfl rfl (Nat.le_of_ble_eq_true rfl) cap0 (Ev.mono V ?_)
    rintro r h' ⟨x27, n26, rfl, rfl, V⟩
    show Rn w mX12_beast (d + 1) G Q 16 [(0, vr 145), (1, vi x1), (2, vi x2), (3, vi x3), (4, vi x4)] [vi x27] (B0, n26)
    obtain ⟨V1, V2⟩ := V
    refine r_zeq (tgt := 40) dX12_beast_16 (by decide) (fun c28 => ?_) (fun c28 => ?_)
    · have V := V1 c28
      refine r_aload_n dX12_beast_40 rfl rfl ?_
      refine r_iconst (x := -1) dX12_beast_41 rfl (by decide) ?_
      refine r_callV (args := [vi (-1)]) dX12_beast_42 kX12_86 ob_145 ⟨_, _, rfl⟩ (by decide) rfl rfl (Nat.le_of_ble_eq_true rfl) cap0 (Ev.mono V ?_)
      rintro r h' ⟨x30, n29, rfl, rfl, V⟩
      show Rn w mX12_beast (d + 1) G Q 45 [(0, vr 145), (1, vi x1), (2, vi x2), (3, vi x3), (4, vi x4)] [vi x30] (B0, n29)
      exact r_iret dX12_beast_45 rfl V
    · have V := V2 c28
      refine r_iload_n dX12_beast_19 rfl rfl ?_
      refine r_callS (args := [vi x3]) dX12_beast_20 kX12_104 rfl rfl (Nat.le_of_ble_eq_true rfl) cap0 (Ev.mono V ?_)
      rintro r h' ⟨x32, n31, rfl, rfl, V⟩
      show Rn w mX12_beast (d + 1) G Q 23 [(0, vr 145), (1, vi x1), (2, vi x2), (3, vi x3), (4, vi x4)] [vi x32] (B0, n31)
      obtain ⟨V1, V2⟩ := V
      refine r_zeq (tgt := 40) dX12_beast_23 (by decide) (fun c33 => ?_) (fun c33 => ?_)
      · have V := V1 c33
        refine r_aload_n dX12_beast_40 rfl rfl ?_
        refine r_iconst (x := -1) dX12_beast_41 rfl (by decide) ?_
        refine r_callV (args := [vi (-1)]) dX12_beast_42 kX12_86 ob_145 ⟨_, _, rfl⟩ (by decide) rfl rfl (Nat.le_of_ble_eq_true rfl) cap0 (Ev.mono V ?_)
        rintro r h' ⟨x35, n34, rfl, rfl, V⟩
        show Rn w mX12_beast (d + 1) G Q 45 [(0, vr 145), (1, vi x1), (2, vi x2), (3, vi x3), (4, vi x4)] [vi x35] (B0, n34)
        exact r_iret dX12_beast_45 rfl V
      · have V := V2 c33
        refine r_iload dX12_beast_26 rfl ?_
        refine r_callS (args := [vi x4]) dX12_beast_28 kX12_104 rfl rfl (Nat.le_of_ble_eq_true rfl) cap0 (Ev.mono V ?_)
        rintro r h' ⟨x37, n36, rfl, rfl, V⟩
        show Rn w mX12_beast (d + 1) G Q 31 [(0, vr 145), (1, vi x1), (2, vi x2), (3, vi x3), (4, vi x4)] [vi x37] (B0, n36)
        obtain ⟨V1, V2⟩ := V
        refine r_zeq (tgt := 40) dX12_beast_31 (by decide) (fun c38 => ?_) (fun c38 => ?_)
        · have V := V1 c38
          refine r_aload_n dX12_beast_40 rfl rfl ?_
          refine r_iconst (x := -1) dX12_beast_41 rfl (by decide) ?_
          refine r_callV (args := [vi (-1)]) dX12_beast_42 kX12_86 ob_145 ⟨_, _, rfl⟩ (by decide) rfl rfl (Nat.le_of_ble_eq_true rfl) cap0 (Ev.mono V ?_)
          rintro r h' ⟨x40, n39, rfl, rfl, V⟩
          show Rn w mX12_beast (d + 1) G Q 45 [(0, vr 145), (1, vi x1), (2, vi x2), (3, vi x3), (4, vi x4)] [vi x40] (B0, n39)
          exact r_iret dX12_beast_45 rfl V
        · have V := V2 c38
          refine r_iload dX12_beast_34 rfl ?_
          refine r_iload_n dX12_beast_36 rfl rfl ?_
          obtain ⟨V1, V2⟩ := V
          refine r_jge (tgt := 46) dX12_beast_37 (by decide) (fun c41 => ?_) (fun c41 => ?_)
          · have V := V1 c41
            refine r_aload_n dX12_beast_46 rfl rfl ?_
            refine r_iconst (x := 1) dX12_beast_47 rfl (by decide) ?_
            refine r_bipush (x := 12) dX12_beast_48 (by decide +kernel) (by decide) ?_
            refine r_sipush (x := 250) dX12_beast_50 (by decide +kernel) (by decide) ?_
            refine r_iconst (x := 4) dX12_beast_53 rfl (by decide) ?_
            refine r_iload_n dX12_beast_54 rfl rfl ?_
            refine r_iload_n dX12_beast_55 rfl rfl ?_
            refine r_iload_n dX12_beast_56 rfl rfl ?_
            refine r_iload dX12_beast_57 rfl ?_
            refine r_callV (args := [vi 1, vi 12, vi 250, vi 4, vi x1, vi x2, vi x3, vi x4]) dX12_beast_59 kX12_109 ob_145 ⟨_, _, rfl⟩ (by decide) rfl rfl (Nat.le_of_ble_eq_true rfl) cap0 (Ev.mono V ?_)
            rintro r h' ⟨x43, n42, rfl, rfl, V⟩
            show Rn w mX12_beast (d + 1) G Q 62 [(0, vr 145), (1, vi x1), (2, vi x2), (3, vi x3), (4, vi x4)] [vi x43] (B0, n42)
            exact r_iret dX12_beast_62 rfl V
          · have V := V2 c41
            refine r_aload_n dX12_beast_40 rfl rfl ?_
            refine r_iconst (x := -1) dX12_beast_41 rfl (by decide) ?_
            refine r_callV (args := [vi (-1)]) dX12_beast_42 kX12_86 ob_145 ⟨_, _, rfl⟩ (by decide) rfl rfl (Nat.le_of_ble_eq_true rfl) cap0 (Ev.mono V ?_)
            rintro r h' ⟨x45, n44, rfl, rfl, V⟩
            show Rn w mX12_beast (d + 1) G Q 45 [(0, vr 145), (1, vi x1), (2, vi x2), (3, vi x3), (4, vi x4)] [vi x45] (B0, n44)
            exact r_iret dX12_beast_45 rfl V

theorem gX12_log_0 {w : WD} {d : Nat} {G : GM} {Q : Option AV → Hp → Prop} {n : NM} {x1 x2 : Int}
    (V :
    (Ev w d 0 0 mX12_isDay [vi x1] (B0, upn n 145 0 0) (fun r h' => ∃ (x22 : Int) (n21 : NM), r = some (vi x22) ∧ h' = (B0, n21) ∧ 
      ((x22 = 0 →
        (Ev w d 0 0 mX12_tell [vr 145, vi (-1)] (B0, n21) (fun r h' => ∃ (x25 : Int) (n24 : NM), r = some (vi x25) ∧ h' = (B0, n24) ∧ 
          Q (some (vi x25)) (B0, n24)))) ∧
      (x22 ≠ 0 →
        (Ev w d 0 0 mX12_isPlace [vi x2] (B0, n21) (fun r h' => ∃ (x27 : Int) (n26 : NM), r = some (vi x27) ∧ h' = (B0, n26) ∧ 
          ((x27 ≠ 0 →
            (Ev w d 0 0 mX12_add [vr 145, vi 2, vi 12, vi 300, vi 2, vi x1, vi x2, vi 0, vi 0] (B0, n26) (fun r h' => ∃ (x30 : Int) (n29 : NM), r = some (vi x30) ∧ h' = (B0, n29) ∧ 
              Q (some (vi x30)) (B0, n29)))) ∧
          (x27 = 0 →
            (Ev w d 0 0 mX12_tell [vr 145, vi (-1)] (B0, n26) (fun r h' => ∃ (x32 : Int) (n31 : NM), r = some (vi x32) ∧ h' = (B0, n31) ∧ 
              Q (some (vi x32)) (B0, n31)))))))))))) :
    Rn w mX12_log (d + 1) G Q 0 [(0, vr 145), (1, vi x1), (2, vi x2)] [] (B0, n) := by
  refine r_aload_n dX12_log_0 rfl rfl ?_
  refine r_iconst (x := 0) dX12_log_1 rfl (by decide) ?_
  refine r_putI (fi := 0) (h' := (B0, upn n 145 0 0)) dX12_log_2 pX12_76 ob_145 (by decide) rfl rfl rfl ?_
  refine r_iload_n dX12_log_5 rfl rfl ?_
  refine r_callS (args := [vi x1]) dX12_log_6 kX12_96 rfl rfl (Nat.le_of_ble_eq_true rfl) cap0 (Ev.mono V ?_)
  rintro r h' ⟨x22, n21, rfl, rfl, V⟩
  show Rn w mX12_log (d + 1) G Q 9 [(0, vr 145), (1, vi x1), (2, vi x2)] [vi x22] (B0, n21)
  obtain ⟨V1, V2⟩ := V
  refine r_zeq (tgt := 19) dX12_log_9 (by decide) (fun c23 => ?_) (fun c23 => ?_)
  · have V := V1 c23
    refine r_aload_n dX12_log_19 rfl rfl ?_
    refine r_iconst (x := -1) dX12_log_20 rfl (by decide) ?_
    refine r_callV (args := [vi (-1)]) dX12_log_21 kX12_86 ob_145 ⟨_, _, rfl⟩ (by decide) rfl rfl (Nat.le_of_ble_eq_true rfl) cap0 (Ev.mono V ?_)
    rintro r h' ⟨x25, n24, rfl, rfl, V⟩
    show Rn w mX12_log (d + 1) G Q 24 [(0, vr 145), (1, vi x1), (2, vi x2)] [vi x25] (B0, n24)
    exact r_iret dX12_log_24 rfl V
  · have V := V2 c23
    refine r_iload_n dX12_log_12 rfl rfl ?_
    refine r_callS (args := [vi x2]) dX12_log_13 kX12_113 rfl rfl (Nat.le_of_ble_eq_true rfl) cap0 (Ev.mono V ?_)
    rintro r h' ⟨x27, n26, rfl, rfl, V⟩
    show Rn w mX12_log (d + 1) G Q 16 [(0, vr 145), (1, vi x1), (2, vi x2)] [vi x27] (B0, n26)
    obtain ⟨V1, V2⟩ := V
    refine r_zne (tgt := 25) dX12_log_16 (by decide) (fun c28 => ?_) (fun c28 => ?_)
    · have V := V1 c28
      refine r_aload_n dX12_log_25 rfl rfl ?_
      refine r_iconst (x := 2) dX12_log_26 rfl (by decide) ?_
      refine r_bipush (x := 12) dX12_log_27 (by decide +kernel) (by decide) ?_
      refine r_sipush (x := 300) dX12_log_29 (by decide +kernel) (by decide) ?_
      refine r_iconst (x := 2) dX12_log_32 rfl (by decide) ?_
      refine r_iload_n dX12_log_33 rfl rfl ?_
      refine r_iload_n dX12_log_34 rfl rfl ?_
      refine r_iconst (x := 0) dX12_log_35 rfl (by decide) ?_
      refine r_iconst (x := 0) dX12_log_36 rfl (by decide) ?_
      refine r_callV (args := [vi 2, vi 12, vi 300, vi 2, vi x1, vi x2, vi 0, vi 0]) dX12_log_37 kX12_109 ob_145 ⟨_, _, rfl⟩ (by decide) rfl rfl (Nat.le_of_ble_eq_true rfl) cap0 (Ev.mono V ?_)
      rintro r h' ⟨x30, n29, rfl, rfl, V⟩
      show Rn w mX12_log (d + 1) G Q 40 [(0, vr 145), (1, vi x1), (2, vi x2)] [vi x30] (B0, n29)
      exact r_iret dX12_log_40 rfl V
    · have V := V2 c28
      refine r_aload_n dX12_log_19 rfl rfl ?_
      refine r_iconst (x := -1) dX12_log_20 rfl (by decide) ?_
      refine r_callV (args := [vi (-1)]) dX12_log_21 kX12_86 ob_145 ⟨_, _, rfl⟩ (by decide) rfl rfl (Nat.le_of_ble_eq_true rfl) cap0 (Ev.mono V ?_)
      rintro r h' ⟨x32, n31, rfl, rfl, V⟩
      show Rn w mX12_log (d + 1) G Q 24 [(0, vr 145), (1, vi x1), (2, vi x2)] [vi x32] (B0, n31)
      exact r_iret dX12_log_24 rfl V

theorem gX12_watcher_0 {w : WD} {d : Nat} {G : GM} {Q : Option AV → Hp → Prop} {n : NM} {x1 : Int}
    (V :
    (Ev w d 0 0 mX12_in [vl x1, vl 0, vl 100] (B0, upn n 145 0 0) (fun r h' => ∃ (x22 : Int) (n21 : NM), r = some (vi x22) ∧ h' = (B0, n21) ∧ 
      ((x22 ≠ 0 →
        (Ev w d 0 0 mX12_add [vr 145, vi 3, vi 12, vi 330, vi 1, vi x1, vi 0, vi 0, vi 0] (B0, n21) (fun r h' => ∃ (x25 : Int) (n24 : NM), r = some (vi x25) ∧ h' = (B0, n24) ∧ 
          Q (some (vi x25)) (B0, n24)))) ∧
      (x22 = 0 →
        (Ev w d 0 0 mX12_tell [vr 145, vi (-1)] (B0, n21) (fun r h' => ∃ (x27 : Int) (n26 : NM), r = some (vi x27) ∧ h' = (B0, n26) ∧ 
          Q (some (vi x27)) (B0, n26)))))))) :
    Rn w mX12_watcher (d + 1) G Q 0 [(0, vr 145), (1, vi x1)] [] (B0, n) := by
  refine r_aload_n dX12_watcher_0 rfl rfl ?_
  refine r_iconst (x := 0) dX12_watcher_1 rfl (by decide) ?_
  refine r_putI (fi := 0) (h' := (B0, upn n 145 0 0)) dX12_watcher_2 pX12_76 ob_145 (by decide) rfl rfl rfl ?_
  refine r_iload_n dX12_watcher_5 rfl rfl ?_
  refine r_i2l dX12_watcher_6 ?_
  refine r_lconst (x := 0) dX12_watcher_7 rfl (by decide) ?_
  refine r_ldc2 (x := 100) dX12_watcher_8 qX12_116 (by decide) ?_
  refine r_callS (args := [vl x1, vl 0, vl 100]) dX12_watcher_11 kX12_82 rfl rfl (Nat.le_of_ble_eq_true rfl) cap0 (Ev.mono V ?_)
  rintro r h' ⟨x22, n21, rfl, rfl, V⟩
  show Rn w mX12_watcher (d + 1) G Q 14 [(0, vr 145), (1, vi x1)] [vi x22] (B0, n21)
  obtain ⟨V1, V2⟩ := V
  refine r_zne (tgt := 23) dX12_watcher_14 (by decide) (fun c23 => ?_) (fun c23 => ?_)
  · have V := V1 c23
    refine r_aload_n dX12_watcher_23 rfl rfl ?_
    refine r_iconst (x := 3) dX12_watcher_24 rfl (by decide) ?_
    refine r_bipush (x := 12) dX12_watcher_25 (by decide +kernel) (by decide) ?_
    refine r_sipush (x := 330) dX12_watcher_27 (by decide +kernel) (by decide) ?_
    refine r_iconst (x := 1) dX12_watcher_30 rfl (by decide) ?_
    refine r_iload_n dX12_watcher_31 rfl rfl ?_
    refine r_iconst (x := 0) dX12_watcher_32 rfl (by decide) ?_
    refine r_iconst (x := 0) dX12_watcher_33 rfl (by decide) ?_
    refine r_iconst (x := 0) dX12_watcher_34 rfl (by decide) ?_
    refine r_callV (args := [vi 3, vi 12, vi 330, vi 1, vi x1, vi 0, vi 0, vi 0]) dX12_watcher_35 kX12_109 ob_145 ⟨_, _, rfl⟩ (by decide) rfl rfl (Nat.le_of_ble_eq_true rfl) cap0 (Ev.mono V ?_)
    rintro r h' ⟨x25, n24, rfl, rfl, V⟩
    show Rn w mX12_watcher (d + 1) G Q 38 [(0, vr 145), (1, vi x1)] [vi x25] (B0, n24)
    exact r_iret dX12_watcher_38 rfl V
  · have V := V2 c23
    refine r_aload_n dX12_watcher_17 rfl rfl ?_
    refine r_iconst (x := -1) dX12_watcher_18 rfl (by decide) ?_
    refine r_callV (args := [vi (-1)]) dX12_watcher_19 kX12_86 ob_145 ⟨_, _, rfl⟩ (by decide) rfl rfl (Nat.le_of_ble_eq_true rfl) cap0 (Ev.mono V ?_)
    rintro r h' ⟨x27, n26, rfl, rfl, V⟩
    show Rn w mX12_watcher (d + 1) G Q 22 [(0, vr 145), (1, vi x1)] [vi x27] (B0, n26)
    exact r_iret dX12_watcher_22 rfl V

theorem gX12_pole_0 {w : WD} {d : Nat} {G : GM} {Q : Option AV → Hp → Prop} {n : NM} {x1 x2 x3 : Int}
    (V :
    (Ev w d 0 0 mX12_in [vl x2, vl 1, vl 99] (B0, upn n 145 0 0) (fun r h' => ∃ (x22 : Int) (n21 : NM), r = some (vi x22) ∧ h' = (B0, n21) ∧ 
      ((x22 = 0 →
        (Ev w d 0 0 mX12_tell [vr 145, vi (-1)] (B0, n21) (fun r h' => ∃ (x25 : Int) (n24 : NM), r = some (vi x25) ∧ h' = (B0, n24) ∧ 
          Q (some (vi x25)) (B0, n24)))) ∧
      (x22 ≠ 0 →
        (Ev w d 0 0 mX12_in [vl x3, vl 1, vl 200] (B0, n21) (fun r h' => ∃ (x27 : Int) (n26 : NM), r = some (vi x27) ∧ h' = (B0, n26) ∧ 
          ((x27 ≠ 0 →
            (Ev w d 0 0 mX12_is [vr 145, vi 3, vi x1] (B0, n26) (fun r h' => ∃ (x30 : Int) (n29 : NM), r = some (vi x30) ∧ h' = (B0, n29) ∧ 
              ((x30 ≠ 0 →
                (Ev w d 0 0 mX12_add [vr 145, vi 4, vi 20, vi 350, vi 3, vi x1, vi x2, vi x3, vi 0] (B0, n29) (fun r h' => ∃ (x33 : Int) (n32 : NM), r = some (vi x33) ∧ h' = (B0, n32) ∧ 
                  Q (some (vi x33)) (B0, n32)))) ∧
              (x30 = 0 →
                (Ev w d 0 0 mX12_tell [vr 145, vi (-2)] (B0, n29) (fun r h' => ∃ (x35 : Int) (n34 : NM), r = some (vi x35) ∧ h' = (B0, n34) ∧ 
                  Q (some (vi x35)) (B0, n34)))))))) ∧
          (x27 = 0 →
            (Ev w d 0 0 mX12_tell [vr 145, vi (-1)] (B0, n26) (fun r h' => ∃ (x37 : Int) (n36 : NM), r = some (vi x37) ∧ h' = (B0, n36) ∧ 
              Q (some (vi x37)) (B0, n36)))))))))))) :
    Rn w mX12_pole (d + 1) G Q 0 [(0, vr 145), (1, vi x1), (2, vi x2), (3, vi x3)] [] (B0, n) := by
  refine r_aload_n dX12_pole_0 rfl rfl ?_
  refine r_iconst (x := 0) dX12_pole_1 rfl (by decide) ?_
  refine r_putI (fi := 0) (h' := (B0, upn n 145 0 0)) dX12_pole_2 pX12_76 ob_145 (by decide) rfl rfl rfl ?_
  refine r_iload_n dX12_pole_5 rfl rfl ?_
  refine r_i2l dX12_pole_6 ?_
  refine r_lconst (x := 1) dX12_pole_7 rfl (by decide) ?_
  refine r_ldc2 (x := 99) dX12_pole_8 qX12_118 (by decide) ?_
  refine r_callS (args := [vl x2, vl 1, vl 99]) dX12_pole_11 kX12_82 rfl rfl (Nat.le_of_ble_eq_true rfl) cap0 (Ev.mono V ?_)
  rintro r h' ⟨x22, n21, rfl, rfl, V⟩
  show Rn w mX12_pole (d + 1) G Q 14 [(0, vr 145), (1, vi x1), (2, vi x2), (3, vi x3)] [vi x22] (B0, n21)
  obtain ⟨V1, V2⟩ := V
  refine r_zeq (tgt := 29) dX12_pole_14 (by decide) (fun c23 => ?_) (fun c23 => ?_)
  · have V := V1 c23
    refine r_aload_n dX12_pole_29 rfl rfl ?_
    refine r_iconst (x := -1) dX12_pole_30 rfl (by decide) ?_
    refine r_callV (args := [vi (-1)]) dX12_pole_31 kX12_86 ob_145 ⟨_, _, rfl⟩ (by decide) rfl rfl (Nat.le_of_ble_eq_true rfl) cap0 (Ev.mono V ?_)
    rintro r h' ⟨x25, n24, rfl, rfl, V⟩
    show Rn w mX12_pole (d + 1) G Q 34 [(0, vr 145), (1, vi x1), (2, vi x2), (3, vi x3)] [vi x25] (B0, n24)
    exact r_iret dX12_pole_34 rfl V
  · have V := V2 c23
    refine r_iload_n dX12_pole_17 rfl rfl ?_
    refine r_i2l dX12_pole_18 ?_
    refine r_lconst (x := 1) dX12_pole_19 rfl (by decide) ?_
    refine r_ldc2 (x := 200) dX12_pole_20 qX12_120 (by decide) ?_
    refine r_callS (args := [vl x3, vl 1, vl 200]) dX12_pole_23 kX12_82 rfl rfl (Nat.le_of_ble_eq_true rfl) cap0 (Ev.mono V ?_)
    rintro r h' ⟨x27, n26, rfl, rfl, V⟩
    show Rn w mX12_pole (d + 1) G Q 26 [(0, vr 145), (1, vi x1), (2, vi x2), (3, vi x3)] [vi x27] (B0, n26)
    obtain ⟨V1, V2⟩ := V
    refine r_zne (tgt := 35) dX12_pole_26 (by decide) (fun c28 => ?_) (fun c28 => ?_)
    · have V := V1 c28
      refine r_aload_n dX12_pole_35 rfl rfl ?_
      refine r_iconst (x := 3) dX12_pole_36 rfl (by decide) ?_
      refine r_iload_n dX12_pole_37 rfl rfl ?_
      refine r_callV (args := [vi 3, vi x1]) dX12_pole_38 kX12_122 ob_145 ⟨_, _, rfl⟩ (by decide) rfl rfl (Nat.le_of_ble_eq_true rfl) cap0 (Ev.mono V ?_)
      rintro r h' ⟨x30, n29, rfl, rfl, V⟩
      show Rn w mX12_pole (d + 1) G Q 41 [(0, vr 145), (1, vi x1), (2, vi x2), (3, vi x3)] [vi x30] (B0, n29)
      obtain ⟨V1, V2⟩ := V
      refine r_zne (tgt := 51) dX12_pole_41 (by decide) (fun c31 => ?_) (fun c31 => ?_)
      · have V := V1 c31
        refine r_aload_n dX12_pole_51 rfl rfl ?_
        refine r_iconst (x := 4) dX12_pole_52 rfl (by decide) ?_
        refine r_bipush (x := 20) dX12_pole_53 (by decide +kernel) (by decide) ?_
        refine r_sipush (x := 350) dX12_pole_55 (by decide +kernel) (by decide) ?_
        refine r_iconst (x := 3) dX12_pole_58 rfl (by decide) ?_
        refine r_iload_n dX12_pole_59 rfl rfl ?_
        refine r_iload_n dX12_pole_60 rfl rfl ?_
        refine r_iload_n dX12_pole_61 rfl rfl ?_
        refine r_iconst (x := 0) dX12_pole_62 rfl (by decide) ?_
        refine r_callV (args := [vi 4, vi 20, vi 350, vi 3, vi x1, vi x2, vi x3, vi 0]) dX12_pole_63 kX12_109 ob_145 ⟨_, _, rfl⟩ (by decide) rfl rfl (Nat.le_of_ble_eq_true rfl) cap0 (Ev.mono V ?_)
        rintro r h' ⟨x33, n32, rfl, rfl, V⟩
        show Rn w mX12_pole (d + 1) G Q 66 [(0, vr 145), (1, vi x1), (2, vi x2), (3, vi x3)] [vi x33] (B0, n32)
        exact r_iret dX12_pole_66 rfl V
      · have V := V2 c31
        refine r_aload_n dX12_pole_44 rfl rfl ?_
        refine r_bipush (x := -2) dX12_pole_45 (by decide +kernel) (by decide) ?_
        refine r_callV (args := [vi (-2)]) dX12_pole_47 kX12_86 ob_145 ⟨_, _, rfl⟩ (by decide) rfl rfl (Nat.le_of_ble_eq_true rfl) cap0 (Ev.mono V ?_)
        rintro r h' ⟨x35, n34, rfl, rfl, V⟩
        show Rn w mX12_pole (d + 1) G Q 50 [(0, vr 145), (1, vi x1), (2, vi x2), (3, vi x3)] [vi x35] (B0, n34)
        exact r_iret dX12_pole_50 rfl V
    · have V := V2 c28
      refine r_aload_n dX12_pole_29 rfl rfl ?_
      refine r_iconst (x := -1) dX12_pole_30 rfl (by decide) ?_
      refine r_callV (args := [vi (-1)]) dX12_pole_31 kX12_86 ob_145 ⟨_, _, rfl⟩ (by decide) rfl rfl (Nat.le_of_ble_eq_true rfl) cap0 (Ev.mono V ?_)
      rintro r h' ⟨x37, n36, rfl, rfl, V⟩
      show Rn w mX12_pole (d + 1) G Q 34 [(0, vr 145), (1, vi x1), (2, vi x2), (3, vi x3)] [vi x37] (B0, n36)
      exact r_iret dX12_pole_34 rfl V

theorem gX12_canBe_0 {w : WD} {d : Nat} {G : GM} {Q : Option AV → Hp → Prop} {n : NM} {x0 x1 x2 x3 x4 x5 : Int}
    (V :
    (Ev w d 0 0 mX12_isDay [vi x0] (B0, n) (fun r h' => ∃ (x22 : Int) (n21 : NM), r = some (vi x22) ∧ h' = (B0, n21) ∧ 
      ((x22 = 0 →
        Q (some (vi 0)) (B0, n21)) ∧
      (x22 ≠ 0 →
        (Ev w d 0 0 mX12_isMinute [vi x1] (B0, n21) (fun r h' => ∃ (x25 : Int) (n24 : NM), r = some (vi x25) ∧ h' = (B0, n24) ∧ 
          ((x25 = 0 →
            Q (some (vi 0)) (B0, n24)) ∧
          (x25 ≠ 0 →
            (Ev w d 0 0 mX12_isPlace [vi x2] (B0, n24) (fun r h' => ∃ (x28 : Int) (n27 : NM), r = some (vi x28) ∧ h' = (B0, n27) ∧ 
              ((x28 = 0 →
                Q (some (vi 0)) (B0, n27)) ∧
              (x28 ≠ 0 →
                (Ev w d 0 0 mX12_in [vl x3, vl 0, vl 9] (B0, n27) (fun r h' => ∃ (x31 : Int) (n30 : NM), r = some (vi x31) ∧ h' = (B0, n30) ∧ 
                  ((x31 = 0 →
                    Q (some (vi 0)) (B0, n30)) ∧
                  (x31 ≠ 0 →
                    (Ev w d 0 0 mX12_in [vl x4, vl 1, vl 200] (B0, n30) (fun r h' => ∃ (x34 : Int) (n33 : NM), r = some (vi x34) ∧ h' = (B0, n33) ∧ 
                      ((x34 = 0 →
                        Q (some (vi 0)) (B0, n33)) ∧
                      (x34 ≠ 0 →
                        (Ev w d 0 0 mX12_isDay [vi x5] (B0, n33) (fun r h' => ∃ (x37 : Int) (n36 : NM), r = some (vi x37) ∧ h' = (B0, n36) ∧ 
                          ((x37 = 0 →
                            Q (some (vi 0)) (B0, n36)) ∧
                          (x37 ≠ 0 →
                            ((x5 < x0 →
                              Q (some (vi 0)) (B0, n36)) ∧
                            (x0 ≤ x5 →
                              Q (some (vi 1)) (B0, n36)))))))))))))))))))))))))))) :
    Rn w mX12_canBe (d + 1) G Q 0 [(0, vi x0), (1, vi x1), (2, vi x2), (3, vi x3), (4, vi x4), (5, vi x5)] [] (B0, n) := by
  refine r_iload_n dX12_canBe_0 rfl rfl ?_
  refine r_callS (args := [vi x0]) dX12_canBe_1 kX12_96 rfl rfl (Nat.le_of_ble_eq_true rfl) cap0 (Ev.mono V ?_)
  rintro r h' ⟨x22, n21, rfl, rfl, V⟩
  show Rn w mX12_canBe (d + 1) G Q 4 [(0, vi x0), (1, vi x1), (2, vi x2), (3, vi x3), (4, vi x4), (5, vi x5)] [vi x22] (B0, n21)
  obtain ⟨V1, V2⟩ := V
  refine r_zeq (tgt := 64) dX12_canBe_4 (by decide) (fun c23 => ?_) (fun c23 => ?_)
  · have V := V1 c23
    refine r_iconst (x := 0) dX12_canBe_64 rfl (by decide) ?_
    exact r_zret dX12_canBe_65 rfl (by decide) V
  · have V := V2 c23
    refine r_iload_n dX12_canBe_7 rfl rfl ?_
    refine r_callS (args := [vi x1]) dX12_canBe_8 kX12_104 rfl rfl (Nat.le_of_ble_eq_true rfl) cap0 (Ev.mono V ?_)
    rintro r h' ⟨x25, n24, rfl, rfl, V⟩
    show Rn w mX12_canBe (d + 1) G Q 11 [(0, vi x0), (1, vi x1), (2, vi x2), (3, vi x3), (4, vi x4), (5, vi x5)] [vi x25] (B0, n24)
    obtain ⟨V1, V2⟩ := V
    refine r_zeq (tgt := 64) dX12_canBe_11 (by decide) (fun c26 => ?_) (fun c26 => ?_)
    · have V := V1 c26
      refine r_iconst (x := 0) dX12_canBe_64 rfl (by decide) ?_
      exact r_zret dX12_canBe_65 rfl (by decide) V
    · have V := V2 c26
      refine r_iload_n dX12_canBe_14 rfl rfl ?_
      refine r_callS (args := [vi x2]) dX12_canBe_15 kX12_113 rfl rfl (Nat.le_of_ble_eq_true rfl) cap0 (Ev.mono V ?_)
      rintro r h' ⟨x28, n27, rfl, rfl, V⟩
      show Rn w mX12_canBe (d + 1) G Q 18 [(0, vi x0), (1, vi x1), (2, vi x2), (3, vi x3), (4, vi x4), (5, vi x5)] [vi x28] (B0, n27)
      obtain ⟨V1, V2⟩ := V
      refine r_zeq (tgt := 64) dX12_canBe_18 (by decide) (fun c29 => ?_) (fun c29 => ?_)
      · have V := V1 c29
        refine r_iconst (x := 0) dX12_canBe_64 rfl (by decide) ?_
        exact r_zret dX12_canBe_65 rfl (by decide) V
      · have V := V2 c29
        refine r_iload_n dX12_canBe_21 rfl rfl ?_
        refine r_i2l dX12_canBe_22 ?_
        refine r_lconst (x := 0) dX12_canBe_23 rfl (by decide) ?_
        refine r_ldc2 (x := 9) dX12_canBe_24 qX12_102 (by decide) ?_
        refine r_callS (args := [vl x3, vl 0, vl 9]) dX12_canBe_27 kX12_82 rfl rfl (Nat.le_of_ble_eq_true rfl) cap0 (Ev.mono V ?_)
        rintro r h' ⟨x31, n30, rfl, rfl, V⟩
        show Rn w mX12_canBe (d + 1) G Q 30 [(0, vi x0), (1, vi x1), (2, vi x2), (3, vi x3), (4, vi x4), (5, vi x5)] [vi x31] (B0, n30)
        obtain ⟨V1, V2⟩ := V
        refine r_zeq (tgt := 64) dX12_canBe_30 (by decide) (fun c32 => ?_) (fun c32 => ?_)
        · have V := V1 c32
          refine r_iconst (x := 0) dX12_canBe_64 rfl (by decide) ?_
          exact r_zret dX12_canBe_65 rfl (by decide) V
        · have V := V2 c32
          refine r_iload dX12_canBe_33 rfl ?_
          refine r_i2l dX12_canBe_35 ?_
          refine r_lconst (x := 1) dX12_canBe_36 rfl (by decide) ?_
          refine r_ldc2 (x := 200) dX12_canBe_37 qX12_120 (by decide) ?_
          refine r_callS (args := [vl x4, vl 1, vl 200]) dX12_canBe_40 kX12_82 rfl rfl (Nat.le_of_ble_eq_true rfl) cap0 (Ev.mono V ?_)
          rintro r h' ⟨x34, n33, rfl, rfl, V⟩
          show Rn w mX12_canBe (d + 1) G Q 43 [(0, vi x0), (1, vi x1), (2, vi x2), (3, vi x3), (4, vi x4), (5, vi x5)] [vi x34] (B0, n33)
          obtain ⟨V1, V2⟩ := V
          refine r_zeq (tgt := 64) dX12_canBe_43 (by decide) (fun c35 => ?_) (fun c35 => ?_)
          · have V := V1 c35
            refine r_iconst (x := 0) dX12_canBe_64 rfl (by decide) ?_
            exact r_zret dX12_canBe_65 rfl (by decide) V
          · have V := V2 c35
            refine r_iload dX12_canBe_46 rfl ?_
            refine r_callS (args := [vi x5]) dX12_canBe_48 kX12_96 rfl rfl (Nat.le_of_ble_eq_true rfl) cap0 (Ev.mono V ?_)
            rintro r h' ⟨x37, n36, rfl, rfl, V⟩
            show Rn w mX12_canBe (d + 1) G Q 51 [(0, vi x0), (1, vi x1), (2, vi x2), (3, vi x3), (4, vi x4), (5, vi x5)] [vi x37] (B0, n36)
            obtain ⟨V1, V2⟩ := V
            refine r_zeq (tgt := 64) dX12_canBe_51 (by decide) (fun c38 => ?_) (fun c38 => ?_)
            · have V := V1 c38
              refine r_iconst (x := 0) dX12_canBe_64 rfl (by decide) ?_
              exact r_zret dX12_canBe_65 rfl (by decide) V
            · have V := V2 c38
              refine r_iload dX12_canBe_54 rfl ?_
              refine r_iload_n dX12_canBe_56 rfl rfl ?_
              obtain ⟨V1, V2⟩ := V
              refine r_jlt (tgt := 64) dX12_canBe_57 (by decide) (fun c39 => ?_) (fun c39 => ?_)
              · have V := V1 c39
                refine r_iconst (x := 0) dX12_canBe_64 rfl (by decide) ?_
                exact r_zret dX12_canBe_65 rfl (by decide) V
              · have V := V2 c39
                refine r_iconst (x := 1) dX12_canBe_60 rfl (by decide) ?_
                refine r_goto (tgt := 65) dX12_canBe_61 (by decide) ?_
                exact r_zret dX12_canBe_65 rfl (by decide) V

theorem gX12_put_0 {w : WD} {d : Nat} {G : GM} {Q : Option AV → Hp → Prop} {n : NM} {x1 x2 x3 x4 x5 x6 x7 : Int}
    (V :
    (inI (7 * (n 147 5))) ∧
    (inI (420 + (7 * (n 147 5)))) ∧
    (0 ≤ 420 + (7 * (n 147 5))) ∧
    (420 + (7 * (n 147 5)) < 1800) ∧
    (inI ((420 + (7 * (n 147 5))) + 1)) ∧
    (0 ≤ (420 + (7 * (n 147 5))) + 1) ∧
    ((420 + (7 * (n 147 5))) + 1 < 1800) ∧
    (inI ((420 + (7 * (n 147 5))) + 2)) ∧
    (0 ≤ (420 + (7 * (n 147 5))) + 2) ∧
    ((420 + (7 * (n 147 5))) + 2 < 1800) ∧
    (inI ((420 + (7 * (n 147 5))) + 3)) ∧
    (0 ≤ (420 + (7 * (n 147 5))) + 3) ∧
    ((420 + (7 * (n 147 5))) + 3 < 1800) ∧
    (inI ((420 + (7 * (n 147 5))) + 4)) ∧
    (0 ≤ (420 + (7 * (n 147 5))) + 4) ∧
    ((420 + (7 * (n 147 5))) + 4 < 1800) ∧
    (inI ((420 + (7 * (n 147 5))) + 5)) ∧
    (0 ≤ (420 + (7 * (n 147 5))) + 5) ∧
    ((420 + (7 * (n 147 5))) + 5 < 1800) ∧
    (inI ((420 + (7 * (n 147 5))) + 6)) ∧
    (0 ≤ (420 + (7 * (n 147 5))) + 6) ∧
    ((420 + (7 * (n 147 5))) + 6 < 1800) ∧
    (inI (((upn (upn (upn (upn (upn (upn (upn n 147 (420 + (7 * (n 147 5))) x1) 147 ((420 + (7 * (n 147 5))) + 1) x2) 147 ((420 + (7 * (n 147 5))) + 2) x3) 147 ((420 + (7 * (n 147 5))) + 3) x4) 147 ((420 + (7 * (n 147 5))) + 4) x5) 147 ((420 + (7 * (n 147 5))) + 5) x6) 147 ((420 + (7 * (n 147 5))) + 6) x7) 147 5) + 1)) ∧
    Q none (B0, upn (upn (upn (upn (upn (upn (upn (upn n 147 (420 + (7 * (n 147 5))) x1) 147 ((420 + (7 * (n 147 5))) + 1) x2) 147 ((420 + (7 * (n 147 5))) + 2) x3) 147 ((420 + (7 * (n 147 5))) + 3) x4) 147 ((420 + (7 * (n 147 5))) + 4) x5) 147 ((420 + (7 * (n 147 5))) + 5) x6) 147 ((420 + (7 * (n 147 5))) + 6) x7) 147 5 (((upn (upn (upn (upn (upn (upn (upn n 147 (420 + (7 * (n 147 5))) x1) 147 ((420 + (7 * (n 147 5))) + 1) x2) 147 ((420 + (7 * (n 147 5))) + 2) x3) 147 ((420 + (7 * (n 147 5))) + 3) x4) 147 ((420 + (7 * (n 147 5))) + 4) x5) 147 ((420 + (7 * (n 147 5))) + 5) x6) 147 ((420 + (7 * (n 147 5))) + 6) x7) 147 5) + 1))) :
    Rn w mX12_put d G Q 0 [(0, vr 145), (1, vi x1), (2, vi x2), (3, vi x3), (4, vi x4), (5, vi x5), (6, vi x6), (7, vi x7)] [] (B0, n) := by
  refine r_sipush (x := 420) dX12_put_0 (by decide +kernel) (by decide) ?_
  refine r_bipush (x := 7) dX12_put_3 (by decide +kernel) (by decide) ?_
  refine r_aload_n dX12_put_5 rfl rfl ?_
  refine r_getR (b := 147) dX12_put_6 fX12_13 ob_145 (by decide) rfl rfl ?_
  refine r_iconst (x := 5) dX12_put_9 rfl (by decide) ?_
  refine r_iald dX12_put_10 ob_147 (by decide) (by decide) ?_
  obtain ⟨s21, V⟩ := V
  refine r_imul dX12_put_11 s21 ?_
  obtain ⟨s22, V⟩ := V
  refine r_iadd dX12_put_12 s22 ?_
  refine r_istore (ls' := [(0, vr 145), (1, vi x1), (2, vi x2), (3, vi x3), (4, vi x4), (5, vi x5), (6, vi x6), (7, vi x7), (8, vi (420 + (7 * (n 147 5))))]) dX12_put_13 (by decide) rfl ?_
  refine r_aload_n dX12_put_15 rfl rfl ?_
  refine r_getR (b := 147) dX12_put_16 fX12_13 ob_145 (by decide) rfl rfl ?_
  refine r_iload dX12_put_19 rfl ?_
  refine r_iload_n dX12_put_21 rfl rfl ?_
  obtain ⟨s23, V⟩ := V
  obtain ⟨s24, V⟩ := V
  refine r_iast (h' := (B0, upn n 147 (420 + (7 * (n 147 5))) x1)) dX12_put_22 ob_147 s23 s24 rfl ?_
  refine r_aload_n dX12_put_23 rfl rfl ?_
  refine r_getR (b := 147) dX12_put_24 fX12_13 ob_145 (by decide) rfl rfl ?_
  refine r_iload dX12_put_27 rfl ?_
  refine r_iconst (x := 1) dX12_put_29 rfl (by decide) ?_
  obtain ⟨s25, V⟩ := V
  refine r_iadd dX12_put_30 s25 ?_
  refine r_iload_n dX12_put_31 rfl rfl ?_
  obtain ⟨s26, V⟩ := V
  obtain ⟨s27, V⟩ := V
  refine r_iast (h' := (B0, upn (upn n 147 (420 + (7 * (n 147 5))) x1) 147 ((420 + (7 * (n 147 5))) + 1) x2)) dX12_put_32 ob_147 s26 s27 rfl ?_
  refine r_aload_n dX12_put_33 rfl rfl ?_
  refine r_getR (b := 147) dX12_put_34 fX12_13 ob_145 (by decide) rfl rfl ?_
  refine r_iload dX12_put_37 rfl ?_
  refine r_iconst (x := 2) dX12_put_39 rfl (by decide) ?_
  obtain ⟨s28, V⟩ := V
  refine r_iadd dX12_put_40 s28 ?_
  refine r_iload_n dX12_put_41 rfl rfl ?_
  obtain ⟨s29, V⟩ := V
  obtain ⟨s30, V⟩ := V
  refine r_iast (h' := (B0, upn (upn (upn n 147 (420 + (7 * (n 147 5))) x1) 147 ((420 + (7 * (n 147 5))) + 1) x2) 147 ((420 + (7 * (n 147 5))) + 2) x3)) dX12_put_42 ob_147 s29 s30 rfl ?_
  refine r_aload_n dX12_put_43 rfl rfl ?_
  refine r_getR (b := 147) dX12_put_44 fX12_13 ob_145 (by decide) rfl rfl ?_
  refine r_iload dX12_put_47 rfl ?_
  refine r_iconst (x := 3) dX12_put_49 rfl (by decide) ?_
  obtain ⟨s31, V⟩ := V
  refine r_iadd dX12_put_50 s31 ?_
  refine r_iload dX12_put_51 rfl ?_
  obtain ⟨s32, V⟩ := V
  obtain ⟨s33, V⟩ := V
  refine r_iast (h' := (B0, upn (upn (upn (upn n 147 (420 + (7 * (n 147 5))) x1) 147 ((420 + (7 * (n 147 5))) + 1) x2) 147 ((420 + (7 * (n 147 5))) + 2) x3) 147 ((420 + (7 * (n 147 5))) + 3) x4)) dX12_put_53 ob_147 s32 s33 rfl ?_
  refine r_aload_n dX12_put_54 rfl rfl ?_
  refine r_getR (b := 147) dX12_put_55 fX12_13 ob_145 (by decide) rfl rfl ?_
  refine r_iload dX12_put_58 rfl ?_
  refine r_iconst (x := 4) dX12_put_60 rfl (by decide) ?_
  obtain ⟨s34, V⟩ := V
  refine r_iadd dX12_put_61 s34 ?_
  refine r_iload dX12_put_62 rfl ?_
  obtain ⟨s35, V⟩ := V
  obtain ⟨s36, V⟩ := V
  refine r_iast (h' := (B0, upn (upn (upn (upn (upn n 147 (420 + (7 * (n 147 5))) x1) 147 ((420 + (7 * (n 147 5))) + 1) x2) 147 ((420 + (7 * (n 147 5))) + 2) x3) 147 ((420 + (7 * (n 147 5))) + 3) x4) 147 ((420 + (7 * (n 147 5))) + 4) x5)) dX12_put_64 ob_147 s35 s36 rfl ?_
  refine r_aload_n dX12_put_65 rfl rfl ?_
  refine r_getR (b := 147) dX12_put_66 fX12_13 ob_145 (by decide) rfl rfl ?_
  refine r_iload dX12_put_69 rfl ?_
  refine r_iconst (x := 5) dX12_put_71 rfl (by decide) ?_
  obtain ⟨s37, V⟩ := V
  refine r_iadd dX12_put_72 s37 ?_
  refine r_iload dX12_put_73 rfl ?_
  obtain ⟨s38, V⟩ := V
  obtain ⟨s39, V⟩ := V
  refine r_iast (h' := (B0, upn (upn (upn (upn (upn (upn n 147 (420 + (7 * (n 147 5))) x1) 147 ((420 + (7 * (n 147 5))) + 1) x2) 147 ((420 + (7 * (n 147 5))) + 2) x3) 147 ((420 + (7 * (n 147 5))) + 3) x4) 147 ((420 + (7 * (n 147 5))) + 4) x5) 147 ((420 + (7 * (n 147 5))) + 5) x6)) dX12_put_75 ob_147 s38 s39 rfl ?_
  refine r_aload_n dX12_put_76 rfl rfl ?_
  refine r_getR (b := 147) dX12_put_77 fX12_13 ob_145 (by decide) rfl rfl ?_
  refine r_iload dX12_put_80 rfl ?_
  refine r_bipush (x := 6) dX12_put_82 (by decide +kernel) (by decide) ?_
  obtain ⟨s40, V⟩ := V
  refine r_iadd dX12_put_84 s40 ?_
  refine r_iload dX12_put_85 rfl ?_
  obtain ⟨s41, V⟩ := V
  obtain ⟨s42, V⟩ := V
  refine r_iast (h' := (B0, upn (upn (upn (upn (upn (upn (upn n 147 (420 + (7 * (n 147 5))) x1) 147 ((420 + (7 * (n 147 5))) + 1) x2) 147 ((420 + (7 * (n 147 5))) + 2) x3) 147 ((420 + (7 * (n 147 5))) + 3) x4) 147 ((420 + (7 * (n 147 5))) + 4) x5) 147 ((420 + (7 * (n 147 5))) + 5) x6) 147 ((420 + (7 * (n 147 5))) + 6) x7)) dX12_put_87 ob_147 s41 s42 rfl ?_
  refine r_aload_n dX12_put_88 rfl rfl ?_
  refine r_getR (b := 147) dX12_put_89 fX12_13 ob_145 (by decide) rfl rfl ?_
  refine r_iconst (x := 5) dX12_put_92 rfl (by decide) ?_
  refine r_dup2 dX12_put_93 rfl rfl ?_
  refine r_iald dX12_put_94 ob_147 (by decide) (by decide) ?_
  refine r_iconst (x := 1) dX12_put_95 rfl (by decide) ?_
  obtain ⟨s43, V⟩ := V
  refine r_iadd dX12_put_96 s43 ?_
  refine r_iast (h' := (B0, upn (upn (upn (upn (upn (upn (upn (upn n 147 (420 + (7 * (n 147 5))) x1) 147 ((420 + (7 * (n 147 5))) + 1) x2) 147 ((420 + (7 * (n 147 5))) + 2) x3) 147 ((420 + (7 * (n 147 5))) + 3) x4) 147 ((420 + (7 * (n 147 5))) + 4) x5) 147 ((420 + (7 * (n 147 5))) + 5) x6) 147 ((420 + (7 * (n 147 5))) + 6) x7) 147 5 (((upn (upn (upn (upn (upn (upn (upn n 147 (420 + (7 * (n 147 5))) x1) 147 ((420 + (7 * (n 147 5))) + 1) x2) 147 ((420 + (7 * (n 147 5))) + 2) x3) 147 ((420 + (7 * (n 147 5))) + 3) x4) 147 ((420 + (7 * (n 147 5))) + 4) x5) 147 ((420 + (7 * (n 147 5))) + 5) x6) 147 ((420 + (7 * (n 147 5))) + 6) x7) 147 5) + 1))) dX12_put_97 ob_147 (by decide) (by decide) rfl ?_
  exact r_ret dX12_put_98 rfl V

theorem gX12_sight_0 {w : WD} {d : Nat} {G : GM} {Q : Option AV → Hp → Prop} {n : NM} {x1 x2 x3 x4 x5 x6 x7 : Int}
    (V :
    (Ev w d 0 0 mX12_canBe [vi x1, vi x2, vi x3, vi x5, vi x6, vi x7] (B0, upn n 145 0 0) (fun r h' => ∃ (x22 : Int) (n21 : NM), r = some (vi x22) ∧ h' = (B0, n21) ∧ 
      ((x22 ≠ 0 →
        (Ev w d 0 0 mX12_is [vr 145, vi 3, vi x4] (B0, n21) (fun r h' => ∃ (x25 : Int) (n24 : NM), r = some (vi x25) ∧ h' = (B0, n24) ∧ 
          ((x25 ≠ 0 →
            ((n24 147 5 ≠ 40 →
              (Ev w d 0 0 mX12_put [vr 145, vi x1, vi x2, vi x3, vi x4, vi x5, vi x6, vi x7] (B0, n24) (fun r h' => ∃ n28 : NM, r = none ∧ h' = (B0, n28) ∧ 
                (inI ((n28 147 5) - 1)) ∧
                (Ev w d 0 0 mX12_tell [vr 145, vi ((n28 147 5) - 1)] (B0, n28) (fun r h' => ∃ (x31 : Int) (n30 : NM), r = some (vi x31) ∧ h' = (B0, n30) ∧ 
                  Q (some (vi x31)) (B0, n30)))))) ∧
            (n24 147 5 = 40 →
              (Ev w d 0 0 mX12_tell [vr 145, vi (-5)] (B0, n24) (fun r h' => ∃ (x33 : Int) (n32 : NM), r = some (vi x33) ∧ h' = (B0, n32) ∧ 
                Q (some (vi x33)) (B0, n32)))))) ∧
          (x25 = 0 →
            (Ev w d 0 0 mX12_tell [vr 145, vi (-2)] (B0, n24) (fun r h' => ∃ (x35 : Int) (n34 : NM), r = some (vi x35) ∧ h' = (B0, n34) ∧ 
              Q (some (vi x35)) (B0, n34)))))))) ∧
      (x22 = 0 →
        (Ev w d 0 0 mX12_tell [vr 145, vi (-1)] (B0, n21) (fun r h' => ∃ (x37 : Int) (n36 : NM), r = some (vi x37) ∧ h' = (B0, n36) ∧ 
          Q (some (vi x37)) (B0, n36)))))))) :
    Rn w mX12_sight (d + 1) G Q 0 [(0, vr 145), (1, vi x1), (2, vi x2), (3, vi x3), (4, vi x4), (5, vi x5), (6, vi x6), (7, vi x7)] [] (B0, n) := by
  refine r_aload_n dX12_sight_0 rfl rfl ?_
  refine r_iconst (x := 0) dX12_sight_1 rfl (by decide) ?_
  refine r_putI (fi := 0) (h' := (B0, upn n 145 0 0)) dX12_sight_2 pX12_76 ob_145 (by decide) rfl rfl rfl ?_
  refine r_iload_n dX12_sight_5 rfl rfl ?_
  refine r_iload_n dX12_sight_6 rfl rfl ?_
  refine r_iload_n dX12_sight_7 rfl rfl ?_
  refine r_iload dX12_sight_8 rfl ?_
  refine r_iload dX12_sight_10 rfl ?_
  refine r_iload dX12_sight_12 rfl ?_
  refine r_callS (args := [vi x1, vi x2, vi x3, vi x5, vi x6, vi x7]) dX12_sight_14 kX12_126 rfl rfl (Nat.le_of_ble_eq_true rfl) cap0 (Ev.mono V ?_)
  rintro r h' ⟨x22, n21, rfl, rfl, V⟩
  show Rn w mX12_sight (d + 1) G Q 17 [(0, vr 145), (1, vi x1), (2, vi x2), (3, vi x3), (4, vi x4), (5, vi x5), (6, vi x6), (7, vi x7)] [vi x22] (B0, n21)
  obtain ⟨V1, V2⟩ := V
  refine r_zne (tgt := 26) dX12_sight_17 (by decide) (fun c23 => ?_) (fun c23 => ?_)
  · have V := V1 c23
    refine r_aload_n dX12_sight_26 rfl rfl ?_
    refine r_iconst (x := 3) dX12_sight_27 rfl (by decide) ?_
    refine r_iload dX12_sight_28 rfl ?_
    refine r_callV (args := [vi 3, vi x4]) dX12_sight_30 kX12_122 ob_145 ⟨_, _, rfl⟩ (by decide) rfl rfl (Nat.le_of_ble_eq_true rfl) cap0 (Ev.mono V ?_)
    rintro r h' ⟨x25, n24, rfl, rfl, V⟩
    show Rn w mX12_sight (d + 1) G Q 33 [(0, vr 145), (1, vi x1), (2, vi x2), (3, vi x3), (4, vi x4), (5, vi x5), (6, vi x6), (7, vi x7)] [vi x25] (B0, n24)
    obtain ⟨V1, V2⟩ := V
    refine r_zne (tgt := 43) dX12_sight_33 (by decide) (fun c26 => ?_) (fun c26 => ?_)
    · have V := V1 c26
      refine r_aload_n dX12_sight_43 rfl rfl ?_
      refine r_getR (b := 147) dX12_sight_44 fX12_13 ob_145 (by decide) rfl rfl ?_
      refine r_iconst (x := 5) dX12_sight_47 rfl (by decide) ?_
      refine r_iald dX12_sight_48 ob_147 (by decide) (by decide) ?_
      refine r_bipush (x := 40) dX12_sight_49 (by decide +kernel) (by decide) ?_
      obtain ⟨V1, V2⟩ := V
      refine r_jne (tgt := 61) dX12_sight_51 (by decide) (fun c27 => ?_) (fun c27 => ?_)
      · have V := V1 c27
        refine r_aload_n dX12_sight_61 rfl rfl ?_
        refine r_iload_n dX12_sight_62 rfl rfl ?_
        refine r_iload_n dX12_sight_63 rfl rfl ?_
        refine r_iload_n dX12_sight_64 rfl rfl ?_
        refine r_iload dX12_sight_65 rfl ?_
        refine r_iload dX12_sight_67 rfl ?_
        refine r_iload dX12_sight_69 rfl ?_
        refine r_iload dX12_sight_71 rfl ?_
        refine r_callV (args := [vi x1, vi x2, vi x3, vi x4, vi x5, vi x6, vi x7]) dX12_sight_73 kX12_130 ob_145 ⟨_, _, rfl⟩ (by decide) rfl rfl (Nat.le_of_ble_eq_true rfl) cap0 (Ev.mono V ?_)
        rintro r h' ⟨n28, rfl, rfl, V⟩
        show Rn w mX12_sight (d + 1) G Q 76 [(0, vr 145), (1, vi x1), (2, vi x2), (3, vi x3), (4, vi x4), (5, vi x5), (6, vi x6), (7, vi x7)] [] (B0, n28)
        refine r_aload_n dX12_sight_76 rfl rfl ?_
        refine r_aload_n dX12_sight_77 rfl rfl ?_
        refine r_getR (b := 147) dX12_sight_78 fX12_13 ob_145 (by decide) rfl rfl ?_
        refine r_iconst (x := 5) dX12_sight_81 rfl (by decide) ?_
        refine r_iald dX12_sight_82 ob_147 (by decide) (by decide) ?_
        refine r_iconst (x := 1) dX12_sight_83 rfl (by decide) ?_
        obtain ⟨s29, V⟩ := V
        refine r_isub dX12_sight_84 s29 ?_
        refine r_callV (args := [vi ((n28 147 5) - 1)]) dX12_sight_85 kX12_86 ob_145 ⟨_, _, rfl⟩ (by decide) rfl rfl (Nat.le_of_ble_eq_true rfl) cap0 (Ev.mono V ?_)
        rintro r h' ⟨x31, n30, rfl, rfl, V⟩
        show Rn w mX12_sight (d + 1) G Q 88 [(0, vr 145), (1, vi x1), (2, vi x2), (3, vi x3), (4, vi x4), (5, vi x5), (6, vi x6), (7, vi x7)] [vi x31] (B0, n30)
        exact r_iret dX12_sight_88 rfl V
      · have V := V2 c27
        refine r_aload_n dX12_sight_54 rfl rfl ?_
        refine r_bipush (x := -5) dX12_sight_55 (by decide +kernel) (by decide) ?_
        refine r_callV (args := [vi (-5)]) dX12_sight_57 kX12_86 ob_145 ⟨_, _, rfl⟩ (by decide) rfl rfl (Nat.le_of_ble_eq_true rfl) cap0 (Ev.mono V ?_)
        rintro r h' ⟨x33, n32, rfl, rfl, V⟩
        show Rn w mX12_sight (d + 1) G Q 60 [(0, vr 145), (1, vi x1), (2, vi x2), (3, vi x3), (4, vi x4), (5, vi x5), (6, vi x6), (7, vi x7)] [vi x33] (B0, n32)
        exact r_iret dX12_sight_60 rfl V
    · have V := V2 c26
      refine r_aload_n dX12_sight_36 rfl rfl ?_
      refine r_bipush (x := -2) dX12_sight_37 (by decide +kernel) (by decide) ?_
      refine r_callV (args := [vi (-2)]) dX12_sight_39 kX12_86 ob_145 ⟨_, _, rfl⟩ (by decide) rfl rfl (Nat.le_of_ble_eq_true rfl) cap0 (Ev.mono V ?_)
      rintro r h' ⟨x35, n34, rfl, rfl, V⟩
      show Rn w mX12_sight (d + 1) G Q 42 [(0, vr 145), (1, vi x1), (2, vi x2), (3, vi x3), (4, vi x4), (5, vi x5), (6, vi x6), (7, vi x7)] [vi x35] (B0, n34)
      exact r_iret dX12_sight_42 rfl V
  · have V := V2 c23
    refine r_aload_n dX12_sight_20 rfl rfl ?_
    refine r_iconst (x := -1) dX12_sight_21 rfl (by decide) ?_
    refine r_callV (args := [vi (-1)]) dX12_sight_22 kX12_86 ob_145 ⟨_, _, rfl⟩ (by decide) rfl rfl (Nat.le_of_ble_eq_true rfl) cap0 (Ev.mono V ?_)
    rintro r h' ⟨x37, n36, rfl, rfl, V⟩
    show Rn w mX12_sight (d + 1) G Q 25 [(0, vr 145), (1, vi x1), (2, vi x2), (3, vi x3), (4, vi x4), (5, vi x5), (6, vi x6), (7, vi x7)] [vi x37] (B0, n36)
    exact r_iret dX12_sight_25 rfl V

theorem gX12_row_0 {w : WD} {d : Nat} {G : GM} {Q : Option AV → Hp → Prop} {n : NM}
    (V :
    ((n 145 8 ≠ 0 →
      Rn w mX12_row (d + 1) G Q 33 [(0, vr 145), (1, vi (n 145 8)), (2, vi 0), (3, vi 0), (4, vi 0)] [] (B0, upn (upn n 145 0 0) 145 8 0)) ∧
    (n 145 8 = 0 →
      (Ev w d 0 0 mX12_tell [vr 145, vi (-6)] (B0, upn (upn n 145 0 0) 145 8 0) (fun r h' => ∃ (x23 : Int) (n22 : NM), r = some (vi x23) ∧ h' = (B0, n22) ∧ 
        Q (some (vi x23)) (B0, n22)))))) :
    Rn w mX12_row (d + 1) G Q 0 [(0, vr 145)] [] (B0, n) := by
  refine r_aload_n dX12_row_0 rfl rfl ?_
  refine r_iconst (x := 0) dX12_row_1 rfl (by decide) ?_
  refine r_putI (fi := 0) (h' := (B0, upn n 145 0 0)) dX12_row_2 pX12_76 ob_145 (by decide) rfl rfl rfl ?_
  refine r_aload_n dX12_row_5 rfl rfl ?_
  refine r_getI (fi := 8) dX12_row_6 fX12_134 ob_145 (by decide) (by decide) rfl ?_
  show Rn w mX12_row (d + 1) G Q 9 [(0, vr 145)] [vi (n 145 8)] (B0, upn n 145 0 0)
  refine r_istore_n (ls' := [(0, vr 145), (1, vi (n 145 8))]) dX12_row_9 rfl (by decide) rfl ?_
  refine r_aload_n dX12_row_10 rfl rfl ?_
  refine r_iconst (x := 0) dX12_row_11 rfl (by decide) ?_
  refine r_putI (fi := 8) (h' := (B0, upn (upn n 145 0 0) 145 8 0)) dX12_row_12 pX12_134 ob_145 (by decide) rfl rfl rfl ?_
  refine r_iload_n dX12_row_15 rfl rfl ?_
  obtain ⟨V1, V2⟩ := V
  refine r_zne (tgt := 26) dX12_row_16 (by decide) (fun c21 => ?_) (fun c21 => ?_)
  · have V := V1 c21
    refine r_iconst (x := 0) dX12_row_26 rfl (by decide) ?_
    refine r_istore_n (ls' := [(0, vr 145), (1, vi (n 145 8)), (2, vi 0)]) dX12_row_27 rfl (by decide) rfl ?_
    refine r_iconst (x := 0) dX12_row_28 rfl (by decide) ?_
    refine r_istore_n (ls' := [(0, vr 145), (1, vi (n 145 8)), (2, vi 0), (3, vi 0)]) dX12_row_29 rfl (by decide) rfl ?_
    refine r_iconst (x := 0) dX12_row_30 rfl (by decide) ?_
    refine r_istore (ls' := [(0, vr 145), (1, vi (n 145 8)), (2, vi 0), (3, vi 0), (4, vi 0)]) dX12_row_31 (by decide) rfl ?_
    exact V
  · have V := V2 c21
    refine r_aload_n dX12_row_19 rfl rfl ?_
    refine r_bipush (x := -6) dX12_row_20 (by decide +kernel) (by decide) ?_
    refine r_callV (args := [vi (-6)]) dX12_row_22 kX12_86 ob_145 ⟨_, _, rfl⟩ (by decide) rfl rfl (Nat.le_of_ble_eq_true rfl) cap0 (Ev.mono V ?_)
    rintro r h' ⟨x23, n22, rfl, rfl, V⟩
    show Rn w mX12_row (d + 1) G Q 25 [(0, vr 145), (1, vi (n 145 8))] [vi x23] (B0, n22)
    exact r_iret dX12_row_25 rfl V

theorem gX12_row_33 {w : WD} {d : Nat} {G : GM} {Q : Option AV → Hp → Prop} {n : NM} {x1 x2 x3 x4 : Int}
    (V :
    ((x1 ≤ x4 →
      (Ev w d 0 0 mX12_tell [vr 145, vi x2] (B0, upn n 145 6 x3) (fun r h' => ∃ (x23 : Int) (n22 : NM), r = some (vi x23) ∧ h' = (B0, n22) ∧ 
        Q (some (vi x23)) (B0, n22)))) ∧
    (x4 < x1 →
      (inI (x4 + 7)) ∧
      ((x1 < x4 + 7 →
        Rn w mX12_row (d + 1) G Q 150 [(0, vr 145), (1, vi x1), (2, vi x2), (3, vi x3), (4, vi x4)] [] (B0, n)) ∧
      (x4 + 7 ≤ x1 →
        ((40 ≤ n 147 5 →
          Rn w mX12_row (d + 1) G Q 150 [(0, vr 145), (1, vi x1), (2, vi x2), (3, vi x3), (4, vi x4)] [] (B0, n)) ∧
        (n 147 5 < 40 →
          (inI (x4 + 3)) ∧
          (0 ≤ x4 + 3) ∧
          (x4 + 3 < 400) ∧
          (Ev w d 0 0 mX12_is [vr 145, vi 3, vi (n 150 (x4 + 3))] (B0, n) (fun r h' => ∃ (x31 : Int) (n30 : NM), r = some (vi x31) ∧ h' = (B0, n30) ∧ 
            ((x31 = 0 →
              Rn w mX12_row (d + 1) G Q 150 [(0, vr 145), (1, vi x1), (2, vi x2), (3, vi x3), (4, vi x4)] [] (B0, n30)) ∧
            (x31 ≠ 0 →
              (0 ≤ x4) ∧
              (x4 < 400) ∧
              (inI (x4 + 1)) ∧
              (0 ≤ x4 + 1) ∧
              (x4 + 1 < 400) ∧
              (inI (10 * (n30 150 (x4 + 1)))) ∧
              (inI (x4 + 2)) ∧
              (0 ≤ x4 + 2) ∧
              (x4 + 2 < 400) ∧
              (inI (x4 + 4)) ∧
              (0 ≤ x4 + 4) ∧
              (x4 + 4 < 400) ∧
              (inI (x4 + 5)) ∧
              (0 ≤ x4 + 5) ∧
              (x4 + 5 < 400) ∧
              (0 ≤ x4) ∧
              (x4 < 400) ∧
              (inI (x4 + 6)) ∧
              (0 ≤ x4 + 6) ∧
              (x4 + 6 < 400) ∧
              (inI ((n30 150 x4) + (n30 150 (x4 + 6)))) ∧
              (Ev w d 0 0 mX12_canBe [vi (n30 150 x4), vi (10 * (n30 150 (x4 + 1))), vi (n30 150 (x4 + 2)), vi (n30 150 (x4 + 4)), vi (n30 150 (x4 + 5)), vi ((n30 150 x4) + (n30 150 (x4 + 6)))] (B0, n30) (fun r h' => ∃ (x55 : Int) (n54 : NM), r = some (vi x55) ∧ h' = (B0, n54) ∧ 
                (∀ z57 : Int, z57 = (if x55 = 0 then 0 else 1) → 
                ((z57 = 0 →
                  (inI (x3 + 1)) ∧
                  (inI (x4 + 7)) ∧
                  Rn w mX12_row (d + 1) G Q 33 [(0, vr 145), (1, vi x1), (2, vi x2), (3, vi (x3 + 1)), (4, vi (x4 + 7))] [] (B0, n54)) ∧
                (z57 ≠ 0 →
                  (0 ≤ x4) ∧
                  (x4 < 400) ∧
                  (inI (x4 + 1)) ∧
                  (0 ≤ x4 + 1) ∧
                  (x4 + 1 < 400) ∧
                  (inI (10 * (n54 150 (x4 + 1)))) ∧
                  (inI (x4 + 2)) ∧
                  (0 ≤ x4 + 2) ∧
                  (x4 + 2 < 400) ∧
                  (inI (x4 + 3)) ∧
                  (0 ≤ x4 + 3) ∧
                  (x4 + 3 < 400) ∧
                  (inI (x4 + 4)) ∧
                  (0 ≤ x4 + 4) ∧
                  (x4 + 4 < 400) ∧
                  (inI (x4 + 5)) ∧
                  (0 ≤ x4 + 5) ∧
                  (x4 + 5 < 400) ∧
                  (0 ≤ x4) ∧
                  (x4 < 400) ∧
                  (inI (x4 + 6)) ∧
                  (0 ≤ x4 + 6) ∧
                  (x4 + 6 < 400) ∧
                  (inI ((n54 150 x4) + (n54 150 (x4 + 6)))) ∧
                  (Ev w d 0 0 mX12_put [vr 145, vi (n54 150 x4), vi (10 * (n54 150 (x4 + 1))), vi (n54 150 (x4 + 2)), vi (n54 150 (x4 + 3)), vi (n54 150 (x4 + 4)), vi (n54 150 (x4 + 5)), vi ((n54 150 x4) + (n54 150 (x4 + 6)))] (B0, n54) (fun r h' => ∃ n85 : NM, r = none ∧ h' = (B0, n85) ∧ 
                    (inI (x2 + 1)) ∧
                    (inI (x4 + 7)) ∧
                    Rn w mX12_row (d + 1) G Q 33 [(0, vr 145), (1, vi x1), (2, vi (x2 + 1)), (3, vi x3), (4, vi (x4 + 7))] [] (B0, n85))))))))))))))))))) :
    Rn w mX12_row (d + 1) G Q 33 [(0, vr 145), (1, vi x1), (2, vi x2), (3, vi x3), (4, vi x4)] [] (B0, n) := by
  refine r_iload dX12_row_33 rfl ?_
  refine r_iload_n dX12_row_35 rfl rfl ?_
  obtain ⟨V1, V2⟩ := V
  refine r_jge (tgt := 250) dX12_row_36 (by decide) (fun c21 => ?_) (fun c21 => ?_)
  · have V := V1 c21
    refine r_aload_n dX12_row_250 rfl rfl ?_
    refine r_iload_n dX12_row_251 rfl rfl ?_
    refine r_putI (fi := 6) (h' := (B0, upn n 145 6 x3)) dX12_row_252 pX12_137 ob_145 (by decide) rfl rfl rfl ?_
    refine r_aload_n dX12_row_255 rfl rfl ?_
    refine r_iload_n dX12_row_256 rfl rfl ?_
    refine r_callV (args := [vi x2]) dX12_row_257 kX12_86 ob_145 ⟨_, _, rfl⟩ (by decide) rfl rfl (Nat.le_of_ble_eq_true rfl) cap0 (Ev.mono V ?_)
    rintro r h' ⟨x23, n22, rfl, rfl, V⟩
    show Rn w mX12_row (d + 1) G Q 260 [(0, vr 145), (1, vi x1), (2, vi x2), (3, vi x3), (4, vi x4)] [vi x23] (B0, n22)
    exact r_iret dX12_row_260 rfl V
  · have V := V2 c21
    refine r_iload dX12_row_39 rfl ?_
    refine r_bipush (x := 7) dX12_row_41 (by decide +kernel) (by decide) ?_
    obtain ⟨s24, V⟩ := V
    refine r_iadd dX12_row_43 s24 ?_
    refine r_iload_n dX12_row_44 rfl rfl ?_
    obtain ⟨V1, V2⟩ := V
    refine r_jgt (tgt := 150) dX12_row_45 (by decide) (fun c25 => ?_) (fun c25 => ?_)
    · have V := V1 c25
      exact V
    · have V := V2 c25
      refine r_aload_n dX12_row_48 rfl rfl ?_
      refine r_getR (b := 147) dX12_row_49 fX12_13 ob_145 (by decide) rfl rfl ?_
      refine r_iconst (x := 5) dX12_row_52 rfl (by decide) ?_
      refine r_iald dX12_row_53 ob_147 (by decide) (by decide) ?_
      refine r_bipush (x := 40) dX12_row_54 (by decide +kernel) (by decide) ?_
      obtain ⟨V1, V2⟩ := V
      refine r_jge (tgt := 150) dX12_row_56 (by decide) (fun c26 => ?_) (fun c26 => ?_)
      · have V := V1 c26
        exact V
      · have V := V2 c26
        refine r_aload_n dX12_row_59 rfl rfl ?_
        refine r_iconst (x := 3) dX12_row_60 rfl (by decide) ?_
        refine r_aload_n dX12_row_61 rfl rfl ?_
        refine r_getR (b := 150) dX12_row_62 fX12_23 ob_145 (by decide) rfl rfl ?_
        refine r_iload dX12_row_65 rfl ?_
        refine r_iconst (x := 3) dX12_row_67 rfl (by decide) ?_
        obtain ⟨s27, V⟩ := V
        refine r_iadd dX12_row_68 s27 ?_
        obtain ⟨s28, V⟩ := V
        obtain ⟨s29, V⟩ := V
        refine r_iald dX12_row_69 ob_150 s28 s29 ?_
        refine r_callV (args := [vi 3, vi (n 150 (x4 + 3))]) dX12_row_70 kX12_122 ob_145 ⟨_, _, rfl⟩ (by decide) rfl rfl (Nat.le_of_ble_eq_true rfl) cap0 (Ev.mono V ?_)
        rintro r h' ⟨x31, n30, rfl, rfl, V⟩
        show Rn w mX12_row (d + 1) G Q 73 [(0, vr 145), (1, vi x1), (2, vi x2), (3, vi x3), (4, vi x4)] [vi x31] (B0, n30)
        obtain ⟨V1, V2⟩ := V
        refine r_zeq (tgt := 150) dX12_row_73 (by decide) (fun c32 => ?_) (fun c32 => ?_)
        · have V := V1 c32
          exact V
        · have V := V2 c32
          refine r_aload_n dX12_row_76 rfl rfl ?_
          refine r_getR (b := 150) dX12_row_77 fX12_23 ob_145 (by decide) rfl rfl ?_
          refine r_iload dX12_row_80 rfl ?_
          obtain ⟨s33, V⟩ := V
          obtain ⟨s34, V⟩ := V
          refine r_iald dX12_row_82 ob_150 s33 s34 ?_
          refine r_bipush (x := 10) dX12_row_83 (by decide +kernel) (by decide) ?_
          refine r_aload_n dX12_row_85 rfl rfl ?_
          refine r_getR (b := 150) dX12_row_86 fX12_23 ob_145 (by decide) rfl rfl ?_
          refine r_iload dX12_row_89 rfl ?_
          refine r_iconst (x := 1) dX12_row_91 rfl (by decide) ?_
          obtain ⟨s35, V⟩ := V
          refine r_iadd dX12_row_92 s35 ?_
          obtain ⟨s36, V⟩ := V
          obtain ⟨s37, V⟩ := V
          refine r_iald dX12_row_93 ob_150 s36 s37 ?_
          obtain ⟨s38, V⟩ := V
          refine r_imul dX12_row_94 s38 ?_
          refine r_aload_n dX12_row_95 rfl rfl ?_
          refine r_getR (b := 150) dX12_row_96 fX12_23 ob_145 (by decide) rfl rfl ?_
          refine r_iload dX12_row_99 rfl ?_
          refine r_iconst (x := 2) dX12_row_101 rfl (by decide) ?_
          obtain ⟨s39, V⟩ := V
          refine r_iadd dX12_row_102 s39 ?_
          obtain ⟨s40, V⟩ := V
          obtain ⟨s41, V⟩ := V
          refine r_iald dX12_row_103 ob_150 s40 s41 ?_
          refine r_aload_n dX12_row_104 rfl rfl ?_
          refine r_getR (b := 150) dX12_row_105 fX12_23 ob_145 (by decide) rfl rfl ?_
          refine r_iload dX12_row_108 rfl ?_
          refine r_iconst (x := 4) dX12_row_110 rfl (by decide) ?_
          obtain ⟨s42, V⟩ := V
          refine r_iadd dX12_row_111 s42 ?_
          obtain ⟨s43, V⟩ := V
          obtain ⟨s44, V⟩ := V
          refine r_iald dX12_row_112 ob_150 s43 s44 ?_
          refine r_aload_n dX12_row_113 rfl rfl ?_
          refine r_getR (b := 150) dX12_row_114 fX12_23 ob_145 (by decide) rfl rfl ?_
          refine r_iload dX12_row_117 rfl ?_
          refine r_iconst (x := 5) dX12_row_119 rfl (by decide) ?_
          obtain ⟨s45, V⟩ := V
          refine r_iadd dX12_row_120 s45 ?_
          obtain ⟨s46, V⟩ := V
          obtain ⟨s47, V⟩ := V
          refine r_iald dX12_row_121 ob_150 s46 s47 ?_
          refine r_aload_n dX12_row_122 rfl rfl ?_
          refine r_getR (b := 150) dX12_row_123 fX12_23 ob_145 (by decide) rfl rfl ?_
          refine r_iload dX12_row_126 rfl ?_
          obtain ⟨s48, V⟩ := V
          obtain ⟨s49, V⟩ := V
          refine r_iald dX12_row_128 ob_150 s48 s49 ?_
          refine r_aload_n dX12_row_129 rfl rfl ?_
          refine r_getR (b := 150) dX12_row_130 fX12_23 ob_145 (by decide) rfl rfl ?_
          refine r_iload dX12_row_133 rfl ?_
          refine r_bipush (x := 6) dX12_row_135 (by decide +kernel) (by decide) ?_
          obtain ⟨s50, V⟩ := V
          refine r_iadd dX12_row_137 s50 ?_
          obtain ⟨s51, V⟩ := V
          obtain ⟨s52, V⟩ := V
          refine r_iald dX12_row_138 ob_150 s51 s52 ?_
          obtain ⟨s53, V⟩ := V
          refine r_iadd dX12_row_139 s53 ?_
          refine r_callS (args := [vi (n30 150 x4), vi (10 * (n30 150 (x4 + 1))), vi (n30 150 (x4 + 2)), vi (n30 150 (x4 + 4)), vi (n30 150 (x4 + 5)), vi ((n30 150 x4) + (n30 150 (x4 + 6)))]) dX12_row_140 kX12_126 rfl rfl (Nat.le_of_ble_eq_true rfl) cap0 (Ev.mono V ?_)
          rintro r h' ⟨x55, n54, rfl, rfl, V⟩
          show Rn w mX12_row (d + 1) G Q 143 [(0, vr 145), (1, vi x1), (2, vi x2), (3, vi x3), (4, vi x4)] [vi x55] (B0, n54)
          have K : ∀ z57 : Int, z57 = (if x55 = 0 then 0 else 1) → Rn w mX12_row (d + 1) G Q 151 [(0, vr 145), (1, vi x1), (2, vi x2), (3, vi x3), (4, vi x4)] [vi z57] (B0, n54) := by
            intro z57 ez57
            have V := V z57 ez57
            refine r_istore (ls' := [(0, vr 145), (1, vi x1), (2, vi x2), (3, vi x3), (4, vi x4), (5, vi z57)]) dX12_row_151 (by decide) rfl ?_
            refine r_iload dX12_row_153 rfl ?_
            obtain ⟨V1, V2⟩ := V
            refine r_zeq (tgt := 241) dX12_row_155 (by decide) (fun c58 => ?_) (fun c58 => ?_)
            · have V := V1 c58
              obtain ⟨s59, V⟩ := V
              refine r_iinc (y := x3 + 1) (ls' := [(0, vr 145), (1, vi x1), (2, vi x2), (3, vi (x3 + 1)), (4, vi x4), (5, vi z57)]) dX12_row_241 rfl rfl s59 (by decide) rfl ?_
              obtain ⟨s60, V⟩ := V
              refine r_iinc (y := x4 + 7) (ls' := [(0, vr 145), (1, vi x1), (2, vi x2), (3, vi (x3 + 1)), (4, vi (x4 + 7)), (5, vi z57)]) dX12_row_244 rfl rfl s60 (by decide) rfl ?_
              refine r_goto (tgt := 33) dX12_row_247 (by decide) ?_
              refine r_pick [0, 1, 2, 3, 4] (ls' := [(0, vr 145), (1, vi x1), (2, vi x2), (3, vi (x3 + 1)), (4, vi (x4 + 7))]) rfl ?_
              exact V
            · have V := V2 c58
              refine r_aload_n dX12_row_158 rfl rfl ?_
              refine r_aload_n dX12_row_159 rfl rfl ?_
              refine r_getR (b := 150) dX12_row_160 fX12_23 ob_145 (by decide) rfl rfl ?_
              refine r_iload dX12_row_163 rfl ?_
              obtain ⟨s61, V⟩ := V
              obtain ⟨s62, V⟩ := V
              refine r_iald dX12_row_165 ob_150 s61 s62 ?_
              refine r_bipush (x := 10) dX12_row_166 (by decide +kernel) (by decide) ?_
              refine r_aload_n dX12_row_168 rfl rfl ?_
              refine r_getR (b := 150) dX12_row_169 fX12_23 ob_145 (by decide) rfl rfl ?_
              refine r_iload dX12_row_172 rfl ?_
              refine r_iconst (x := 1) dX12_row_174 rfl (by decide) ?_
              obtain ⟨s63, V⟩ := V
              refine r_iadd dX12_row_175 s63 ?_
              obtain ⟨s64, V⟩ := V
              obtain ⟨s65, V⟩ := V
              refine r_iald dX12_row_176 ob_150 s64 s65 ?_
              obtain ⟨s66, V⟩ := V
              refine r_imul dX12_row_177 s66 ?_
              refine r_aload_n dX12_row_178 rfl rfl ?_
              refine r_getR (b := 150) dX12_row_179 fX12_23 ob_145 (by decide) rfl rfl ?_
              refine r_iload dX12_row_182 rfl ?_
              refine r_iconst (x := 2) dX12_row_184 rfl (by decide) ?_
              obtain ⟨s67, V⟩ := V
              refine r_iadd dX12_row_185 s67 ?_
              obtain ⟨s68, V⟩ := V
              obtain ⟨s69, V⟩ := V
              refine r_iald dX12_row_186 ob_150 s68 s69 ?_
              refine r_aload_n dX12_row_187 rfl rfl ?_
              refine r_getR (b := 150) dX12_row_188 fX12_23 ob_145 (by decide) rfl rfl ?_
              refine r_iload dX12_row_191 rfl ?_
              refine r_iconst (x := 3) dX12_row_193 rfl (by decide) ?_
              obtain ⟨s70, V⟩ := V
              refine r_iadd dX12_row_194 s70 ?_
              obtain ⟨s71, V⟩ := V
              obtain ⟨s72, V⟩ := V
              refine r_iald dX12_row_195 ob_150 s71 s72 ?_
              refine r_aload_n dX12_row_196 rfl rfl ?_
              refine r_getR (b := 150) dX12_row_197 fX12_23 ob_145 (by decide) rfl rfl ?_
              refine r_iload dX12_row_200 rfl ?_
              refine r_iconst (x := 4) dX12_row_202 rfl (by decide) ?_
              obtain ⟨s73, V⟩ := V
              refine r_iadd dX12_row_203 s73 ?_
              obtain ⟨s74, V⟩ := V
              obtain ⟨s75, V⟩ := V
              refine r_iald dX12_row_204 ob_150 s74 s75 ?_
              refine r_aload_n dX12_row_205 rfl rfl ?_
              refine r_getR (b := 150) dX12_row_206 fX12_23 ob_145 (by decide) rfl rfl ?_
              refine r_iload dX12_row_209 rfl ?_
              refine r_iconst (x := 5) dX12_row_211 rfl (by decide) ?_
              obtain ⟨s76, V⟩ := V
              refine r_iadd dX12_row_212 s76 ?_
              obtain ⟨s77, V⟩ := V
              obtain ⟨s78, V⟩ := V
              refine r_iald dX12_row_213 ob_150 s77 s78 ?_
              refine r_aload_n dX12_row_214 rfl rfl ?_
              refine r_getR (b := 150) dX12_row_215 fX12_23 ob_145 (by decide) rfl rfl ?_
              refine r_iload dX12_row_218 rfl ?_
              obtain ⟨s79, V⟩ := V
              obtain ⟨s80, V⟩ := V
              refine r_iald dX12_row_220 ob_150 s79 s80 ?_
              refine r_aload_n dX12_row_221 rfl rfl ?_
              refine r_getR (b := 150) dX12_row_222 fX12_23 ob_145 (by decide) rfl rfl ?_
              refine r_iload dX12_row_225 rfl ?_
              refine r_bipush (x := 6) dX12_row_227 (by decide +kernel) (by decide) ?_
              obtain ⟨s81, V⟩ := V
              refine r_iadd dX12_row_229 s81 ?_
              obtain ⟨s82, V⟩ := V
              obtain ⟨s83, V⟩ := V
              refine r_iald dX12_row_230 ob_150 s82 s83 ?_
              obtain ⟨s84, V⟩ := V
              refine r_iadd dX12_row_231 s84 ?_
              refine r_callV (args := [vi (n54 150 x4), vi (10 * (n54 150 (x4 + 1))), vi (n54 150 (x4 + 2)), vi (n54 150 (x4 + 3)), vi (n54 150 (x4 + 4)), vi (n54 150 (x4 + 5)), vi ((n54 150 x4) + (n54 150 (x4 + 6)))]) dX12_row_232 kX12_130 ob_145 ⟨_, _, rfl⟩ (by decide) rfl rfl (Nat.le_of_ble_eq_true rfl) cap0 (Ev.mono V ?_)
              rintro r h' ⟨n85, rfl, rfl, V⟩
              show Rn w mX12_row (d + 1) G Q 235 [(0, vr 145), (1, vi x1), (2, vi x2), (3, vi x3), (4, vi x4), (5, vi z57)] [] (B0, n85)
              obtain ⟨s86, V⟩ := V
              refine r_iinc (y := x2 + 1) (ls' := [(0, vr 145), (1, vi x1), (2, vi (x2 + 1)), (3, vi x3), (4, vi x4), (5, vi z57)]) dX12_row_235 rfl rfl s86 (by decide) rfl ?_
              refine r_goto (tgt := 244) dX12_row_238 (by decide) ?_
              obtain ⟨s87, V⟩ := V
              refine r_iinc (y := x4 + 7) (ls' := [(0, vr 145), (1, vi x1), (2, vi (x2 + 1)), (3, vi x3), (4, vi (x4 + 7)), (5, vi z57)]) dX12_row_244 rfl rfl s87 (by decide) rfl ?_
              refine r_goto (tgt := 33) dX12_row_247 (by decide) ?_
              refine r_pick [0, 1, 2, 3, 4] (ls' := [(0, vr 145), (1, vi x1), (2, vi (x2 + 1)), (3, vi x3), (4, vi (x4 + 7))]) rfl ?_
              exact V
          refine r_zeq (tgt := 150) dX12_row_143 (by decide) (fun c56 => ?_) (fun c56 => ?_)
          · refine r_iconst (x := 0) dX12_row_150 rfl (by decide) ?_
            exact K 0 (by first | rfl | (simp only [if_pos c56]))
          · refine r_iconst (x := 1) dX12_row_146 rfl (by decide) ?_
            refine r_goto (tgt := 151) dX12_row_147 (by decide) ?_
            exact K 1 (by first | rfl | (simp only [if_neg c56]))

theorem gX12_row_150 {w : WD} {d : Nat} {G : GM} {Q : Option AV → Hp → Prop} {n : NM} {x1 x2 x3 x4 : Int}
    (V :
    Rn w mX12_row d G Q 151 [(0, vr 145), (1, vi x1), (2, vi x2), (3, vi x3), (4, vi x4)] [vi 0] (B0, n)) :
    Rn w mX12_row d G Q 150 [(0, vr 145), (1, vi x1), (2, vi x2), (3, vi x3), (4, vi x4)] [] (B0, n) := by
  refine r_iconst (x := 0) dX12_row_150 rfl (by decide) ?_
  exact V

theorem gX12_row_151 {w : WD} {d : Nat} {G : GM} {Q : Option AV → Hp → Prop} {n : NM} {x1 x2 x3 x4 t0 : Int}
    (V :
    ((t0 = 0 →
      (inI (x3 + 1)) ∧
      (inI (x4 + 7)) ∧
      Rn w mX12_row (d + 1) G Q 33 [(0, vr 145), (1, vi x1), (2, vi x2), (3, vi (x3 + 1)), (4, vi (x4 + 7))] [] (B0, n)) ∧
    (t0 ≠ 0 →
      (0 ≤ x4) ∧
      (x4 < 400) ∧
      (inI (x4 + 1)) ∧
      (0 ≤ x4 + 1) ∧
      (x4 + 1 < 400) ∧
      (inI (10 * (n 150 (x4 + 1)))) ∧
      (inI (x4 + 2)) ∧
      (0 ≤ x4 + 2) ∧
      (x4 + 2 < 400) ∧
      (inI (x4 + 3)) ∧
      (0 ≤ x4 + 3) ∧
      (x4 + 3 < 400) ∧
      (inI (x4 + 4)) ∧
      (0 ≤ x4 + 4) ∧
      (x4 + 4 < 400) ∧
      (inI (x4 + 5)) ∧
      (0 ≤ x4 + 5) ∧
      (x4 + 5 < 400) ∧
      (0 ≤ x4) ∧
      (x4 < 400) ∧
      (inI (x4 + 6)) ∧
      (0 ≤ x4 + 6) ∧
      (x4 + 6 < 400) ∧
      (inI ((n 150 x4) + (n 150 (x4 + 6)))) ∧
      (Ev w d 0 0 mX12_put [vr 145, vi (n 150 x4), vi (10 * (n 150 (x4 + 1))), vi (n 150 (x4 + 2)), vi (n 150 (x4 + 3)), vi (n 150 (x4 + 4)), vi (n 150 (x4 + 5)), vi ((n 150 x4) + (n 150 (x4 + 6)))] (B0, n) (fun r h' => ∃ n48 : NM, r = none ∧ h' = (B0, n48) ∧ 
        (inI (x2 + 1)) ∧
        (inI (x4 + 7)) ∧
        Rn w mX12_row (d + 1) G Q 33 [(0, vr 145), (1, vi x1), (2, vi (x2 + 1)), (3, vi x3), (4, vi (x4 + 7))] [] (B0, n48)))))) :
    Rn w mX12_row (d + 1) G Q 151 [(0, vr 145), (1, vi x1), (2, vi x2), (3, vi x3), (4, vi x4)] [vi t0] (B0, n) := by
  refine r_istore (ls' := [(0, vr 145), (1, vi x1), (2, vi x2), (3, vi x3), (4, vi x4), (5, vi t0)]) dX12_row_151 (by decide) rfl ?_
  refine r_iload dX12_row_153 rfl ?_
  obtain ⟨V1, V2⟩ := V
  refine r_zeq (tgt := 241) dX12_row_155 (by decide) (fun c21 => ?_) (fun c21 => ?_)
  · have V := V1 c21
    obtain ⟨s22, V⟩ := V
    refine r_iinc (y := x3 + 1) (ls' := [(0, vr 145), (1, vi x1), (2, vi x2), (3, vi (x3 + 1)), (4, vi x4), (5, vi t0)]) dX12_row_241 rfl rfl s22 (by decide) rfl ?_
    obtain ⟨s23, V⟩ := V
    refine r_iinc (y := x4 + 7) (ls' := [(0, vr 145), (1, vi x1), (2, vi x2), (3, vi (x3 + 1)), (4, vi (x4 + 7)), (5, vi t0)]) dX12_row_244 rfl rfl s23 (by decide) rfl ?_
    refine r_goto (tgt := 33) dX12_row_247 (by decide) ?_
    refine r_pick [0, 1, 2, 3, 4] (ls' := [(0, vr 145), (1, vi x1), (2, vi x2), (3, vi (x3 + 1)), (4, vi (x4 + 7))]) rfl ?_
    exact V
  · have V := V2 c21
    refine r_aload_n dX12_row_158 rfl rfl ?_
    refine r_aload_n dX12_row_159 rfl rfl ?_
    refine r_getR (b := 150) dX12_row_160 fX12_23 ob_145 (by decide) rfl rfl ?_
    refine r_iload dX12_row_163 rfl ?_
    obtain ⟨s24, V⟩ := V
    obtain ⟨s25, V⟩ := V
    refine r_iald dX12_row_165 ob_150 s24 s25 ?_
    refine r_bipush (x := 10) dX12_row_166 (by decide +kernel) (by decide) ?_
    refine r_aload_n dX12_row_168 rfl rfl ?_
    refine r_getR (b := 150) dX12_row_169 fX12_23 ob_145 (by decide) rfl rfl ?_
    refine r_iload dX12_row_172 rfl ?_
    refine r_iconst (x := 1) dX12_row_174 rfl (by decide) ?_
    obtain ⟨s26, V⟩ := V
    refine r_iadd dX12_row_175 s26 ?_
    obtain ⟨s27, V⟩ := V
    obtain ⟨s28, V⟩ := V
    refine r_iald dX12_row_176 ob_150 s27 s28 ?_
    obtain ⟨s29, V⟩ := V
    refine r_imul dX12_row_177 s29 ?_
    refine r_aload_n dX12_row_178 rfl rfl ?_
    refine r_getR (b := 150) dX12_row_179 fX12_23 ob_145 (by decide) rfl rfl ?_
    refine r_iload dX12_row_182 rfl ?_
    refine r_iconst (x := 2) dX12_row_184 rfl (by decide) ?_
    obtain ⟨s30, V⟩ := V
    refine r_iadd dX12_row_185 s30 ?_
    obtain ⟨s31, V⟩ := V
    obtain ⟨s32, V⟩ := V
    refine r_iald dX12_row_186 ob_150 s31 s32 ?_
    refine r_aload_n dX12_row_187 rfl rfl ?_
    refine r_getR (b := 150) dX12_row_188 fX12_23 ob_145 (by decide) rfl rfl ?_
    refine r_iload dX12_row_191 rfl ?_
    refine r_iconst (x := 3) dX12_row_193 rfl (by decide) ?_
    obtain ⟨s33, V⟩ := V
    refine r_iadd dX12_row_194 s33 ?_
    obtain ⟨s34, V⟩ := V
    obtain ⟨s35, V⟩ := V
    refine r_iald dX12_row_195 ob_150 s34 s35 ?_
    refine r_aload_n dX12_row_196 rfl rfl ?_
    refine r_getR (b := 150) dX12_row_197 fX12_23 ob_145 (by decide) rfl rfl ?_
    refine r_iload dX12_row_200 rfl ?_
    refine r_iconst (x := 4) dX12_row_202 rfl (by decide) ?_
    obtain ⟨s36, V⟩ := V
    refine r_iadd dX12_row_203 s36 ?_
    obtain ⟨s37, V⟩ := V
    obtain ⟨s38, V⟩ := V
    refine r_iald dX12_row_204 ob_150 s37 s38 ?_
    refine r_aload_n dX12_row_205 rfl rfl ?_
    refine r_getR (b := 150) dX12_row_206 fX12_23 ob_145 (by decide) rfl rfl ?_
    refine r_iload dX12_row_209 rfl ?_
    refine r_iconst (x := 5) dX12_row_211 rfl (by decide) ?_
    obtain ⟨s39, V⟩ := V
    refine r_iadd dX12_row_212 s39 ?_
    obtain ⟨s40, V⟩ := V
    obtain ⟨s41, V⟩ := V
    refine r_iald dX12_row_213 ob_150 s40 s41 ?_
    refine r_aload_n dX12_row_214 rfl rfl ?_
    refine r_getR (b := 150) dX12_row_215 fX12_23 ob_145 (by decide) rfl rfl ?_
    refine r_iload dX12_row_218 rfl ?_
    obtain ⟨s42, V⟩ := V
    obtain ⟨s43, V⟩ := V
    refine r_iald dX12_row_220 ob_150 s42 s43 ?_
    refine r_aload_n dX12_row_221 rfl rfl ?_
    refine r_getR (b := 150) dX12_row_222 fX12_23 ob_145 (by decide) rfl rfl ?_
    refine r_iload dX12_row_225 rfl ?_
    refine r_bipush (x := 6) dX12_row_227 (by decide +kernel) (by decide) ?_
    obtain ⟨s44, V⟩ := V
    refine r_iadd dX12_row_229 s44 ?_
    obtain ⟨s45, V⟩ := V
    obtain ⟨s46, V⟩ := V
    refine r_iald dX12_row_230 ob_150 s45 s46 ?_
    obtain ⟨s47, V⟩ := V
    refine r_iadd dX12_row_231 s47 ?_
    refine r_callV (args := [vi (n 150 x4), vi (10 * (n 150 (x4 + 1))), vi (n 150 (x4 + 2)), vi (n 150 (x4 + 3)), vi (n 150 (x4 + 4)), vi (n 150 (x4 + 5)), vi ((n 150 x4) + (n 150 (x4 + 6)))]) dX12_row_232 kX12_130 ob_145 ⟨_, _, rfl⟩ (by decide) rfl rfl (Nat.le_of_ble_eq_true rfl) cap0 (Ev.mono V ?_)
    rintro r h' ⟨n48, rfl, rfl, V⟩
    show Rn w mX12_row (d + 1) G Q 235 [(0, vr 145), (1, vi x1), (2, vi x2), (3, vi x3), (4, vi x4), (5, vi t0)] [] (B0, n48)
    obtain ⟨s49, V⟩ := V
    refine r_iinc (y := x2 + 1) (ls' := [(0, vr 145), (1, vi x1), (2, vi (x2 + 1)), (3, vi x3), (4, vi x4), (5, vi t0)]) dX12_row_235 rfl rfl s49 (by decide) rfl ?_
    refine r_goto (tgt := 244) dX12_row_238 (by decide) ?_
    obtain ⟨s50, V⟩ := V
    refine r_iinc (y := x4 + 7) (ls' := [(0, vr 145), (1, vi x1), (2, vi (x2 + 1)), (3, vi x3), (4, vi (x4 + 7)), (5, vi t0)]) dX12_row_244 rfl rfl s50 (by decide) rfl ?_
    refine r_goto (tgt := 33) dX12_row_247 (by decide) ?_
    refine r_pick [0, 1, 2, 3, 4] (ls' := [(0, vr 145), (1, vi x1), (2, vi (x2 + 1)), (3, vi x3), (4, vi (x4 + 7))]) rfl ?_
    exact V

theorem gX12_cousins_0 {w : WD} {d : Nat} {G : GM} {Q : Option AV → Hp → Prop} {n : NM}
    (V :
    Q (some (vi (n 145 6))) (B0, upn n 145 0 0)) :
    Rn w mX12_cousins d G Q 0 [(0, vr 145)] [] (B0, n) := by
  refine r_aload_n dX12_cousins_0 rfl rfl ?_
  refine r_iconst (x := 0) dX12_cousins_1 rfl (by decide) ?_
  refine r_putI (fi := 0) (h' := (B0, upn n 145 0 0)) dX12_cousins_2 pX12_76 ob_145 (by decide) rfl rfl rfl ?_
  refine r_aload_n dX12_cousins_5 rfl rfl ?_
  refine r_getI (fi := 6) dX12_cousins_6 fX12_137 ob_145 (by decide) (by decide) rfl ?_
  show Rn w mX12_cousins d G Q 9 [(0, vr 145)] [vi (n 145 6)] (B0, upn n 145 0 0)
  exact r_iret dX12_cousins_9 rfl V

theorem gX12_four_0 {w : WD} {d : Nat} {G : GM} {Q : Option AV → Hp → Prop} {n : NM} {x1 : Int}
    (V :
    Rn w mX12_four d G Q 3 [(0, vr 145), (1, vi x1), (2, vi 24)] [] (B0, n)) :
    Rn w mX12_four d G Q 0 [(0, vr 145), (1, vi x1)] [] (B0, n) := by
  refine r_bipush (x := 24) dX12_four_0 (by decide +kernel) (by decide) ?_
  refine r_istore_n (ls' := [(0, vr 145), (1, vi x1), (2, vi 24)]) dX12_four_2 rfl (by decide) rfl ?_
  exact V

theorem gX12_four_3 {w : WD} {d : Nat} {G : GM} {Q : Option AV → Hp → Prop} {n : NM} {x1 x2 : Int}
    (V :
    ((x2 < 0 →
      Q none (B0, n)) ∧
    (0 ≤ x2 →
      (∃ k22 : Nat, x2 = (k22 : Int) ∧ k22 < 32 ∧
      (0 ≤ n 145 8) ∧
      (n 145 8 < 400) ∧
      (inI ((n 145 8) + 1)) ∧
      (inI (x2 + (-8))) ∧
      Rn w mX12_four d G Q 3 [(0, vr 145), (1, vi x1), (2, vi (x2 + (-8)))] [] (B0, upn (upn n 150 (n 145 8) ((x1 / ((2 ^ k22 : Nat) : Int)) % 256)) 145 8 ((n 145 8) + 1)))))) :
    Rn w mX12_four d G Q 3 [(0, vr 145), (1, vi x1), (2, vi x2)] [] (B0, n) := by
  refine r_iload_n dX12_four_3 rfl rfl ?_
  obtain ⟨V1, V2⟩ := V
  refine r_zlt (tgt := 39) dX12_four_4 (by decide) (fun c21 => ?_) (fun c21 => ?_)
  · have V := V1 c21
    exact r_ret dX12_four_39 rfl V
  · have V := V2 c21
    refine r_aload_n dX12_four_7 rfl rfl ?_
    refine r_getR (b := 150) dX12_four_8 fX12_23 ob_145 (by decide) rfl rfl ?_
    refine r_aload_n dX12_four_11 rfl rfl ?_
    refine r_getI (fi := 8) dX12_four_12 fX12_134 ob_145 (by decide) (by decide) rfl ?_
    refine r_iload_n dX12_four_15 rfl rfl ?_
    refine r_iload_n dX12_four_16 rfl rfl ?_
    obtain ⟨k22, hk22, lk22, V⟩ := V
    refine r_ishr (n := k22) dX12_four_17 hk22 lk22 (fun _ => ?_)
    refine r_sipush (x := 255) dX12_four_18 (by decide +kernel) (by decide) ?_
    refine r_iand (n := 8) dX12_four_21 (by decide) (by decide) ?_
    show Rn w mX12_four d G Q 22 [(0, vr 145), (1, vi x1), (2, vi x2)] [vi ((x1 / ((2 ^ k22 : Nat) : Int)) % 256), vi (n 145 8), vr 150] (B0, n)
    obtain ⟨s23, V⟩ := V
    obtain ⟨s24, V⟩ := V
    refine r_iast (h' := (B0, upn n 150 (n 145 8) ((x1 / ((2 ^ k22 : Nat) : Int)) % 256))) dX12_four_22 ob_150 s23 s24 rfl ?_
    refine r_aload_n dX12_four_23 rfl rfl ?_
    refine r_dup dX12_four_24 rfl ?_
    refine r_getI (fi := 8) dX12_four_25 fX12_134 ob_145 (by decide) (by decide) rfl ?_
    show Rn w mX12_four d G Q 28 [(0, vr 145), (1, vi x1), (2, vi x2)] [vi (n 145 8), vr 145] (B0, upn n 150 (n 145 8) ((x1 / ((2 ^ k22 : Nat) : Int)) % 256))
    refine r_iconst (x := 1) dX12_four_28 rfl (by decide) ?_
    obtain ⟨s25, V⟩ := V
    refine r_iadd dX12_four_29 s25 ?_
    refine r_putI (fi := 8) (h' := (B0, upn (upn n 150 (n 145 8) ((x1 / ((2 ^ k22 : Nat) : Int)) % 256)) 145 8 ((n 145 8) + 1))) dX12_four_30 pX12_134 ob_145 (by decide) rfl rfl rfl ?_
    obtain ⟨s26, V⟩ := V
    refine r_iinc (y := x2 + (-8)) (ls' := [(0, vr 145), (1, vi x1), (2, vi (x2 + (-8)))]) dX12_four_33 rfl rfl s26 (by decide) rfl ?_
    refine r_goto (tgt := 3) dX12_four_36 (by decide) ?_
    exact V

theorem gX12_feed_0 {w : WD} {d : Nat} {G : GM} {Q : Option AV → Hp → Prop} {n : NM} {x1 x2 x3 x4 x5 : Int}
    (V :
    (inI ((n 145 8) + 20)) ∧
    (((n 145 8) + 20 ≤ 400 →
      (Ev w d 0 0 mX12_four [vr 145, vi x1] (B0, upn n 145 0 0) (fun r h' => ∃ n23 : NM, r = none ∧ h' = (B0, n23) ∧ 
        (Ev w d 0 0 mX12_four [vr 145, vi x2] (B0, n23) (fun r h' => ∃ n24 : NM, r = none ∧ h' = (B0, n24) ∧ 
          (Ev w d 0 0 mX12_four [vr 145, vi x3] (B0, n24) (fun r h' => ∃ n25 : NM, r = none ∧ h' = (B0, n25) ∧ 
            (Ev w d 0 0 mX12_four [vr 145, vi x4] (B0, n25) (fun r h' => ∃ n26 : NM, r = none ∧ h' = (B0, n26) ∧ 
              (Ev w d 0 0 mX12_four [vr 145, vi x5] (B0, n26) (fun r h' => ∃ n27 : NM, r = none ∧ h' = (B0, n27) ∧ 
                Q (some (vi (n27 145 8))) (B0, n27)))))))))))) ∧
    (400 < (n 145 8) + 20 →
      Q (some (vi (-1))) (B0, upn n 145 0 0)))) :
    Rn w mX12_feed (d + 1) G Q 0 [(0, vr 145), (1, vi x1), (2, vi x2), (3, vi x3), (4, vi x4), (5, vi x5)] [] (B0, n) := by
  refine r_aload_n dX12_feed_0 rfl rfl ?_
  refine r_iconst (x := 0) dX12_feed_1 rfl (by decide) ?_
  refine r_putI (fi := 0) (h' := (B0, upn n 145 0 0)) dX12_feed_2 pX12_76 ob_145 (by decide) rfl rfl rfl ?_
  refine r_aload_n dX12_feed_5 rfl rfl ?_
  refine r_getI (fi := 8) dX12_feed_6 fX12_134 ob_145 (by decide) (by decide) rfl ?_
  show Rn w mX12_feed (d + 1) G Q 9 [(0, vr 145), (1, vi x1), (2, vi x2), (3, vi x3), (4, vi x4), (5, vi x5)] [vi (n 145 8)] (B0, upn n 145 0 0)
  refine r_bipush (x := 20) dX12_feed_9 (by decide +kernel) (by decide) ?_
  obtain ⟨s21, V⟩ := V
  refine r_iadd dX12_feed_11 s21 ?_
  refine r_sipush (x := 400) dX12_feed_12 (by decide +kernel) (by decide) ?_
  obtain ⟨V1, V2⟩ := V
  refine r_jle (tgt := 20) dX12_feed_15 (by decide) (fun c22 => ?_) (fun c22 => ?_)
  · have V := V1 c22
    refine r_aload_n dX12_feed_20 rfl rfl ?_
    refine r_iload_n dX12_feed_21 rfl rfl ?_
    refine r_callV (args := [vi x1]) dX12_feed_22 kX12_140 ob_145 ⟨_, _, rfl⟩ (by decide) rfl rfl (Nat.le_of_ble_eq_true rfl) cap0 (Ev.mono V ?_)
    rintro r h' ⟨n23, rfl, rfl, V⟩
    show Rn w mX12_feed (d + 1) G Q 25 [(0, vr 145), (1, vi x1), (2, vi x2), (3, vi x3), (4, vi x4), (5, vi x5)] [] (B0, n23)
    refine r_aload_n dX12_feed_25 rfl rfl ?_
    refine r_iload_n dX12_feed_26 rfl rfl ?_
    refine r_callV (args := [vi x2]) dX12_feed_27 kX12_140 ob_145 ⟨_, _, rfl⟩ (by decide) rfl rfl (Nat.le_of_ble_eq_true rfl) cap0 (Ev.mono V ?_)
    rintro r h' ⟨n24, rfl, rfl, V⟩
    show Rn w mX12_feed (d + 1) G Q 30 [(0, vr 145), (1, vi x1), (2, vi x2), (3, vi x3), (4, vi x4), (5, vi x5)] [] (B0, n24)
    refine r_aload_n dX12_feed_30 rfl rfl ?_
    refine r_iload_n dX12_feed_31 rfl rfl ?_
    refine r_callV (args := [vi x3]) dX12_feed_32 kX12_140 ob_145 ⟨_, _, rfl⟩ (by decide) rfl rfl (Nat.le_of_ble_eq_true rfl) cap0 (Ev.mono V ?_)
    rintro r h' ⟨n25, rfl, rfl, V⟩
    show Rn w mX12_feed (d + 1) G Q 35 [(0, vr 145), (1, vi x1), (2, vi x2), (3, vi x3), (4, vi x4), (5, vi x5)] [] (B0, n25)
    refine r_aload_n dX12_feed_35 rfl rfl ?_
    refine r_iload dX12_feed_36 rfl ?_
    refine r_callV (args := [vi x4]) dX12_feed_38 kX12_140 ob_145 ⟨_, _, rfl⟩ (by decide) rfl rfl (Nat.le_of_ble_eq_true rfl) cap0 (Ev.mono V ?_)
    rintro r h' ⟨n26, rfl, rfl, V⟩
    show Rn w mX12_feed (d + 1) G Q 41 [(0, vr 145), (1, vi x1), (2, vi x2), (3, vi x3), (4, vi x4), (5, vi x5)] [] (B0, n26)
    refine r_aload_n dX12_feed_41 rfl rfl ?_
    refine r_iload dX12_feed_42 rfl ?_
    refine r_callV (args := [vi x5]) dX12_feed_44 kX12_140 ob_145 ⟨_, _, rfl⟩ (by decide) rfl rfl (Nat.le_of_ble_eq_true rfl) cap0 (Ev.mono V ?_)
    rintro r h' ⟨n27, rfl, rfl, V⟩
    show Rn w mX12_feed (d + 1) G Q 47 [(0, vr 145), (1, vi x1), (2, vi x2), (3, vi x3), (4, vi x4), (5, vi x5)] [] (B0, n27)
    refine r_aload_n dX12_feed_47 rfl rfl ?_
    refine r_getI (fi := 8) dX12_feed_48 fX12_134 ob_145 (by decide) (by decide) rfl ?_
    exact r_iret dX12_feed_51 rfl V
  · have V := V2 c22
    refine r_iconst (x := -1) dX12_feed_18 rfl (by decide) ?_
    exact r_iret dX12_feed_19 rfl V

theorem gX12_end_0 {w : WD} {d : Nat} {G : GM} {Q : Option AV → Hp → Prop} {n : NM} {x1 : Int}
    (V :
    ((x1 < 0 →
      Q (some (vi (-1))) (B0, upn n 145 0 0)) ∧
    (0 ≤ x1 →
      ((x1 ≤ n 145 8 →
        Q (some (vi x1)) (B0, upn (upn n 145 0 0) 145 8 x1)) ∧
      (n 145 8 < x1 →
        Q (some (vi (-1))) (B0, upn n 145 0 0)))))) :
    Rn w mX12_end d G Q 0 [(0, vr 145), (1, vi x1)] [] (B0, n) := by
  refine r_aload_n dX12_end_0 rfl rfl ?_
  refine r_iconst (x := 0) dX12_end_1 rfl (by decide) ?_
  refine r_putI (fi := 0) (h' := (B0, upn n 145 0 0)) dX12_end_2 pX12_76 ob_145 (by decide) rfl rfl rfl ?_
  refine r_iload_n dX12_end_5 rfl rfl ?_
  obtain ⟨V1, V2⟩ := V
  refine r_zlt (tgt := 17) dX12_end_6 (by decide) (fun c21 => ?_) (fun c21 => ?_)
  · have V := V1 c21
    refine r_iconst (x := -1) dX12_end_17 rfl (by decide) ?_
    exact r_iret dX12_end_18 rfl V
  · have V := V2 c21
    refine r_iload_n dX12_end_9 rfl rfl ?_
    refine r_aload_n dX12_end_10 rfl rfl ?_
    refine r_getI (fi := 8) dX12_end_11 fX12_134 ob_145 (by decide) (by decide) rfl ?_
    show Rn w mX12_end d G Q 14 [(0, vr 145), (1, vi x1)] [vi (n 145 8), vi x1] (B0, upn n 145 0 0)
    obtain ⟨V1, V2⟩ := V
    refine r_jle (tgt := 19) dX12_end_14 (by decide) (fun c22 => ?_) (fun c22 => ?_)
    · have V := V1 c22
      refine r_aload_n dX12_end_19 rfl rfl ?_
      refine r_iload_n dX12_end_20 rfl rfl ?_
      refine r_putI (fi := 8) (h' := (B0, upn (upn n 145 0 0) 145 8 x1)) dX12_end_21 pX12_134 ob_145 (by decide) rfl rfl rfl ?_
      refine r_iload_n dX12_end_24 rfl rfl ?_
      exact r_iret dX12_end_25 rfl V
    · have V := V2 c22
      refine r_iconst (x := -1) dX12_end_17 rfl (by decide) ?_
      exact r_iret dX12_end_18 rfl V

theorem gX12_isSmall_0 {w : WD} {d : Nat} {G : GM} {Q : Option AV → Hp → Prop} {n : NM} {x0 : Int}
    (V :
    ((x0 < 97 →
      Q (some (vi 0)) (B0, n)) ∧
    (97 ≤ x0 →
      ((122 < x0 →
        Q (some (vi 0)) (B0, n)) ∧
      (x0 ≤ 122 →
        Q (some (vi 1)) (B0, n)))))) :
    Rn w mX12_isSmall d G Q 0 [(0, vi x0)] [] (B0, n) := by
  refine r_iload_n dX12_isSmall_0 rfl rfl ?_
  refine r_bipush (x := 97) dX12_isSmall_1 (by decide +kernel) (by decide) ?_
  obtain ⟨V1, V2⟩ := V
  refine r_jlt (tgt := 16) dX12_isSmall_3 (by decide) (fun c21 => ?_) (fun c21 => ?_)
  · have V := V1 c21
    refine r_iconst (x := 0) dX12_isSmall_16 rfl (by decide) ?_
    exact r_zret dX12_isSmall_17 rfl (by decide) V
  · have V := V2 c21
    refine r_iload_n dX12_isSmall_6 rfl rfl ?_
    refine r_bipush (x := 122) dX12_isSmall_7 (by decide +kernel) (by decide) ?_
    obtain ⟨V1, V2⟩ := V
    refine r_jgt (tgt := 16) dX12_isSmall_9 (by decide) (fun c22 => ?_) (fun c22 => ?_)
    · have V := V1 c22
      refine r_iconst (x := 0) dX12_isSmall_16 rfl (by decide) ?_
      exact r_zret dX12_isSmall_17 rfl (by decide) V
    · have V := V2 c22
      refine r_iconst (x := 1) dX12_isSmall_12 rfl (by decide) ?_
      refine r_goto (tgt := 17) dX12_isSmall_13 (by decide) ?_
      exact r_zret dX12_isSmall_17 rfl (by decide) V

theorem gX12_isDigit_0 {w : WD} {d : Nat} {G : GM} {Q : Option AV → Hp → Prop} {n : NM} {x0 : Int}
    (V :
    ((x0 < 48 →
      Q (some (vi 0)) (B0, n)) ∧
    (48 ≤ x0 →
      ((57 < x0 →
        Q (some (vi 0)) (B0, n)) ∧
      (x0 ≤ 57 →
        Q (some (vi 1)) (B0, n)))))) :
    Rn w mX12_isDigit d G Q 0 [(0, vi x0)] [] (B0, n) := by
  refine r_iload_n dX12_isDigit_0 rfl rfl ?_
  refine r_bipush (x := 48) dX12_isDigit_1 (by decide +kernel) (by decide) ?_
  obtain ⟨V1, V2⟩ := V
  refine r_jlt (tgt := 16) dX12_isDigit_3 (by decide) (fun c21 => ?_) (fun c21 => ?_)
  · have V := V1 c21
    refine r_iconst (x := 0) dX12_isDigit_16 rfl (by decide) ?_
    exact r_zret dX12_isDigit_17 rfl (by decide) V
  · have V := V2 c21
    refine r_iload_n dX12_isDigit_6 rfl rfl ?_
    refine r_bipush (x := 57) dX12_isDigit_7 (by decide +kernel) (by decide) ?_
    obtain ⟨V1, V2⟩ := V
    refine r_jgt (tgt := 16) dX12_isDigit_9 (by decide) (fun c22 => ?_) (fun c22 => ?_)
    · have V := V1 c22
      refine r_iconst (x := 0) dX12_isDigit_16 rfl (by decide) ?_
      exact r_zret dX12_isDigit_17 rfl (by decide) V
    · have V := V2 c22
      refine r_iconst (x := 1) dX12_isDigit_12 rfl (by decide) ?_
      refine r_goto (tgt := 17) dX12_isDigit_13 (by decide) ?_
      exact r_zret dX12_isDigit_17 rfl (by decide) V

theorem gX12_begin_0 {w : WD} {d : Nat} {G : GM} {Q : Option AV → Hp → Prop} {n : NM}
    (V :
    (Ev w d 0 0 mX12_next [vr 145] (B0, upn (upn (upn n 145 10 0) 145 14 0) 145 13 (-1)) (fun r h' => ∃ n21 : NM, r = none ∧ h' = (B0, n21) ∧ 
      Q none (B0, n21)))) :
    Rn w mX12_begin (d + 1) G Q 0 [(0, vr 145)] [] (B0, n) := by
  refine r_aload_n dX12_begin_0 rfl rfl ?_
  refine r_iconst (x := 0) dX12_begin_1 rfl (by decide) ?_
  refine r_putI (fi := 10) (h' := (B0, upn n 145 10 0)) dX12_begin_2 pX12_144 ob_145 (by decide) rfl rfl rfl ?_
  refine r_aload_n dX12_begin_5 rfl rfl ?_
  refine r_iconst (x := 0) dX12_begin_6 rfl (by decide) ?_
  refine r_putZ (fi := 14) (h' := (B0, upn (upn n 145 10 0) 145 14 0)) dX12_begin_7 pX12_147 ob_145 (by decide) rfl rfl (by decide) rfl ?_
  refine r_aload_n dX12_begin_10 rfl rfl ?_
  refine r_iconst (x := -1) dX12_begin_11 rfl (by decide) ?_
  refine r_putI (fi := 13) (h' := (B0, upn (upn (upn n 145 10 0) 145 14 0) 145 13 (-1))) dX12_begin_12 pX12_26 ob_145 (by decide) rfl rfl rfl ?_
  refine r_aload_n dX12_begin_15 rfl rfl ?_
  refine r_callV (args := []) dX12_begin_16 kX12_151 ob_145 ⟨_, _, rfl⟩ (by decide) rfl rfl (Nat.le_of_ble_eq_true rfl) cap0 (Ev.mono V ?_)
  rintro r h' ⟨n21, rfl, rfl, V⟩
  show Rn w mX12_begin (d + 1) G Q 19 [(0, vr 145)] [] (B0, n21)
  exact r_ret dX12_begin_19 rfl V

theorem gX12_next_0 {w : WD} {d : Nat} {G : GM} {Q : Option AV → Hp → Prop} {n : NM}
    (V :
    Rn w mX12_next d G Q 8 [(0, vr 145)] [] (B0, upn n 145 9 (n 145 10))) :
    Rn w mX12_next d G Q 0 [(0, vr 145)] [] (B0, n) := by
  refine r_aload_n dX12_next_0 rfl rfl ?_
  refine r_aload_n dX12_next_1 rfl rfl ?_
  refine r_getI (fi := 10) dX12_next_2 fX12_144 ob_145 (by decide) (by decide) rfl ?_
  refine r_putI (fi := 9) (h' := (B0, upn n 145 9 (n 145 10))) dX12_next_5 pX12_154 ob_145 (by decide) rfl rfl rfl ?_
  exact V

theorem gX12_next_8 {w : WD} {d : Nat} {G : GM} {Q : Option AV → Hp → Prop} {n : NM}
    (V :
    ((n 145 8 ≤ n 145 9 →
      Rn w mX12_next d G Q 46 [(0, vr 145)] [] (B0, n)) ∧
    (n 145 9 < n 145 8 →
      (0 ≤ n 145 9) ∧
      (n 145 9 < 400) ∧
      ((n 150 (n 145 9) ≠ 32 →
        Rn w mX12_next d G Q 46 [(0, vr 145)] [] (B0, n)) ∧
      (n 150 (n 145 9) = 32 →
        (inI ((n 145 9) + 1)) ∧
        Rn w mX12_next d G Q 8 [(0, vr 145)] [] (B0, upn n 145 9 ((n 145 9) + 1))))))) :
    Rn w mX12_next d G Q 8 [(0, vr 145)] [] (B0, n) := by
  refine r_aload_n dX12_next_8 rfl rfl ?_
  refine r_getI (fi := 9) dX12_next_9 fX12_154 ob_145 (by decide) (by decide) rfl ?_
  refine r_aload_n dX12_next_12 rfl rfl ?_
  refine r_getI (fi := 8) dX12_next_13 fX12_134 ob_145 (by decide) (by decide) rfl ?_
  obtain ⟨V1, V2⟩ := V
  refine r_jge (tgt := 46) dX12_next_16 (by decide) (fun c21 => ?_) (fun c21 => ?_)
  · have V := V1 c21
    exact V
  · have V := V2 c21
    refine r_aload_n dX12_next_19 rfl rfl ?_
    refine r_getR (b := 150) dX12_next_20 fX12_23 ob_145 (by decide) rfl rfl ?_
    refine r_aload_n dX12_next_23 rfl rfl ?_
    refine r_getI (fi := 9) dX12_next_24 fX12_154 ob_145 (by decide) (by decide) rfl ?_
    obtain ⟨s22, V⟩ := V
    obtain ⟨s23, V⟩ := V
    refine r_iald dX12_next_27 ob_150 s22 s23 ?_
    refine r_bipush (x := 32) dX12_next_28 (by decide +kernel) (by decide) ?_
    obtain ⟨V1, V2⟩ := V
    refine r_jne (tgt := 46) dX12_next_30 (by decide) (fun c24 => ?_) (fun c24 => ?_)
    · have V := V1 c24
      exact V
    · have V := V2 c24
      refine r_aload_n dX12_next_33 rfl rfl ?_
      refine r_dup dX12_next_34 rfl ?_
      refine r_getI (fi := 9) dX12_next_35 fX12_154 ob_145 (by decide) (by decide) rfl ?_
      refine r_iconst (x := 1) dX12_next_38 rfl (by decide) ?_
      obtain ⟨s25, V⟩ := V
      refine r_iadd dX12_next_39 s25 ?_
      refine r_putI (fi := 9) (h' := (B0, upn n 145 9 ((n 145 9) + 1))) dX12_next_40 pX12_154 ob_145 (by decide) rfl rfl rfl ?_
      refine r_goto (tgt := 8) dX12_next_43 (by decide) ?_
      exact V

theorem gX12_next_46 {w : WD} {d : Nat} {G : GM} {Q : Option AV → Hp → Prop} {n : NM}
    (V :
    ((n 145 9 ≠ n 145 8 →
      (0 ≤ n 145 9) ∧
      (n 145 9 < 400) ∧
      (Ev w d 0 0 mX12_isSmall [vi (n 150 (n 145 9))] (B0, upn (upn n 145 10 (n 145 9)) 145 12 0) (fun r h' => ∃ (x25 : Int) (n24 : NM), r = some (vi x25) ∧ h' = (B0, n24) ∧ 
        ((x25 = 0 →
          (0 ≤ n24 145 9) ∧
          (n24 145 9 < 400) ∧
          (Ev w d 0 0 mX12_isDigit [vi (n24 150 (n24 145 9))] (B0, n24) (fun r h' => ∃ (x30 : Int) (n29 : NM), r = some (vi x30) ∧ h' = (B0, n29) ∧ 
            (∀ z32 : Int, z32 = (if x30 = 0 then 3 else 2) → 
            ((z32 ≠ 3 →
              Rn w mX12_next (d + 1) G Q 149 [(0, vr 145)] [] (B0, upn n29 145 11 z32)) ∧
            (z32 = 3 →
              (0 ≤ n29 145 9) ∧
              (n29 145 9 < 400) ∧
              (inI ((n29 145 10) + 1)) ∧
              Rn w mX12_next (d + 1) G Q 149 [(0, vr 145)] [] (B0, upn (upn (upn n29 145 11 z32) 145 12 (n29 150 (n29 145 9))) 145 10 ((n29 145 10) + 1)))))))) ∧
        (x25 ≠ 0 →
          Rn w mX12_next (d + 1) G Q 114 [(0, vr 145)] [vi 1, vr 145] (B0, n24)))))) ∧
    (n 145 9 = n 145 8 →
      Rn w mX12_next (d + 1) G Q 114 [(0, vr 145)] [vi 0, vr 145] (B0, upn (upn n 145 10 (n 145 9)) 145 12 0)))) :
    Rn w mX12_next (d + 1) G Q 46 [(0, vr 145)] [] (B0, n) := by
  refine r_aload_n dX12_next_46 rfl rfl ?_
  refine r_aload_n dX12_next_47 rfl rfl ?_
  refine r_getI (fi := 9) dX12_next_48 fX12_154 ob_145 (by decide) (by decide) rfl ?_
  refine r_putI (fi := 10) (h' := (B0, upn n 145 10 (n 145 9))) dX12_next_51 pX12_144 ob_145 (by decide) rfl rfl rfl ?_
  refine r_aload_n dX12_next_54 rfl rfl ?_
  refine r_lconst (x := 0) dX12_next_55 rfl (by decide) ?_
  refine r_putL (fi := 12) (h' := (B0, upn (upn n 145 10 (n 145 9)) 145 12 0)) dX12_next_56 pX12_157 ob_145 (by decide) rfl rfl rfl ?_
  refine r_aload_n dX12_next_59 rfl rfl ?_
  refine r_aload_n dX12_next_60 rfl rfl ?_
  refine r_getI (fi := 9) dX12_next_61 fX12_154 ob_145 (by decide) (by decide) rfl ?_
  show Rn w mX12_next (d + 1) G Q 64 [(0, vr 145)] [vi (n 145 9), vr 145] (B0, upn (upn n 145 10 (n 145 9)) 145 12 0)
  refine r_aload_n dX12_next_64 rfl rfl ?_
  refine r_getI (fi := 8) dX12_next_65 fX12_134 ob_145 (by decide) (by decide) rfl ?_
  show Rn w mX12_next (d + 1) G Q 68 [(0, vr 145)] [vi (n 145 8), vi (n 145 9), vr 145] (B0, upn (upn n 145 10 (n 145 9)) 145 12 0)
  obtain ⟨V1, V2⟩ := V
  refine r_jne (tgt := 75) dX12_next_68 (by decide) (fun c21 => ?_) (fun c21 => ?_)
  · have V := V1 c21
    refine r_aload_n dX12_next_75 rfl rfl ?_
    refine r_getR (b := 150) dX12_next_76 fX12_23 ob_145 (by decide) rfl rfl ?_
    refine r_aload_n dX12_next_79 rfl rfl ?_
    refine r_getI (fi := 9) dX12_next_80 fX12_154 ob_145 (by decide) (by decide) rfl ?_
    show Rn w mX12_next (d + 1) G Q 83 [(0, vr 145)] [vi (n 145 9), vr 150, vr 145] (B0, upn (upn n 145 10 (n 145 9)) 145 12 0)
    obtain ⟨s22, V⟩ := V
    obtain ⟨s23, V⟩ := V
    refine r_iald dX12_next_83 ob_150 s22 s23 ?_
    show Rn w mX12_next (d + 1) G Q 84 [(0, vr 145)] [vi (n 150 (n 145 9)), vr 145] (B0, upn (upn n 145 10 (n 145 9)) 145 12 0)
    refine r_callS (args := [vi (n 150 (n 145 9))]) dX12_next_84 kX12_161 rfl rfl (Nat.le_of_ble_eq_true rfl) cap0 (Ev.mono V ?_)
    rintro r h' ⟨x25, n24, rfl, rfl, V⟩
    show Rn w mX12_next (d + 1) G Q 87 [(0, vr 145)] [vi x25, vr 145] (B0, n24)
    obtain ⟨V1, V2⟩ := V
    refine r_zeq (tgt := 94) dX12_next_87 (by decide) (fun c26 => ?_) (fun c26 => ?_)
    · have V := V1 c26
      refine r_aload_n dX12_next_94 rfl rfl ?_
      refine r_getR (b := 150) dX12_next_95 fX12_23 ob_145 (by decide) rfl rfl ?_
      refine r_aload_n dX12_next_98 rfl rfl ?_
      refine r_getI (fi := 9) dX12_next_99 fX12_154 ob_145 (by decide) (by decide) rfl ?_
      obtain ⟨s27, V⟩ := V
      obtain ⟨s28, V⟩ := V
      refine r_iald dX12_next_102 ob_150 s27 s28 ?_
      refine r_callS (args := [vi (n24 150 (n24 145 9))]) dX12_next_103 kX12_164 rfl rfl (Nat.le_of_ble_eq_true rfl) cap0 (Ev.mono V ?_)
      rintro r h' ⟨x30, n29, rfl, rfl, V⟩
      show Rn w mX12_next (d + 1) G Q 106 [(0, vr 145)] [vi x30, vr 145] (B0, n29)
      have K : ∀ z32 : Int, z32 = (if x30 = 0 then 3 else 2) → Rn w mX12_next (d + 1) G Q 114 [(0, vr 145)] [vi z32, vr 145] (B0, n29) := by
        intro z32 ez32
        have V := V z32 ez32
        refine r_putI (fi := 11) (h' := (B0, upn n29 145 11 z32)) dX12_next_114 pX12_167 ob_145 (by decide) rfl rfl rfl ?_
        refine r_aload_n dX12_next_117 rfl rfl ?_
        refine r_getI (fi := 11) dX12_next_118 fX12_167 ob_145 (by decide) (by decide) rfl ?_
        show Rn w mX12_next (d + 1) G Q 121 [(0, vr 145)] [vi z32] (B0, upn n29 145 11 z32)
        refine r_iconst (x := 3) dX12_next_121 rfl (by decide) ?_
        obtain ⟨V1, V2⟩ := V
        refine r_jne (tgt := 149) dX12_next_122 (by decide) (fun c33 => ?_) (fun c33 => ?_)
        · have V := V1 c33
          exact V
        · have V := V2 c33
          refine r_aload_n dX12_next_125 rfl rfl ?_
          refine r_aload_n dX12_next_126 rfl rfl ?_
          refine r_getR (b := 150) dX12_next_127 fX12_23 ob_145 (by decide) rfl rfl ?_
          refine r_aload_n dX12_next_130 rfl rfl ?_
          refine r_getI (fi := 9) dX12_next_131 fX12_154 ob_145 (by decide) (by decide) rfl ?_
          show Rn w mX12_next (d + 1) G Q 134 [(0, vr 145)] [vi (n29 145 9), vr 150, vr 145] (B0, upn n29 145 11 z32)
          obtain ⟨s34, V⟩ := V
          obtain ⟨s35, V⟩ := V
          refine r_iald dX12_next_134 ob_150 s34 s35 ?_
          show Rn w mX12_next (d + 1) G Q 135 [(0, vr 145)] [vi (n29 150 (n29 145 9)), vr 145] (B0, upn n29 145 11 z32)
          refine r_i2l dX12_next_135 ?_
          refine r_putL (fi := 12) (h' := (B0, upn (upn n29 145 11 z32) 145 12 (n29 150 (n29 145 9)))) dX12_next_136 pX12_157 ob_145 (by decide) rfl rfl rfl ?_
          refine r_aload_n dX12_next_139 rfl rfl ?_
          refine r_dup dX12_next_140 rfl ?_
          refine r_getI (fi := 10) dX12_next_141 fX12_144 ob_145 (by decide) (by decide) rfl ?_
          show Rn w mX12_next (d + 1) G Q 144 [(0, vr 145)] [vi (n29 145 10), vr 145] (B0, upn (upn n29 145 11 z32) 145 12 (n29 150 (n29 145 9)))
          refine r_iconst (x := 1) dX12_next_144 rfl (by decide) ?_
          obtain ⟨s36, V⟩ := V
          refine r_iadd dX12_next_145 s36 ?_
          refine r_putI (fi := 10) (h' := (B0, upn (upn (upn n29 145 11 z32) 145 12 (n29 150 (n29 145 9))) 145 10 ((n29 145 10) + 1))) dX12_next_146 pX12_144 ob_145 (by decide) rfl rfl rfl ?_
          exact V
      refine r_zeq (tgt := 113) dX12_next_106 (by decide) (fun c31 => ?_) (fun c31 => ?_)
      · refine r_iconst (x := 3) dX12_next_113 rfl (by decide) ?_
        exact K 3 (by first | rfl | (simp only [if_pos c31]))
      · refine r_iconst (x := 2) dX12_next_109 rfl (by decide) ?_
        refine r_goto (tgt := 114) dX12_next_110 (by decide) ?_
        exact K 2 (by first | rfl | (simp only [if_neg c31]))
    · have V := V2 c26
      refine r_iconst (x := 1) dX12_next_90 rfl (by decide) ?_
      refine r_goto (tgt := 114) dX12_next_91 (by decide) ?_
      exact V
  · have V := V2 c21
    refine r_iconst (x := 0) dX12_next_71 rfl (by decide) ?_
    refine r_goto (tgt := 114) dX12_next_72 (by decide) ?_
    exact V

theorem gX12_next_149 {w : WD} {d : Nat} {G : GM} {Q : Option AV → Hp → Prop} {n : NM}
    (V :
    ((n 145 11 ≠ 1 →
      Rn w mX12_next (d + 1) G Q 243 [(0, vr 145)] [] (B0, n)) ∧
    (n 145 11 = 1 →
      ((n 145 8 ≤ n 145 10 →
        Rn w mX12_next (d + 1) G Q 243 [(0, vr 145)] [] (B0, n)) ∧
      (n 145 10 < n 145 8 →
        (0 ≤ n 145 10) ∧
        (n 145 10 < 400) ∧
        (Ev w d 0 0 mX12_isSmall [vi (n 150 (n 145 10))] (B0, n) (fun r h' => ∃ (x26 : Int) (n25 : NM), r = some (vi x26) ∧ h' = (B0, n25) ∧ 
          ((x26 = 0 →
            Rn w mX12_next (d + 1) G Q 243 [(0, vr 145)] [] (B0, n25)) ∧
          (x26 ≠ 0 →
            (inI ((n25 145 10) - (n25 145 9))) ∧
            ((n25 145 10) - (n25 145 9) < 10 → inJ ((n25 145 12) * 32)) ∧
            ((n25 145 10) - (n25 145 9) < 10 → 0 ≤ n25 145 10) ∧
            ((n25 145 10) - (n25 145 9) < 10 → n25 145 10 < 400) ∧
            ((n25 145 10) - (n25 145 9) < 10 → inJ (((n25 145 12) * 32) + (n25 150 (n25 145 10)))) ∧
            ((n25 145 10) - (n25 145 9) < 10 → inJ ((((n25 145 12) * 32) + (n25 150 (n25 145 10))) - 96)) ∧
            (∀ z35 : Int, z35 = (if 10 ≤ (n25 145 10) - (n25 145 9) then (-1) else (((n25 145 12) * 32) + (n25 150 (n25 145 10))) - 96) → 
            (inI ((n25 145 10) + 1)) ∧
            Rn w mX12_next (d + 1) G Q 149 [(0, vr 145)] [] (B0, upn (upn n25 145 12 z35) 145 10 ((n25 145 10) + 1)))))))))))) :
    Rn w mX12_next (d + 1) G Q 149 [(0, vr 145)] [] (B0, n) := by
  refine r_aload_n dX12_next_149 rfl rfl ?_
  refine r_getI (fi := 11) dX12_next_150 fX12_167 ob_145 (by decide) (by decide) rfl ?_
  refine r_iconst (x := 1) dX12_next_153 rfl (by decide) ?_
  obtain ⟨V1, V2⟩ := V
  refine r_jne (tgt := 243) dX12_next_154 (by decide) (fun c21 => ?_) (fun c21 => ?_)
  · have V := V1 c21
    exact V
  · have V := V2 c21
    refine r_aload_n dX12_next_157 rfl rfl ?_
    refine r_getI (fi := 10) dX12_next_158 fX12_144 ob_145 (by decide) (by decide) rfl ?_
    refine r_aload_n dX12_next_161 rfl rfl ?_
    refine r_getI (fi := 8) dX12_next_162 fX12_134 ob_145 (by decide) (by decide) rfl ?_
    obtain ⟨V1, V2⟩ := V
    refine r_jge (tgt := 243) dX12_next_165 (by decide) (fun c22 => ?_) (fun c22 => ?_)
    · have V := V1 c22
      exact V
    · have V := V2 c22
      refine r_aload_n dX12_next_168 rfl rfl ?_
      refine r_getR (b := 150) dX12_next_169 fX12_23 ob_145 (by decide) rfl rfl ?_
      refine r_aload_n dX12_next_172 rfl rfl ?_
      refine r_getI (fi := 10) dX12_next_173 fX12_144 ob_145 (by decide) (by decide) rfl ?_
      obtain ⟨s23, V⟩ := V
      obtain ⟨s24, V⟩ := V
      refine r_iald dX12_next_176 ob_150 s23 s24 ?_
      refine r_callS (args := [vi (n 150 (n 145 10))]) dX12_next_177 kX12_161 rfl rfl (Nat.le_of_ble_eq_true rfl) cap0 (Ev.mono V ?_)
      rintro r h' ⟨x26, n25, rfl, rfl, V⟩
      show Rn w mX12_next (d + 1) G Q 180 [(0, vr 145)] [vi x26] (B0, n25)
      obtain ⟨V1, V2⟩ := V
      refine r_zeq (tgt := 243) dX12_next_180 (by decide) (fun c27 => ?_) (fun c27 => ?_)
      · have V := V1 c27
        exact V
      · have V := V2 c27
        refine r_aload_n dX12_next_183 rfl rfl ?_
        refine r_aload_n dX12_next_184 rfl rfl ?_
        refine r_getI (fi := 10) dX12_next_185 fX12_144 ob_145 (by decide) (by decide) rfl ?_
        refine r_aload_n dX12_next_188 rfl rfl ?_
        refine r_getI (fi := 9) dX12_next_189 fX12_154 ob_145 (by decide) (by decide) rfl ?_
        obtain ⟨s28, V⟩ := V
        refine r_isub dX12_next_192 s28 ?_
        refine r_bipush (x := 10) dX12_next_193 (by decide +kernel) (by decide) ?_
        obtain ⟨s30, V⟩ := V
        obtain ⟨s31, V⟩ := V
        obtain ⟨s32, V⟩ := V
        obtain ⟨s33, V⟩ := V
        obtain ⟨s34, V⟩ := V
        have K : ∀ z35 : Int, z35 = (if 10 ≤ (n25 145 10) - (n25 145 9) then (-1) else (((n25 145 12) * 32) + (n25 150 (n25 145 10))) - 96) → Rn w mX12_next (d + 1) G Q 227 [(0, vr 145)] [vl z35, vr 145] (B0, n25) := by
          intro z35 ez35
          have V := V z35 ez35
          refine r_putL (fi := 12) (h' := (B0, upn n25 145 12 z35)) dX12_next_227 pX12_157 ob_145 (by decide) rfl rfl rfl ?_
          refine r_aload_n dX12_next_230 rfl rfl ?_
          refine r_dup dX12_next_231 rfl ?_
          refine r_getI (fi := 10) dX12_next_232 fX12_144 ob_145 (by decide) (by decide) rfl ?_
          show Rn w mX12_next (d + 1) G Q 235 [(0, vr 145)] [vi (n25 145 10), vr 145] (B0, upn n25 145 12 z35)
          refine r_iconst (x := 1) dX12_next_235 rfl (by decide) ?_
          obtain ⟨s36, V⟩ := V
          refine r_iadd dX12_next_236 s36 ?_
          refine r_putI (fi := 10) (h' := (B0, upn (upn n25 145 12 z35) 145 10 ((n25 145 10) + 1))) dX12_next_237 pX12_144 ob_145 (by decide) rfl rfl rfl ?_
          refine r_goto (tgt := 149) dX12_next_240 (by decide) ?_
          exact V
        refine r_jge (tgt := 224) dX12_next_195 (by decide) (fun c29 => ?_) (fun c29 => ?_)
        · refine r_ldc2 (x := -1) dX12_next_224 qX12_174 (by decide) ?_
          exact K (-1) (by first | rfl | (simp only [if_pos c29]))
        · refine r_aload_n dX12_next_198 rfl rfl ?_
          refine r_getL (fi := 12) dX12_next_199 fX12_157 ob_145 (by decide) rfl rfl ?_
          refine r_ldc2 (x := 32) dX12_next_202 qX12_170 (by decide) ?_
          refine r_lmul dX12_next_205 (s30 c29) ?_
          refine r_aload_n dX12_next_206 rfl rfl ?_
          refine r_getR (b := 150) dX12_next_207 fX12_23 ob_145 (by decide) rfl rfl ?_
          refine r_aload_n dX12_next_210 rfl rfl ?_
          refine r_getI (fi := 10) dX12_next_211 fX12_144 ob_145 (by decide) (by decide) rfl ?_
          refine r_iald dX12_next_214 ob_150 (s31 c29) (s32 c29) ?_
          refine r_i2l dX12_next_215 ?_
          refine r_ladd dX12_next_216 (s33 c29) ?_
          refine r_ldc2 (x := 96) dX12_next_217 qX12_172 (by decide) ?_
          refine r_lsub dX12_next_220 (s34 c29) ?_
          refine r_goto (tgt := 227) dX12_next_221 (by decide) ?_
          exact K ((((n25 145 12) * 32) + (n25 150 (n25 145 10))) - 96) (by first | rfl | (simp only [if_neg (Int.not_le.mpr c29)]))

theorem gX12_next_114 {w : WD} {d : Nat} {G : GM} {Q : Option AV → Hp → Prop} {n : NM} {t1 : Int}
    (V :
    ((t1 ≠ 3 →
      Rn w mX12_next d G Q 149 [(0, vr 145)] [] (B0, upn n 145 11 t1)) ∧
    (t1 = 3 →
      (0 ≤ n 145 9) ∧
      (n 145 9 < 400) ∧
      (inI ((n 145 10) + 1)) ∧
      Rn w mX12_next d G Q 149 [(0, vr 145)] [] (B0, upn (upn (upn n 145 11 t1) 145 12 (n 150 (n 145 9))) 145 10 ((n 145 10) + 1))))) :
    Rn w mX12_next d G Q 114 [(0, vr 145)] [vi t1, vr 145] (B0, n) := by
  refine r_putI (fi := 11) (h' := (B0, upn n 145 11 t1)) dX12_next_114 pX12_167 ob_145 (by decide) rfl rfl rfl ?_
  refine r_aload_n dX12_next_117 rfl rfl ?_
  refine r_getI (fi := 11) dX12_next_118 fX12_167 ob_145 (by decide) (by decide) rfl ?_
  show Rn w mX12_next d G Q 121 [(0, vr 145)] [vi t1] (B0, upn n 145 11 t1)
  refine r_iconst (x := 3) dX12_next_121 rfl (by decide) ?_
  obtain ⟨V1, V2⟩ := V
  refine r_jne (tgt := 149) dX12_next_122 (by decide) (fun c21 => ?_) (fun c21 => ?_)
  · have V := V1 c21
    exact V
  · have V := V2 c21
    refine r_aload_n dX12_next_125 rfl rfl ?_
    refine r_aload_n dX12_next_126 rfl rfl ?_
    refine r_getR (b := 150) dX12_next_127 fX12_23 ob_145 (by decide) rfl rfl ?_
    refine r_aload_n dX12_next_130 rfl rfl ?_
    refine r_getI (fi := 9) dX12_next_131 fX12_154 ob_145 (by decide) (by decide) rfl ?_
    show Rn w mX12_next d G Q 134 [(0, vr 145)] [vi (n 145 9), vr 150, vr 145] (B0, upn n 145 11 t1)
    obtain ⟨s22, V⟩ := V
    obtain ⟨s23, V⟩ := V
    refine r_iald dX12_next_134 ob_150 s22 s23 ?_
    show Rn w mX12_next d G Q 135 [(0, vr 145)] [vi (n 150 (n 145 9)), vr 145] (B0, upn n 145 11 t1)
    refine r_i2l dX12_next_135 ?_
    refine r_putL (fi := 12) (h' := (B0, upn (upn n 145 11 t1) 145 12 (n 150 (n 145 9)))) dX12_next_136 pX12_157 ob_145 (by decide) rfl rfl rfl ?_
    refine r_aload_n dX12_next_139 rfl rfl ?_
    refine r_dup dX12_next_140 rfl ?_
    refine r_getI (fi := 10) dX12_next_141 fX12_144 ob_145 (by decide) (by decide) rfl ?_
    show Rn w mX12_next d G Q 144 [(0, vr 145)] [vi (n 145 10), vr 145] (B0, upn (upn n 145 11 t1) 145 12 (n 150 (n 145 9)))
    refine r_iconst (x := 1) dX12_next_144 rfl (by decide) ?_
    obtain ⟨s24, V⟩ := V
    refine r_iadd dX12_next_145 s24 ?_
    refine r_putI (fi := 10) (h' := (B0, upn (upn (upn n 145 11 t1) 145 12 (n 150 (n 145 9))) 145 10 ((n 145 10) + 1))) dX12_next_146 pX12_144 ob_145 (by decide) rfl rfl rfl ?_
    exact V

theorem gX12_next_243 {w : WD} {d : Nat} {G : GM} {Q : Option AV → Hp → Prop} {n : NM}
    (V :
    ((n 145 11 ≠ 2 →
      Q none (B0, n)) ∧
    (n 145 11 = 2 →
      ((n 145 8 ≤ n 145 10 →
        Q none (B0, n)) ∧
      (n 145 10 < n 145 8 →
        (0 ≤ n 145 10) ∧
        (n 145 10 < 400) ∧
        (Ev w d 0 0 mX12_isDigit [vi (n 150 (n 145 10))] (B0, n) (fun r h' => ∃ (x26 : Int) (n25 : NM), r = some (vi x26) ∧ h' = (B0, n25) ∧ 
          ((x26 = 0 →
            Q none (B0, n25)) ∧
          (x26 ≠ 0 →
            (n25 145 12 ≤ 1000000 → inJ ((n25 145 12) * 10)) ∧
            (n25 145 12 ≤ 1000000 → 0 ≤ n25 145 10) ∧
            (n25 145 12 ≤ 1000000 → n25 145 10 < 400) ∧
            (n25 145 12 ≤ 1000000 → inJ (((n25 145 12) * 10) + (n25 150 (n25 145 10)))) ∧
            (n25 145 12 ≤ 1000000 → inJ ((((n25 145 12) * 10) + (n25 150 (n25 145 10))) - 48)) ∧
            (∀ z34 : Int, z34 = (if n25 145 12 ≤ 1000000 then (((n25 145 12) * 10) + (n25 150 (n25 145 10))) - 48 else n25 145 12) → 
            (inI ((n25 145 10) + 1)) ∧
            Rn w mX12_next (d + 1) G Q 243 [(0, vr 145)] [] (B0, upn (upn n25 145 12 z34) 145 10 ((n25 145 10) + 1)))))))))))) :
    Rn w mX12_next (d + 1) G Q 243 [(0, vr 145)] [] (B0, n) := by
  refine r_aload_n dX12_next_243 rfl rfl ?_
  refine r_getI (fi := 11) dX12_next_244 fX12_167 ob_145 (by decide) (by decide) rfl ?_
  refine r_iconst (x := 2) dX12_next_247 rfl (by decide) ?_
  obtain ⟨V1, V2⟩ := V
  refine r_jne (tgt := 335) dX12_next_248 (by decide) (fun c21 => ?_) (fun c21 => ?_)
  · have V := V1 c21
    exact r_ret dX12_next_335 rfl V
  · have V := V2 c21
    refine r_aload_n dX12_next_251 rfl rfl ?_
    refine r_getI (fi := 10) dX12_next_252 fX12_144 ob_145 (by decide) (by decide) rfl ?_
    refine r_aload_n dX12_next_255 rfl rfl ?_
    refine r_getI (fi := 8) dX12_next_256 fX12_134 ob_145 (by decide) (by decide) rfl ?_
    obtain ⟨V1, V2⟩ := V
    refine r_jge (tgt := 335) dX12_next_259 (by decide) (fun c22 => ?_) (fun c22 => ?_)
    · have V := V1 c22
      exact r_ret dX12_next_335 rfl V
    · have V := V2 c22
      refine r_aload_n dX12_next_262 rfl rfl ?_
      refine r_getR (b := 150) dX12_next_263 fX12_23 ob_145 (by decide) rfl rfl ?_
      refine r_aload_n dX12_next_266 rfl rfl ?_
      refine r_getI (fi := 10) dX12_next_267 fX12_144 ob_145 (by decide) (by decide) rfl ?_
      obtain ⟨s23, V⟩ := V
      obtain ⟨s24, V⟩ := V
      refine r_iald dX12_next_270 ob_150 s23 s24 ?_
      refine r_callS (args := [vi (n 150 (n 145 10))]) dX12_next_271 kX12_164 rfl rfl (Nat.le_of_ble_eq_true rfl) cap0 (Ev.mono V ?_)
      rintro r h' ⟨x26, n25, rfl, rfl, V⟩
      show Rn w mX12_next (d + 1) G Q 274 [(0, vr 145)] [vi x26] (B0, n25)
      obtain ⟨V1, V2⟩ := V
      refine r_zeq (tgt := 335) dX12_next_274 (by decide) (fun c27 => ?_) (fun c27 => ?_)
      · have V := V1 c27
        exact r_ret dX12_next_335 rfl V
      · have V := V2 c27
        refine r_aload_n dX12_next_277 rfl rfl ?_
        refine r_aload_n dX12_next_278 rfl rfl ?_
        refine r_getL (fi := 12) dX12_next_279 fX12_157 ob_145 (by decide) rfl rfl ?_
        refine r_ldc2 (x := 1000000) dX12_next_282 qX12_176 (by decide) ?_
        obtain ⟨s29, V⟩ := V
        obtain ⟨s30, V⟩ := V
        obtain ⟨s31, V⟩ := V
        obtain ⟨s32, V⟩ := V
        obtain ⟨s33, V⟩ := V
        have K : ∀ z34 : Int, z34 = (if n25 145 12 ≤ 1000000 then (((n25 145 12) * 10) + (n25 150 (n25 145 10))) - 48 else n25 145 12) → Rn w mX12_next (d + 1) G Q 319 [(0, vr 145)] [vl z34, vr 145] (B0, n25) := by
          intro z34 ez34
          have V := V z34 ez34
          refine r_putL (fi := 12) (h' := (B0, upn n25 145 12 z34)) dX12_next_319 pX12_157 ob_145 (by decide) rfl rfl rfl ?_
          refine r_aload_n dX12_next_322 rfl rfl ?_
          refine r_dup dX12_next_323 rfl ?_
          refine r_getI (fi := 10) dX12_next_324 fX12_144 ob_145 (by decide) (by decide) rfl ?_
          show Rn w mX12_next (d + 1) G Q 327 [(0, vr 145)] [vi (n25 145 10), vr 145] (B0, upn n25 145 12 z34)
          refine r_iconst (x := 1) dX12_next_327 rfl (by decide) ?_
          obtain ⟨s35, V⟩ := V
          refine r_iadd dX12_next_328 s35 ?_
          refine r_putI (fi := 10) (h' := (B0, upn (upn n25 145 12 z34) 145 10 ((n25 145 10) + 1))) dX12_next_329 pX12_144 ob_145 (by decide) rfl rfl rfl ?_
          refine r_goto (tgt := 243) dX12_next_332 (by decide) ?_
          exact V
        refine r_lle dX12_next_285 rfl dX12_next_286 (tgt := 296) (by decide) (fun c28 => ?_) (fun c28 => ?_)
        · refine r_aload_n dX12_next_296 rfl rfl ?_
          refine r_getL (fi := 12) dX12_next_297 fX12_157 ob_145 (by decide) rfl rfl ?_
          refine r_ldc2 (x := 10) dX12_next_300 qX12_178 (by decide) ?_
          refine r_lmul dX12_next_303 (s29 c28) ?_
          refine r_aload_n dX12_next_304 rfl rfl ?_
          refine r_getR (b := 150) dX12_next_305 fX12_23 ob_145 (by decide) rfl rfl ?_
          refine r_aload_n dX12_next_308 rfl rfl ?_
          refine r_getI (fi := 10) dX12_next_309 fX12_144 ob_145 (by decide) (by decide) rfl ?_
          refine r_iald dX12_next_312 ob_150 (s30 c28) (s31 c28) ?_
          refine r_i2l dX12_next_313 ?_
          refine r_ladd dX12_next_314 (s32 c28) ?_
          refine r_ldc2 (x := 48) dX12_next_315 qX12_180 (by decide) ?_
          refine r_lsub dX12_next_318 (s33 c28) ?_
          exact K ((((n25 145 12) * 10) + (n25 150 (n25 145 10))) - 48) (by first | rfl | (simp only [if_pos c28]))
        · refine r_aload_n dX12_next_289 rfl rfl ?_
          refine r_getL (fi := 12) dX12_next_290 fX12_157 ob_145 (by decide) rfl rfl ?_
          refine r_goto (tgt := 319) dX12_next_293 (by decide) ?_
          exact K (n25 145 12) (by first | rfl | (simp only [if_neg (Int.not_le.mpr c28)]))

theorem gX12_isWord_0 {w : WD} {d : Nat} {G : GM} {Q : Option AV → Hp → Prop} {n : NM} {x1 : Int}
    (V :
    ((n 145 11 ≠ 1 →
      Q (some (vi 0)) (B0, n)) ∧
    (n 145 11 = 1 →
      ((n 145 12 ≠ x1 →
        Q (some (vi 0)) (B0, n)) ∧
      (n 145 12 = x1 →
        Q (some (vi 1)) (B0, n)))))) :
    Rn w mX12_isWord d G Q 0 [(0, vr 145), (1, vl x1)] [] (B0, n) := by
  refine r_aload_n dX12_isWord_0 rfl rfl ?_
  refine r_getI (fi := 11) dX12_isWord_1 fX12_167 ob_145 (by decide) (by decide) rfl ?_
  refine r_iconst (x := 1) dX12_isWord_4 rfl (by decide) ?_
  obtain ⟨V1, V2⟩ := V
  refine r_jne (tgt := 21) dX12_isWord_5 (by decide) (fun c21 => ?_) (fun c21 => ?_)
  · have V := V1 c21
    refine r_iconst (x := 0) dX12_isWord_21 rfl (by decide) ?_
    exact r_zret dX12_isWord_22 rfl (by decide) V
  · have V := V2 c21
    refine r_aload_n dX12_isWord_8 rfl rfl ?_
    refine r_getL (fi := 12) dX12_isWord_9 fX12_157 ob_145 (by decide) rfl rfl ?_
    refine r_lload_n dX12_isWord_12 rfl rfl ?_
    obtain ⟨V1, V2⟩ := V
    refine r_lne dX12_isWord_13 rfl dX12_isWord_14 (tgt := 21) (by decide) (fun c22 => ?_) (fun c22 => ?_)
    · have V := V1 c22
      refine r_iconst (x := 0) dX12_isWord_21 rfl (by decide) ?_
      exact r_zret dX12_isWord_22 rfl (by decide) V
    · have V := V2 c22
      refine r_iconst (x := 1) dX12_isWord_17 rfl (by decide) ?_
      refine r_goto (tgt := 22) dX12_isWord_18 (by decide) ?_
      exact r_zret dX12_isWord_22 rfl (by decide) V

theorem gX12_isSign_0 {w : WD} {d : Nat} {G : GM} {Q : Option AV → Hp → Prop} {n : NM} {x1 : Int}
    (V :
    ((n 145 11 ≠ 3 →
      Q (some (vi 0)) (B0, n)) ∧
    (n 145 11 = 3 →
      ((n 145 12 ≠ x1 →
        Q (some (vi 0)) (B0, n)) ∧
      (n 145 12 = x1 →
        Q (some (vi 1)) (B0, n)))))) :
    Rn w mX12_isSign d G Q 0 [(0, vr 145), (1, vi x1)] [] (B0, n) := by
  refine r_aload_n dX12_isSign_0 rfl rfl ?_
  refine r_getI (fi := 11) dX12_isSign_1 fX12_167 ob_145 (by decide) (by decide) rfl ?_
  refine r_iconst (x := 3) dX12_isSign_4 rfl (by decide) ?_
  obtain ⟨V1, V2⟩ := V
  refine r_jne (tgt := 22) dX12_isSign_5 (by decide) (fun c21 => ?_) (fun c21 => ?_)
  · have V := V1 c21
    refine r_iconst (x := 0) dX12_isSign_22 rfl (by decide) ?_
    exact r_zret dX12_isSign_23 rfl (by decide) V
  · have V := V2 c21
    refine r_aload_n dX12_isSign_8 rfl rfl ?_
    refine r_getL (fi := 12) dX12_isSign_9 fX12_157 ob_145 (by decide) rfl rfl ?_
    refine r_iload_n dX12_isSign_12 rfl rfl ?_
    refine r_i2l dX12_isSign_13 ?_
    obtain ⟨V1, V2⟩ := V
    refine r_lne dX12_isSign_14 rfl dX12_isSign_15 (tgt := 22) (by decide) (fun c22 => ?_) (fun c22 => ?_)
    · have V := V1 c22
      refine r_iconst (x := 0) dX12_isSign_22 rfl (by decide) ?_
      exact r_zret dX12_isSign_23 rfl (by decide) V
    · have V := V2 c22
      refine r_iconst (x := 1) dX12_isSign_18 rfl (by decide) ?_
      refine r_goto (tgt := 23) dX12_isSign_19 (by decide) ?_
      exact r_zret dX12_isSign_23 rfl (by decide) V

theorem gX12_must_0 {w : WD} {d : Nat} {G : GM} {Q : Option AV → Hp → Prop} {n : NM} {x1 : Int}
    (V :
    ((n 145 14 ≠ 0 →
      ((n 145 14 ≠ 0 →
        Q none (B0, n)) ∧
      (n 145 14 = 0 →
        (Ev w d 0 0 mX12_next [vr 145] (B0, n) (fun r h' => ∃ n23 : NM, r = none ∧ h' = (B0, n23) ∧ 
          Q none (B0, n23)))))) ∧
    (n 145 14 = 0 →
      ((x1 ≠ 0 →
        ((n 145 14 ≠ 0 →
          Q none (B0, n)) ∧
        (n 145 14 = 0 →
          (Ev w d 0 0 mX12_next [vr 145] (B0, n) (fun r h' => ∃ n26 : NM, r = none ∧ h' = (B0, n26) ∧ 
            Q none (B0, n26)))))) ∧
      (x1 = 0 →
        (((1 : Int) ≠ 0 →
          Q none (B0, upn (upn n 145 14 1) 145 13 (n 145 9))) ∧
        ((1 : Int) = 0 →
          (Ev w d 0 0 mX12_next [vr 145] (B0, upn (upn n 145 14 1) 145 13 (n 145 9)) (fun r h' => ∃ n28 : NM, r = none ∧ h' = (B0, n28) ∧ 
            Q none (B0, n28)))))))))) :
    Rn w mX12_must (d + 1) G Q 0 [(0, vr 145), (1, vi x1)] [] (B0, n) := by
  refine r_aload_n dX12_must_0 rfl rfl ?_
  refine r_getI (fi := 14) dX12_must_1 fX12_147 ob_145 (by decide) (by decide) rfl ?_
  obtain ⟨V1, V2⟩ := V
  refine r_zne (tgt := 24) dX12_must_4 (by decide) (fun c21 => ?_) (fun c21 => ?_)
  · have V := V1 c21
    refine r_aload_n dX12_must_24 rfl rfl ?_
    refine r_getI (fi := 14) dX12_must_25 fX12_147 ob_145 (by decide) (by decide) rfl ?_
    obtain ⟨V1, V2⟩ := V
    refine r_zne (tgt := 35) dX12_must_28 (by decide) (fun c22 => ?_) (fun c22 => ?_)
    · have V := V1 c22
      exact r_ret dX12_must_35 rfl V
    · have V := V2 c22
      refine r_aload_n dX12_must_31 rfl rfl ?_
      refine r_callV (args := []) dX12_must_32 kX12_151 ob_145 ⟨_, _, rfl⟩ (by decide) rfl rfl (Nat.le_of_ble_eq_true rfl) cap0 (Ev.mono V ?_)
      rintro r h' ⟨n23, rfl, rfl, V⟩
      show Rn w mX12_must (d + 1) G Q 35 [(0, vr 145), (1, vi x1)] [] (B0, n23)
      exact r_ret dX12_must_35 rfl V
  · have V := V2 c21
    refine r_iload_n dX12_must_7 rfl rfl ?_
    obtain ⟨V1, V2⟩ := V
    refine r_zne (tgt := 24) dX12_must_8 (by decide) (fun c24 => ?_) (fun c24 => ?_)
    · have V := V1 c24
      refine r_aload_n dX12_must_24 rfl rfl ?_
      refine r_getI (fi := 14) dX12_must_25 fX12_147 ob_145 (by decide) (by decide) rfl ?_
      obtain ⟨V1, V2⟩ := V
      refine r_zne (tgt := 35) dX12_must_28 (by decide) (fun c25 => ?_) (fun c25 => ?_)
      · have V := V1 c25
        exact r_ret dX12_must_35 rfl V
      · have V := V2 c25
        refine r_aload_n dX12_must_31 rfl rfl ?_
        refine r_callV (args := []) dX12_must_32 kX12_151 ob_145 ⟨_, _, rfl⟩ (by decide) rfl rfl (Nat.le_of_ble_eq_true rfl) cap0 (Ev.mono V ?_)
        rintro r h' ⟨n26, rfl, rfl, V⟩
        show Rn w mX12_must (d + 1) G Q 35 [(0, vr 145), (1, vi x1)] [] (B0, n26)
        exact r_ret dX12_must_35 rfl V
    · have V := V2 c24
      refine r_aload_n dX12_must_11 rfl rfl ?_
      refine r_iconst (x := 1) dX12_must_12 rfl (by decide) ?_
      refine r_putZ (fi := 14) (h' := (B0, upn n 145 14 1)) dX12_must_13 pX12_147 ob_145 (by decide) rfl rfl (by decide) rfl ?_
      refine r_aload_n dX12_must_16 rfl rfl ?_
      refine r_aload_n dX12_must_17 rfl rfl ?_
      refine r_getI (fi := 9) dX12_must_18 fX12_154 ob_145 (by decide) (by decide) rfl ?_
      show Rn w mX12_must (d + 1) G Q 21 [(0, vr 145), (1, vi x1)] [vi (n 145 9), vr 145] (B0, upn n 145 14 1)
      refine r_putI (fi := 13) (h' := (B0, upn (upn n 145 14 1) 145 13 (n 145 9))) dX12_must_21 pX12_26 ob_145 (by decide) rfl rfl rfl ?_
      refine r_aload_n dX12_must_24 rfl rfl ?_
      refine r_getI (fi := 14) dX12_must_25 fX12_147 ob_145 (by decide) (by decide) rfl ?_
      show Rn w mX12_must (d + 1) G Q 28 [(0, vr 145), (1, vi x1)] [vi 1] (B0, upn (upn n 145 14 1) 145 13 (n 145 9))
      obtain ⟨V1, V2⟩ := V
      refine r_zne (tgt := 35) dX12_must_28 (by decide) (fun c27 => ?_) (fun c27 => ?_)
      · have V := V1 c27
        exact r_ret dX12_must_35 rfl V
      · have V := V2 c27
        refine r_aload_n dX12_must_31 rfl rfl ?_
        refine r_callV (args := []) dX12_must_32 kX12_151 ob_145 ⟨_, _, rfl⟩ (by decide) rfl rfl (Nat.le_of_ble_eq_true rfl) cap0 (Ev.mono V ?_)
        rintro r h' ⟨n28, rfl, rfl, V⟩
        show Rn w mX12_must (d + 1) G Q 35 [(0, vr 145), (1, vi x1)] [] (B0, n28)
        exact r_ret dX12_must_35 rfl V

theorem gX12_fault_0 {w : WD} {d : Nat} {G : GM} {Q : Option AV → Hp → Prop} {n : NM}
    (V :
    Q (some (vi (n 145 13))) (B0, upn n 145 0 0)) :
    Rn w mX12_fault d G Q 0 [(0, vr 145)] [] (B0, n) := by
  refine r_aload_n dX12_fault_0 rfl rfl ?_
  refine r_iconst (x := 0) dX12_fault_1 rfl (by decide) ?_
  refine r_putI (fi := 0) (h' := (B0, upn n 145 0 0)) dX12_fault_2 pX12_76 ob_145 (by decide) rfl rfl rfl ?_
  refine r_aload_n dX12_fault_5 rfl rfl ?_
  refine r_getI (fi := 13) dX12_fault_6 fX12_26 ob_145 (by decide) (by decide) rfl ?_
  show Rn w mX12_fault d G Q 9 [(0, vr 145)] [vi (n 145 13)] (B0, upn n 145 0 0)
  exact r_iret dX12_fault_9 rfl V

theorem gX12_emit_0 {w : WD} {d : Nat} {G : GM} {Q : Option AV → Hp → Prop} {n : NM} {x1 x2 : Int}
    (V :
    (0 ≤ n 145 17) ∧
    (n 145 17 < 400) ∧
    (0 ≤ n 145 17) ∧
    (n 145 17 < 400) ∧
    (inI ((n 145 17) + 1)) ∧
    Q none (B0, upn (upn (upn n 152 (n 145 17) x1) 153 (n 145 17) x2) 145 17 ((n 145 17) + 1))) :
    Rn w mX12_emit d G Q 0 [(0, vr 145), (1, vi x1), (2, vi x2)] [] (B0, n) := by
  refine r_aload_n dX12_emit_0 rfl rfl ?_
  refine r_getR (b := 152) dX12_emit_1 fX12_33 ob_145 (by decide) rfl rfl ?_
  refine r_aload_n dX12_emit_4 rfl rfl ?_
  refine r_getI (fi := 17) dX12_emit_5 fX12_186 ob_145 (by decide) (by decide) rfl ?_
  refine r_iload_n dX12_emit_8 rfl rfl ?_
  obtain ⟨s21, V⟩ := V
  obtain ⟨s22, V⟩ := V
  refine r_iast (h' := (B0, upn n 152 (n 145 17) x1)) dX12_emit_9 ob_152 s21 s22 rfl ?_
  refine r_aload_n dX12_emit_10 rfl rfl ?_
  refine r_getR (b := 153) dX12_emit_11 fX12_36 ob_145 (by decide) rfl rfl ?_
  refine r_aload_n dX12_emit_14 rfl rfl ?_
  refine r_getI (fi := 17) dX12_emit_15 fX12_186 ob_145 (by decide) (by decide) rfl ?_
  show Rn w mX12_emit d G Q 18 [(0, vr 145), (1, vi x1), (2, vi x2)] [vi (n 145 17), vr 153] (B0, upn n 152 (n 145 17) x1)
  refine r_iload_n dX12_emit_18 rfl rfl ?_
  obtain ⟨s23, V⟩ := V
  obtain ⟨s24, V⟩ := V
  refine r_iast (h' := (B0, upn (upn n 152 (n 145 17) x1) 153 (n 145 17) x2)) dX12_emit_19 ob_153 s23 s24 rfl ?_
  refine r_aload_n dX12_emit_20 rfl rfl ?_
  refine r_dup dX12_emit_21 rfl ?_
  refine r_getI (fi := 17) dX12_emit_22 fX12_186 ob_145 (by decide) (by decide) rfl ?_
  show Rn w mX12_emit d G Q 25 [(0, vr 145), (1, vi x1), (2, vi x2)] [vi (n 145 17), vr 145] (B0, upn (upn n 152 (n 145 17) x1) 153 (n 145 17) x2)
  refine r_iconst (x := 1) dX12_emit_25 rfl (by decide) ?_
  obtain ⟨s25, V⟩ := V
  refine r_iadd dX12_emit_26 s25 ?_
  refine r_putI (fi := 17) (h' := (B0, upn (upn (upn n 152 (n 145 17) x1) 153 (n 145 17) x2) 145 17 ((n 145 17) + 1))) dX12_emit_27 pX12_186 ob_145 (by decide) rfl rfl rfl ?_
  exact r_ret dX12_emit_30 rfl V

theorem gX12_push_0 {w : WD} {d : Nat} {G : GM} {Q : Option AV → Hp → Prop} {n : NM} {x1 x2 : Int}
    (V :
    (0 ≤ n 145 23) ∧
    (n 145 23 < 400) ∧
    (0 ≤ n 145 23) ∧
    (n 145 23 < 400) ∧
    (inI ((n 145 23) + 1)) ∧
    Q none (B0, upn (upn (upn n 154 (n 145 23) x1) 155 (n 145 23) x2) 145 23 ((n 145 23) + 1))) :
    Rn w mX12_push d G Q 0 [(0, vr 145), (1, vi x1), (2, vi x2)] [] (B0, n) := by
  refine r_aload_n dX12_push_0 rfl rfl ?_
  refine r_getR (b := 154) dX12_push_1 fX12_39 ob_145 (by decide) rfl rfl ?_
  refine r_aload_n dX12_push_4 rfl rfl ?_
  refine r_getI (fi := 23) dX12_push_5 fX12_189 ob_145 (by decide) (by decide) rfl ?_
  refine r_iload_n dX12_push_8 rfl rfl ?_
  obtain ⟨s21, V⟩ := V
  obtain ⟨s22, V⟩ := V
  refine r_iast (h' := (B0, upn n 154 (n 145 23) x1)) dX12_push_9 ob_154 s21 s22 rfl ?_
  refine r_aload_n dX12_push_10 rfl rfl ?_
  refine r_getR (b := 155) dX12_push_11 fX12_42 ob_145 (by decide) rfl rfl ?_
  refine r_aload_n dX12_push_14 rfl rfl ?_
  refine r_getI (fi := 23) dX12_push_15 fX12_189 ob_145 (by decide) (by decide) rfl ?_
  show Rn w mX12_push d G Q 18 [(0, vr 145), (1, vi x1), (2, vi x2)] [vi (n 145 23), vr 155] (B0, upn n 154 (n 145 23) x1)
  refine r_iload_n dX12_push_18 rfl rfl ?_
  obtain ⟨s23, V⟩ := V
  obtain ⟨s24, V⟩ := V
  refine r_iast (h' := (B0, upn (upn n 154 (n 145 23) x1) 155 (n 145 23) x2)) dX12_push_19 ob_155 s23 s24 rfl ?_
  refine r_aload_n dX12_push_20 rfl rfl ?_
  refine r_dup dX12_push_21 rfl ?_
  refine r_getI (fi := 23) dX12_push_22 fX12_189 ob_145 (by decide) (by decide) rfl ?_
  show Rn w mX12_push d G Q 25 [(0, vr 145), (1, vi x1), (2, vi x2)] [vi (n 145 23), vr 145] (B0, upn (upn n 154 (n 145 23) x1) 155 (n 145 23) x2)
  refine r_iconst (x := 1) dX12_push_25 rfl (by decide) ?_
  obtain ⟨s25, V⟩ := V
  refine r_iadd dX12_push_26 s25 ?_
  refine r_putI (fi := 23) (h' := (B0, upn (upn (upn n 154 (n 145 23) x1) 155 (n 145 23) x2) 145 23 ((n 145 23) + 1))) dX12_push_27 pX12_189 ob_145 (by decide) rfl rfl rfl ?_
  exact r_ret dX12_push_30 rfl V

theorem gX12_binds_0 {w : WD} {d : Nat} {G : GM} {Q : Option AV → Hp → Prop} {n : NM} {x0 : Int}
    (V :
    ((x0 < 30 →
      ((x0 ≠ 29 →
        ((x0 ≠ 28 →
          ((x0 ≠ 27 →
            ((x0 < 24 →
              ((x0 < 22 →
                Q (some (vi 5)) (B0, n)) ∧
              (22 ≤ x0 →
                Q (some (vi 6)) (B0, n)))) ∧
            (24 ≤ x0 →
              Q (some (vi 4)) (B0, n)))) ∧
          (x0 = 27 →
            Q (some (vi 3)) (B0, n)))) ∧
        (x0 = 28 →
          Q (some (vi 2)) (B0, n)))) ∧
      (x0 = 29 →
        Q (some (vi 1)) (B0, n)))) ∧
    (30 ≤ x0 →
      Q (some (vi 0)) (B0, n)))) :
    Rn w mX12_binds d G Q 0 [(0, vi x0)] [] (B0, n) := by
  refine r_iload_n dX12_binds_0 rfl rfl ?_
  refine r_bipush (x := 30) dX12_binds_1 (by decide +kernel) (by decide) ?_
  obtain ⟨V1, V2⟩ := V
  refine r_jlt (tgt := 10) dX12_binds_3 (by decide) (fun c21 => ?_) (fun c21 => ?_)
  · have V := V1 c21
    refine r_iload_n dX12_binds_10 rfl rfl ?_
    refine r_bipush (x := 29) dX12_binds_11 (by decide +kernel) (by decide) ?_
    obtain ⟨V1, V2⟩ := V
    refine r_jne (tgt := 20) dX12_binds_13 (by decide) (fun c22 => ?_) (fun c22 => ?_)
    · have V := V1 c22
      refine r_iload_n dX12_binds_20 rfl rfl ?_
      refine r_bipush (x := 28) dX12_binds_21 (by decide +kernel) (by decide) ?_
      obtain ⟨V1, V2⟩ := V
      refine r_jne (tgt := 30) dX12_binds_23 (by decide) (fun c23 => ?_) (fun c23 => ?_)
      · have V := V1 c23
        refine r_iload_n dX12_binds_30 rfl rfl ?_
        refine r_bipush (x := 27) dX12_binds_31 (by decide +kernel) (by decide) ?_
        obtain ⟨V1, V2⟩ := V
        refine r_jne (tgt := 40) dX12_binds_33 (by decide) (fun c24 => ?_) (fun c24 => ?_)
        · have V := V1 c24
          refine r_iload_n dX12_binds_40 rfl rfl ?_
          refine r_bipush (x := 24) dX12_binds_41 (by decide +kernel) (by decide) ?_
          obtain ⟨V1, V2⟩ := V
          refine r_jlt (tgt := 50) dX12_binds_43 (by decide) (fun c25 => ?_) (fun c25 => ?_)
          · have V := V1 c25
            refine r_iload_n dX12_binds_50 rfl rfl ?_
            refine r_bipush (x := 22) dX12_binds_51 (by decide +kernel) (by decide) ?_
            obtain ⟨V1, V2⟩ := V
            refine r_jlt (tgt := 61) dX12_binds_53 (by decide) (fun c26 => ?_) (fun c26 => ?_)
            · have V := V1 c26
              refine r_iconst (x := 5) dX12_binds_61 rfl (by decide) ?_
              exact r_iret dX12_binds_62 rfl V
            · have V := V2 c26
              refine r_bipush (x := 6) dX12_binds_56 (by decide +kernel) (by decide) ?_
              refine r_goto (tgt := 62) dX12_binds_58 (by decide) ?_
              exact r_iret dX12_binds_62 rfl V
          · have V := V2 c25
            refine r_iconst (x := 4) dX12_binds_46 rfl (by decide) ?_
            refine r_goto (tgt := 62) dX12_binds_47 (by decide) ?_
            exact r_iret dX12_binds_62 rfl V
        · have V := V2 c24
          refine r_iconst (x := 3) dX12_binds_36 rfl (by decide) ?_
          refine r_goto (tgt := 62) dX12_binds_37 (by decide) ?_
          exact r_iret dX12_binds_62 rfl V
      · have V := V2 c23
        refine r_iconst (x := 2) dX12_binds_26 rfl (by decide) ?_
        refine r_goto (tgt := 62) dX12_binds_27 (by decide) ?_
        exact r_iret dX12_binds_62 rfl V
    · have V := V2 c22
      refine r_iconst (x := 1) dX12_binds_16 rfl (by decide) ?_
      refine r_goto (tgt := 62) dX12_binds_17 (by decide) ?_
      exact r_iret dX12_binds_62 rfl V
  · have V := V2 c21
    refine r_iconst (x := 0) dX12_binds_6 rfl (by decide) ?_
    refine r_goto (tgt := 62) dX12_binds_7 (by decide) ?_
    exact r_iret dX12_binds_62 rfl V

theorem gX12_settle_0 {w : WD} {d : Nat} {G : GM} {Q : Option AV → Hp → Prop} {n : NM} {x1 : Int}
    (V :
    ((n 145 23 ≤ 0 →
      Q none (B0, n)) ∧
    (0 < n 145 23 →
      (inI ((n 145 23) - 1)) ∧
      (0 ≤ (n 145 23) - 1) ∧
      ((n 145 23) - 1 < 400) ∧
      (Ev w d 0 0 mX12_binds [vi (n 154 ((n 145 23) - 1))] (B0, n) (fun r h' => ∃ (x26 : Int) (n25 : NM), r = some (vi x26) ∧ h' = (B0, n25) ∧ 
        ((x26 < x1 →
          Q none (B0, n25)) ∧
        (x1 ≤ x26 →
          (inI ((n25 145 23) - 1)) ∧
          (0 ≤ (n25 145 23) - 1) ∧
          ((n25 145 23) - 1 < 400) ∧
          ((n25 154 ((n25 145 23) - 1) = 28 →
            Rn w mX12_settle (d + 1) G Q 63 [(0, vr 145), (1, vi x1)] [] (B0, upn n25 145 23 ((n25 145 23) - 1))) ∧
          (n25 154 ((n25 145 23) - 1) ≠ 28 →
            (0 ≤ (n25 145 23) - 1) ∧
            ((n25 145 23) - 1 < 400) ∧
            ((n25 154 ((n25 145 23) - 1) ≠ 29 →
              (0 ≤ (n25 145 23) - 1) ∧
              ((n25 145 23) - 1 < 400) ∧
              (Ev w d 0 0 mX12_emit [vr 145, vi (n25 154 ((n25 145 23) - 1)), vi 0] (B0, upn n25 145 23 ((n25 145 23) - 1)) (fun r h' => ∃ n37 : NM, r = none ∧ h' = (B0, n37) ∧ 
                Rn w mX12_settle (d + 1) G Q 0 [(0, vr 145), (1, vi x1)] [] (B0, n37)))) ∧
            (n25 154 ((n25 145 23) - 1) = 29 →
              Rn w mX12_settle (d + 1) G Q 63 [(0, vr 145), (1, vi x1)] [] (B0, upn n25 145 23 ((n25 145 23) - 1))))))))))))) :
    Rn w mX12_settle (d + 1) G Q 0 [(0, vr 145), (1, vi x1)] [] (B0, n) := by
  refine r_aload_n dX12_settle_0 rfl rfl ?_
  refine r_getI (fi := 23) dX12_settle_1 fX12_189 ob_145 (by decide) (by decide) rfl ?_
  obtain ⟨V1, V2⟩ := V
  refine r_zle (tgt := 101) dX12_settle_4 (by decide) (fun c21 => ?_) (fun c21 => ?_)
  · have V := V1 c21
    exact r_ret dX12_settle_101 rfl V
  · have V := V2 c21
    refine r_aload_n dX12_settle_7 rfl rfl ?_
    refine r_getR (b := 154) dX12_settle_8 fX12_39 ob_145 (by decide) rfl rfl ?_
    refine r_aload_n dX12_settle_11 rfl rfl ?_
    refine r_getI (fi := 23) dX12_settle_12 fX12_189 ob_145 (by decide) (by decide) rfl ?_
    refine r_iconst (x := 1) dX12_settle_15 rfl (by decide) ?_
    obtain ⟨s22, V⟩ := V
    refine r_isub dX12_settle_16 s22 ?_
    obtain ⟨s23, V⟩ := V
    obtain ⟨s24, V⟩ := V
    refine r_iald dX12_settle_17 ob_154 s23 s24 ?_
    refine r_callS (args := [vi (n 154 ((n 145 23) - 1))]) dX12_settle_18 kX12_192 rfl rfl (Nat.le_of_ble_eq_true rfl) cap0 (Ev.mono V ?_)
    rintro r h' ⟨x26, n25, rfl, rfl, V⟩
    show Rn w mX12_settle (d + 1) G Q 21 [(0, vr 145), (1, vi x1)] [vi x26] (B0, n25)
    refine r_iload_n dX12_settle_21 rfl rfl ?_
    obtain ⟨V1, V2⟩ := V
    refine r_jlt (tgt := 101) dX12_settle_22 (by decide) (fun c27 => ?_) (fun c27 => ?_)
    · have V := V1 c27
      exact r_ret dX12_settle_101 rfl V
    · have V := V2 c27
      refine r_aload_n dX12_settle_25 rfl rfl ?_
      refine r_dup dX12_settle_26 rfl ?_
      refine r_getI (fi := 23) dX12_settle_27 fX12_189 ob_145 (by decide) (by decide) rfl ?_
      refine r_iconst (x := 1) dX12_settle_30 rfl (by decide) ?_
      obtain ⟨s28, V⟩ := V
      refine r_isub dX12_settle_31 s28 ?_
      refine r_putI (fi := 23) (h' := (B0, upn n25 145 23 ((n25 145 23) - 1))) dX12_settle_32 pX12_189 ob_145 (by decide) rfl rfl rfl ?_
      refine r_aload_n dX12_settle_35 rfl rfl ?_
      refine r_getR (b := 154) dX12_settle_36 fX12_39 ob_145 (by decide) rfl rfl ?_
      refine r_aload_n dX12_settle_39 rfl rfl ?_
      refine r_getI (fi := 23) dX12_settle_40 fX12_189 ob_145 (by decide) (by decide) rfl ?_
      show Rn w mX12_settle (d + 1) G Q 43 [(0, vr 145), (1, vi x1)] [vi ((n25 145 23) - 1), vr 154] (B0, upn n25 145 23 ((n25 145 23) - 1))
      obtain ⟨s29, V⟩ := V
      obtain ⟨s30, V⟩ := V
      refine r_iald dX12_settle_43 ob_154 s29 s30 ?_
      show Rn w mX12_settle (d + 1) G Q 44 [(0, vr 145), (1, vi x1)] [vi (n25 154 ((n25 145 23) - 1))] (B0, upn n25 145 23 ((n25 145 23) - 1))
      refine r_bipush (x := 28) dX12_settle_44 (by decide +kernel) (by decide) ?_
      obtain ⟨V1, V2⟩ := V
      refine r_jeq (tgt := 63) dX12_settle_46 (by decide) (fun c31 => ?_) (fun c31 => ?_)
      · have V := V1 c31
        exact V
      · have V := V2 c31
        refine r_aload_n dX12_settle_49 rfl rfl ?_
        refine r_getR (b := 154) dX12_settle_50 fX12_39 ob_145 (by decide) rfl rfl ?_
        refine r_aload_n dX12_settle_53 rfl rfl ?_
        refine r_getI (fi := 23) dX12_settle_54 fX12_189 ob_145 (by decide) (by decide) rfl ?_
        show Rn w mX12_settle (d + 1) G Q 57 [(0, vr 145), (1, vi x1)] [vi ((n25 145 23) - 1), vr 154] (B0, upn n25 145 23 ((n25 145 23) - 1))
        obtain ⟨s32, V⟩ := V
        obtain ⟨s33, V⟩ := V
        refine r_iald dX12_settle_57 ob_154 s32 s33 ?_
        show Rn w mX12_settle (d + 1) G Q 58 [(0, vr 145), (1, vi x1)] [vi (n25 154 ((n25 145 23) - 1))] (B0, upn n25 145 23 ((n25 145 23) - 1))
        refine r_bipush (x := 29) dX12_settle_58 (by decide +kernel) (by decide) ?_
        obtain ⟨V1, V2⟩ := V
        refine r_jne (tgt := 84) dX12_settle_60 (by decide) (fun c34 => ?_) (fun c34 => ?_)
        · have V := V1 c34
          refine r_aload_n dX12_settle_84 rfl rfl ?_
          refine r_aload_n dX12_settle_85 rfl rfl ?_
          refine r_getR (b := 154) dX12_settle_86 fX12_39 ob_145 (by decide) rfl rfl ?_
          refine r_aload_n dX12_settle_89 rfl rfl ?_
          refine r_getI (fi := 23) dX12_settle_90 fX12_189 ob_145 (by decide) (by decide) rfl ?_
          show Rn w mX12_settle (d + 1) G Q 93 [(0, vr 145), (1, vi x1)] [vi ((n25 145 23) - 1), vr 154, vr 145] (B0, upn n25 145 23 ((n25 145 23) - 1))
          obtain ⟨s35, V⟩ := V
          obtain ⟨s36, V⟩ := V
          refine r_iald dX12_settle_93 ob_154 s35 s36 ?_
          show Rn w mX12_settle (d + 1) G Q 94 [(0, vr 145), (1, vi x1)] [vi (n25 154 ((n25 145 23) - 1)), vr 145] (B0, upn n25 145 23 ((n25 145 23) - 1))
          refine r_iconst (x := 0) dX12_settle_94 rfl (by decide) ?_
          refine r_callV (args := [vi (n25 154 ((n25 145 23) - 1)), vi 0]) dX12_settle_95 kX12_195 ob_145 ⟨_, _, rfl⟩ (by decide) rfl rfl (Nat.le_of_ble_eq_true rfl) cap0 (Ev.mono V ?_)
          rintro r h' ⟨n37, rfl, rfl, V⟩
          show Rn w mX12_settle (d + 1) G Q 98 [(0, vr 145), (1, vi x1)] [] (B0, n37)
          refine r_goto (tgt := 0) dX12_settle_98 (by decide) ?_
          exact V
        · have V := V2 c34
          exact V

theorem gX12_settle_63 {w : WD} {d : Nat} {G : GM} {Q : Option AV → Hp → Prop} {n : NM} {x1 : Int}
    (V :
    (0 ≤ n 145 23) ∧
    (n 145 23 < 400) ∧
    (0 ≤ n 155 (n 145 23)) ∧
    (n 155 (n 145 23) < 400) ∧
    Rn w mX12_settle d G Q 0 [(0, vr 145), (1, vi x1)] [] (B0, upn n 153 (n 155 (n 145 23)) (n 145 17))) :
    Rn w mX12_settle d G Q 63 [(0, vr 145), (1, vi x1)] [] (B0, n) := by
  refine r_aload_n dX12_settle_63 rfl rfl ?_
  refine r_getR (b := 153) dX12_settle_64 fX12_36 ob_145 (by decide) rfl rfl ?_
  refine r_aload_n dX12_settle_67 rfl rfl ?_
  refine r_getR (b := 155) dX12_settle_68 fX12_42 ob_145 (by decide) rfl rfl ?_
  refine r_aload_n dX12_settle_71 rfl rfl ?_
  refine r_getI (fi := 23) dX12_settle_72 fX12_189 ob_145 (by decide) (by decide) rfl ?_
  obtain ⟨s21, V⟩ := V
  obtain ⟨s22, V⟩ := V
  refine r_iald dX12_settle_75 ob_155 s21 s22 ?_
  refine r_aload_n dX12_settle_76 rfl rfl ?_
  refine r_getI (fi := 17) dX12_settle_77 fX12_186 ob_145 (by decide) (by decide) rfl ?_
  obtain ⟨s23, V⟩ := V
  obtain ⟨s24, V⟩ := V
  refine r_iast (h' := (B0, upn n 153 (n 155 (n 145 23)) (n 145 17))) dX12_settle_80 ob_153 s23 s24 rfl ?_
  refine r_goto (tgt := 0) dX12_settle_81 (by decide) ?_
  exact V

theorem gX12_inner_0 {w : WD} {d : Nat} {G : GM} {Q : Option AV → Hp → Prop} {n : NM}
    (V :
    Rn w mX12_inner d G Q 4 [(0, vr 145), (1, vi (-1)), (2, vi 0)] [] (B0, n)) :
    Rn w mX12_inner d G Q 0 [(0, vr 145)] [] (B0, n) := by
  refine r_iconst (x := -1) dX12_inner_0 rfl (by decide) ?_
  refine r_istore_n (ls' := [(0, vr 145), (1, vi (-1))]) dX12_inner_1 rfl (by decide) rfl ?_
  refine r_iconst (x := 0) dX12_inner_2 rfl (by decide) ?_
  refine r_istore_n (ls' := [(0, vr 145), (1, vi (-1)), (2, vi 0)]) dX12_inner_3 rfl (by decide) rfl ?_
  exact V

theorem gX12_inner_4 {w : WD} {d : Nat} {G : GM} {Q : Option AV → Hp → Prop} {n : NM} {x1 x2 : Int}
    (V :
    ((n 145 23 ≤ x2 →
      Q (some (vi x1)) (B0, n)) ∧
    (x2 < n 145 23 →
      (0 ≤ x2) ∧
      (x2 < 400) ∧
      (30 ≤ n 154 x2 → 0 ≤ x2) ∧
      (30 ≤ n 154 x2 → x2 < 400) ∧
      (∀ z27 : Int, z27 = (if n 154 x2 < 30 then x1 else n 154 x2) → 
      (inI (x2 + 1)) ∧
      Rn w mX12_inner d G Q 4 [(0, vr 145), (1, vi z27), (2, vi (x2 + 1))] [] (B0, n))))) :
    Rn w mX12_inner d G Q 4 [(0, vr 145), (1, vi x1), (2, vi x2)] [] (B0, n) := by
  refine r_iload_n dX12_inner_4 rfl rfl ?_
  refine r_aload_n dX12_inner_5 rfl rfl ?_
  refine r_getI (fi := 23) dX12_inner_6 fX12_189 ob_145 (by decide) (by decide) rfl ?_
  obtain ⟨V1, V2⟩ := V
  refine r_jge (tgt := 40) dX12_inner_9 (by decide) (fun c21 => ?_) (fun c21 => ?_)
  · have V := V1 c21
    refine r_iload_n dX12_inner_40 rfl rfl ?_
    exact r_iret dX12_inner_41 rfl V
  · have V := V2 c21
    refine r_aload_n dX12_inner_12 rfl rfl ?_
    refine r_getR (b := 154) dX12_inner_13 fX12_39 ob_145 (by decide) rfl rfl ?_
    refine r_iload_n dX12_inner_16 rfl rfl ?_
    obtain ⟨s22, V⟩ := V
    obtain ⟨s23, V⟩ := V
    refine r_iald dX12_inner_17 ob_154 s22 s23 ?_
    refine r_bipush (x := 30) dX12_inner_18 (by decide +kernel) (by decide) ?_
    obtain ⟨s25, V⟩ := V
    obtain ⟨s26, V⟩ := V
    have K : ∀ z27 : Int, z27 = (if n 154 x2 < 30 then x1 else n 154 x2) → Rn w mX12_inner d G Q 33 [(0, vr 145), (2, vi x2)] [vi z27] (B0, n) := by
      intro z27 ez27
      have V := V z27 ez27
      refine r_istore_n (ls' := [(0, vr 145), (1, vi z27), (2, vi x2)]) dX12_inner_33 rfl (by decide) rfl ?_
      obtain ⟨s28, V⟩ := V
      refine r_iinc (y := x2 + 1) (ls' := [(0, vr 145), (1, vi z27), (2, vi (x2 + 1))]) dX12_inner_34 rfl rfl s28 (by decide) rfl ?_
      refine r_goto (tgt := 4) dX12_inner_37 (by decide) ?_
      exact V
    refine r_jlt (tgt := 32) dX12_inner_20 (by decide) (fun c24 => ?_) (fun c24 => ?_)
    · refine r_iload_n dX12_inner_32 rfl rfl ?_
      refine r_pick [0, 2] (ls' := [(0, vr 145), (2, vi x2)]) rfl ?_
      exact K x1 (by first | rfl | (simp only [if_pos c24]))
    · refine r_aload_n dX12_inner_23 rfl rfl ?_
      refine r_getR (b := 154) dX12_inner_24 fX12_39 ob_145 (by decide) rfl rfl ?_
      refine r_iload_n dX12_inner_27 rfl rfl ?_
      refine r_iald dX12_inner_28 ob_154 (s25 c24) (s26 c24) ?_
      refine r_goto (tgt := 33) dX12_inner_29 (by decide) ?_
      refine r_pick [0, 2] (ls' := [(0, vr 145), (2, vi x2)]) rfl ?_
      exact K (n 154 x2) (by first | rfl | (simp only [if_neg (Int.not_lt.mpr c24)]))

theorem gX12_isCompared_0 {w : WD} {d : Nat} {G : GM} {Q : Option AV → Hp → Prop} {n : NM}
    (V :
    (inI ((n 145 23) - 1)) ∧
    Rn w mX12_isCompared d G Q 7 [(0, vr 145), (1, vi ((n 145 23) - 1))] [] (B0, n)) :
    Rn w mX12_isCompared d G Q 0 [(0, vr 145)] [] (B0, n) := by
  refine r_aload_n dX12_isCompared_0 rfl rfl ?_
  refine r_getI (fi := 23) dX12_isCompared_1 fX12_189 ob_145 (by decide) (by decide) rfl ?_
  refine r_iconst (x := 1) dX12_isCompared_4 rfl (by decide) ?_
  obtain ⟨s21, V⟩ := V
  refine r_isub dX12_isCompared_5 s21 ?_
  refine r_istore_n (ls' := [(0, vr 145), (1, vi ((n 145 23) - 1))]) dX12_isCompared_6 rfl (by decide) rfl ?_
  exact V

theorem gX12_isCompared_7 {w : WD} {d : Nat} {G : GM} {Q : Option AV → Hp → Prop} {n : NM} {x1 : Int}
    (V :
    ((x1 < 0 →
      Rn w mX12_isCompared (d + 1) G Q 36 [(0, vr 145), (1, vi x1)] [] (B0, n)) ∧
    (0 ≤ x1 →
      (0 ≤ x1) ∧
      (x1 < 400) ∧
      (Ev w d 0 0 mX12_in [vl (n 154 x1), vl 20, vl 23] (B0, n) (fun r h' => ∃ (x25 : Int) (n24 : NM), r = some (vi x25) ∧ h' = (B0, n24) ∧ 
        ((x25 = 0 →
          Rn w mX12_isCompared (d + 1) G Q 36 [(0, vr 145), (1, vi x1)] [] (B0, n24)) ∧
        (x25 ≠ 0 →
          (inI (x1 + (-1))) ∧
          Rn w mX12_isCompared (d + 1) G Q 7 [(0, vr 145), (1, vi (x1 + (-1)))] [] (B0, n24)))))))) :
    Rn w mX12_isCompared (d + 1) G Q 7 [(0, vr 145), (1, vi x1)] [] (B0, n) := by
  refine r_iload_n dX12_isCompared_7 rfl rfl ?_
  obtain ⟨V1, V2⟩ := V
  refine r_zlt (tgt := 36) dX12_isCompared_8 (by decide) (fun c21 => ?_) (fun c21 => ?_)
  · have V := V1 c21
    exact V
  · have V := V2 c21
    refine r_aload_n dX12_isCompared_11 rfl rfl ?_
    refine r_getR (b := 154) dX12_isCompared_12 fX12_39 ob_145 (by decide) rfl rfl ?_
    refine r_iload_n dX12_isCompared_15 rfl rfl ?_
    obtain ⟨s22, V⟩ := V
    obtain ⟨s23, V⟩ := V
    refine r_iald dX12_isCompared_16 ob_154 s22 s23 ?_
    refine r_i2l dX12_isCompared_17 ?_
    refine r_ldc2 (x := 20) dX12_isCompared_18 qX12_199 (by decide) ?_
    refine r_ldc2 (x := 23) dX12_isCompared_21 qX12_94 (by decide) ?_
    refine r_callS (args := [vl (n 154 x1), vl 20, vl 23]) dX12_isCompared_24 kX12_82 rfl rfl (Nat.le_of_ble_eq_true rfl) cap0 (Ev.mono V ?_)
    rintro r h' ⟨x25, n24, rfl, rfl, V⟩
    show Rn w mX12_isCompared (d + 1) G Q 27 [(0, vr 145), (1, vi x1)] [vi x25] (B0, n24)
    obtain ⟨V1, V2⟩ := V
    refine r_zeq (tgt := 36) dX12_isCompared_27 (by decide) (fun c26 => ?_) (fun c26 => ?_)
    · have V := V1 c26
      exact V
    · have V := V2 c26
      obtain ⟨s27, V⟩ := V
      refine r_iinc (y := x1 + (-1)) (ls' := [(0, vr 145), (1, vi (x1 + (-1)))]) dX12_isCompared_30 rfl rfl s27 (by decide) rfl ?_
      refine r_goto (tgt := 7) dX12_isCompared_33 (by decide) ?_
      exact V

theorem gX12_isCompared_36 {w : WD} {d : Nat} {G : GM} {Q : Option AV → Hp → Prop} {n : NM} {x1 : Int}
    (V :
    ((x1 < 0 →
      Q (some (vi 0)) (B0, n)) ∧
    (0 ≤ x1 →
      (0 ≤ x1) ∧
      (x1 < 400) ∧
      (Ev w d 0 0 mX12_in [vl (n 154 x1), vl 24, vl 26] (B0, n) (fun r h' => ∃ (x25 : Int) (n24 : NM), r = some (vi x25) ∧ h' = (B0, n24) ∧ 
        ((x25 = 0 →
          Q (some (vi 0)) (B0, n24)) ∧
        (x25 ≠ 0 →
          Q (some (vi 1)) (B0, n24)))))))) :
    Rn w mX12_isCompared (d + 1) G Q 36 [(0, vr 145), (1, vi x1)] [] (B0, n) := by
  refine r_iload_n dX12_isCompared_36 rfl rfl ?_
  obtain ⟨V1, V2⟩ := V
  refine r_zlt (tgt := 63) dX12_isCompared_37 (by decide) (fun c21 => ?_) (fun c21 => ?_)
  · have V := V1 c21
    refine r_iconst (x := 0) dX12_isCompared_63 rfl (by decide) ?_
    exact r_zret dX12_isCompared_64 rfl (by decide) V
  · have V := V2 c21
    refine r_aload_n dX12_isCompared_40 rfl rfl ?_
    refine r_getR (b := 154) dX12_isCompared_41 fX12_39 ob_145 (by decide) rfl rfl ?_
    refine r_iload_n dX12_isCompared_44 rfl rfl ?_
    obtain ⟨s22, V⟩ := V
    obtain ⟨s23, V⟩ := V
    refine r_iald dX12_isCompared_45 ob_154 s22 s23 ?_
    refine r_i2l dX12_isCompared_46 ?_
    refine r_ldc2 (x := 24) dX12_isCompared_47 qX12_107 (by decide) ?_
    refine r_ldc2 (x := 26) dX12_isCompared_50 qX12_201 (by decide) ?_
    refine r_callS (args := [vl (n 154 x1), vl 24, vl 26]) dX12_isCompared_53 kX12_82 rfl rfl (Nat.le_of_ble_eq_true rfl) cap0 (Ev.mono V ?_)
    rintro r h' ⟨x25, n24, rfl, rfl, V⟩
    show Rn w mX12_isCompared (d + 1) G Q 56 [(0, vr 145), (1, vi x1)] [vi x25] (B0, n24)
    obtain ⟨V1, V2⟩ := V
    refine r_zeq (tgt := 63) dX12_isCompared_56 (by decide) (fun c26 => ?_) (fun c26 => ?_)
    · have V := V1 c26
      refine r_iconst (x := 0) dX12_isCompared_63 rfl (by decide) ?_
      exact r_zret dX12_isCompared_64 rfl (by decide) V
    · have V := V2 c26
      refine r_iconst (x := 1) dX12_isCompared_59 rfl (by decide) ?_
      refine r_goto (tgt := 64) dX12_isCompared_60 (by decide) ?_
      exact r_zret dX12_isCompared_64 rfl (by decide) V

theorem gX12_partAt_0 {w : WD} {d : Nat} {G : GM} {Q : Option AV → Hp → Prop} {n : NM}
    (V :
    (Ev w d 0 0 mX12_isWord [vr 145, vl 9090579] (B0, n) (fun r h' => ∃ (x22 : Int) (n21 : NM), r = some (vi x22) ∧ h' = (B0, n21) ∧ 
      ((x22 ≠ 0 →
        Rn w mX12_partAt (d + 1) G Q 30 [(0, vr 145)] [] (B0, n21)) ∧
      (x22 = 0 →
        (Ev w d 0 0 mX12_isWord [vr 145, vl 408362632] (B0, n21) (fun r h' => ∃ (x25 : Int) (n24 : NM), r = some (vi x25) ∧ h' = (B0, n24) ∧ 
          ((x25 ≠ 0 →
            Rn w mX12_partAt (d + 1) G Q 30 [(0, vr 145)] [] (B0, n24)) ∧
          (x25 = 0 →
            (Ev w d 0 0 mX12_isWord [vr 145, vl 763332] (B0, n24) (fun r h' => ∃ (x28 : Int) (n27 : NM), r = some (vi x28) ∧ h' = (B0, n27) ∧ 
              ((x28 = 0 →
                (Ev w d 0 0 mX12_isWord [vr 145, vl 71108] (B0, n27) (fun r h' => ∃ (x31 : Int) (n30 : NM), r = some (vi x31) ∧ h' = (B0, n30) ∧ 
                  ((x31 ≠ 0 →
                    Rn w mX12_partAt (d + 1) G Q 90 [(0, vr 145)] [] (B0, n30)) ∧
                  (x31 = 0 →
                    (Ev w d 0 0 mX12_isWord [vr 145, vl 464627] (B0, n30) (fun r h' => ∃ (x34 : Int) (n33 : NM), r = some (vi x34) ∧ h' = (B0, n33) ∧ 
                      ((x34 ≠ 0 →
                        Rn w mX12_partAt (d + 1) G Q 90 [(0, vr 145)] [] (B0, n33)) ∧
                      (x34 = 0 →
                        (Ev w d 0 0 mX12_isWord [vr 145, vl 245189] (B0, n33) (fun r h' => ∃ (x37 : Int) (n36 : NM), r = some (vi x37) ∧ h' = (B0, n36) ∧ 
                          ((x37 = 0 →
                            (Ev w d 0 0 mX12_isWord [vr 145, vl 17171557] (B0, n36) (fun r h' => ∃ (x40 : Int) (n39 : NM), r = some (vi x40) ∧ h' = (B0, n39) ∧ 
                              ((x40 = 0 →
                                (Ev w d 0 0 mX12_isWord [vr 145, vl 446125701] (B0, n39) (fun r h' => ∃ (x43 : Int) (n42 : NM), r = some (vi x43) ∧ h' = (B0, n42) ∧ 
                                  ((x43 = 0 →
                                    (Ev w d 0 0 mX12_isWord [vr 145, vl 394885] (B0, n42) (fun r h' => ∃ (x46 : Int) (n45 : NM), r = some (vi x46) ∧ h' = (B0, n45) ∧ 
                                      ((x46 = 0 →
                                        Q (some (vi (-1))) (B0, n45)) ∧
                                      (x46 ≠ 0 →
                                        Q (some (vi 9)) (B0, n45)))))) ∧
                                  (x43 ≠ 0 →
                                    Q (some (vi 8)) (B0, n42)))))) ∧
                              (x40 ≠ 0 →
                                Q (some (vi 7)) (B0, n39)))))) ∧
                          (x37 ≠ 0 →
                            Rn w mX12_partAt (d + 1) G Q 90 [(0, vr 145)] [] (B0, n36)))))))))))))) ∧
              (x28 ≠ 0 →
                Rn w mX12_partAt (d + 1) G Q 30 [(0, vr 145)] [] (B0, n27)))))))))))))) :
    Rn w mX12_partAt (d + 1) G Q 0 [(0, vr 145)] [] (B0, n) := by
  refine r_aload_n dX12_partAt_0 rfl rfl ?_
  refine r_ldc2 (x := 9090579) dX12_partAt_1 qX12_203 (by decide) ?_
  refine r_callV (args := [vl 9090579]) dX12_partAt_4 kX12_205 ob_145 ⟨_, _, rfl⟩ (by decide) rfl rfl (Nat.le_of_ble_eq_true rfl) cap0 (Ev.mono V ?_)
  rintro r h' ⟨x22, n21, rfl, rfl, V⟩
  show Rn w mX12_partAt (d + 1) G Q 7 [(0, vr 145)] [vi x22] (B0, n21)
  obtain ⟨V1, V2⟩ := V
  refine r_zne (tgt := 30) dX12_partAt_7 (by decide) (fun c23 => ?_) (fun c23 => ?_)
  · have V := V1 c23
    exact V
  · have V := V2 c23
    refine r_aload_n dX12_partAt_10 rfl rfl ?_
    refine r_ldc2 (x := 408362632) dX12_partAt_11 qX12_209 (by decide) ?_
    refine r_callV (args := [vl 408362632]) dX12_partAt_14 kX12_205 ob_145 ⟨_, _, rfl⟩ (by decide) rfl rfl (Nat.le_of_ble_eq_true rfl) cap0 (Ev.mono V ?_)
    rintro r h' ⟨x25, n24, rfl, rfl, V⟩
    show Rn w mX12_partAt (d + 1) G Q 17 [(0, vr 145)] [vi x25] (B0, n24)
    obtain ⟨V1, V2⟩ := V
    refine r_zne (tgt := 30) dX12_partAt_17 (by decide) (fun c26 => ?_) (fun c26 => ?_)
    · have V := V1 c26
      exact V
    · have V := V2 c26
      refine r_aload_n dX12_partAt_20 rfl rfl ?_
      refine r_ldc2 (x := 763332) dX12_partAt_21 qX12_211 (by decide) ?_
      refine r_callV (args := [vl 763332]) dX12_partAt_24 kX12_205 ob_145 ⟨_, _, rfl⟩ (by decide) rfl rfl (Nat.le_of_ble_eq_true rfl) cap0 (Ev.mono V ?_)
      rintro r h' ⟨x28, n27, rfl, rfl, V⟩
      show Rn w mX12_partAt (d + 1) G Q 27 [(0, vr 145)] [vi x28] (B0, n27)
      obtain ⟨V1, V2⟩ := V
      refine r_zeq (tgt := 60) dX12_partAt_27 (by decide) (fun c29 => ?_) (fun c29 => ?_)
      · have V := V1 c29
        refine r_aload_n dX12_partAt_60 rfl rfl ?_
        refine r_ldc2 (x := 71108) dX12_partAt_61 qX12_213 (by decide) ?_
        refine r_callV (args := [vl 71108]) dX12_partAt_64 kX12_205 ob_145 ⟨_, _, rfl⟩ (by decide) rfl rfl (Nat.le_of_ble_eq_true rfl) cap0 (Ev.mono V ?_)
        rintro r h' ⟨x31, n30, rfl, rfl, V⟩
        show Rn w mX12_partAt (d + 1) G Q 67 [(0, vr 145)] [vi x31] (B0, n30)
        obtain ⟨V1, V2⟩ := V
        refine r_zne (tgt := 90) dX12_partAt_67 (by decide) (fun c32 => ?_) (fun c32 => ?_)
        · have V := V1 c32
          exact V
        · have V := V2 c32
          refine r_aload_n dX12_partAt_70 rfl rfl ?_
          refine r_ldc2 (x := 464627) dX12_partAt_71 qX12_215 (by decide) ?_
          refine r_callV (args := [vl 464627]) dX12_partAt_74 kX12_205 ob_145 ⟨_, _, rfl⟩ (by decide) rfl rfl (Nat.le_of_ble_eq_true rfl) cap0 (Ev.mono V ?_)
          rintro r h' ⟨x34, n33, rfl, rfl, V⟩
          show Rn w mX12_partAt (d + 1) G Q 77 [(0, vr 145)] [vi x34] (B0, n33)
          obtain ⟨V1, V2⟩ := V
          refine r_zne (tgt := 90) dX12_partAt_77 (by decide) (fun c35 => ?_) (fun c35 => ?_)
          · have V := V1 c35
            exact V
          · have V := V2 c35
            refine r_aload_n dX12_partAt_80 rfl rfl ?_
            refine r_ldc2 (x := 245189) dX12_partAt_81 qX12_217 (by decide) ?_
            refine r_callV (args := [vl 245189]) dX12_partAt_84 kX12_205 ob_145 ⟨_, _, rfl⟩ (by decide) rfl rfl (Nat.le_of_ble_eq_true rfl) cap0 (Ev.mono V ?_)
            rintro r h' ⟨x37, n36, rfl, rfl, V⟩
            show Rn w mX12_partAt (d + 1) G Q 87 [(0, vr 145)] [vi x37] (B0, n36)
            obtain ⟨V1, V2⟩ := V
            refine r_zeq (tgt := 121) dX12_partAt_87 (by decide) (fun c38 => ?_) (fun c38 => ?_)
            · have V := V1 c38
              refine r_aload_n dX12_partAt_121 rfl rfl ?_
              refine r_ldc2 (x := 17171557) dX12_partAt_122 qX12_219 (by decide) ?_
              refine r_callV (args := [vl 17171557]) dX12_partAt_125 kX12_205 ob_145 ⟨_, _, rfl⟩ (by decide) rfl rfl (Nat.le_of_ble_eq_true rfl) cap0 (Ev.mono V ?_)
              rintro r h' ⟨x40, n39, rfl, rfl, V⟩
              show Rn w mX12_partAt (d + 1) G Q 128 [(0, vr 145)] [vi x40] (B0, n39)
              obtain ⟨V1, V2⟩ := V
              refine r_zeq (tgt := 136) dX12_partAt_128 (by decide) (fun c41 => ?_) (fun c41 => ?_)
              · have V := V1 c41
                refine r_aload_n dX12_partAt_136 rfl rfl ?_
                refine r_ldc2 (x := 446125701) dX12_partAt_137 qX12_221 (by decide) ?_
                refine r_callV (args := [vl 446125701]) dX12_partAt_140 kX12_205 ob_145 ⟨_, _, rfl⟩ (by decide) rfl rfl (Nat.le_of_ble_eq_true rfl) cap0 (Ev.mono V ?_)
                rintro r h' ⟨x43, n42, rfl, rfl, V⟩
                show Rn w mX12_partAt (d + 1) G Q 143 [(0, vr 145)] [vi x43] (B0, n42)
                obtain ⟨V1, V2⟩ := V
                refine r_zeq (tgt := 151) dX12_partAt_143 (by decide) (fun c44 => ?_) (fun c44 => ?_)
                · have V := V1 c44
                  refine r_aload_n dX12_partAt_151 rfl rfl ?_
                  refine r_ldc2 (x := 394885) dX12_partAt_152 qX12_223 (by decide) ?_
                  refine r_callV (args := [vl 394885]) dX12_partAt_155 kX12_205 ob_145 ⟨_, _, rfl⟩ (by decide) rfl rfl (Nat.le_of_ble_eq_true rfl) cap0 (Ev.mono V ?_)
                  rintro r h' ⟨x46, n45, rfl, rfl, V⟩
                  show Rn w mX12_partAt (d + 1) G Q 158 [(0, vr 145)] [vi x46] (B0, n45)
                  obtain ⟨V1, V2⟩ := V
                  refine r_zeq (tgt := 166) dX12_partAt_158 (by decide) (fun c47 => ?_) (fun c47 => ?_)
                  · have V := V1 c47
                    refine r_iconst (x := -1) dX12_partAt_166 rfl (by decide) ?_
                    exact r_iret dX12_partAt_167 rfl V
                  · have V := V2 c47
                    refine r_bipush (x := 9) dX12_partAt_161 (by decide +kernel) (by decide) ?_
                    refine r_goto (tgt := 167) dX12_partAt_163 (by decide) ?_
                    exact r_iret dX12_partAt_167 rfl V
                · have V := V2 c44
                  refine r_bipush (x := 8) dX12_partAt_146 (by decide +kernel) (by decide) ?_
                  refine r_goto (tgt := 167) dX12_partAt_148 (by decide) ?_
                  exact r_iret dX12_partAt_167 rfl V
              · have V := V2 c41
                refine r_bipush (x := 7) dX12_partAt_131 (by decide +kernel) (by decide) ?_
                refine r_goto (tgt := 167) dX12_partAt_133 (by decide) ?_
                exact r_iret dX12_partAt_167 rfl V
            · have V := V2 c38
              exact V
      · have V := V2 c29
        exact V

theorem gX12_partAt_30 {w : WD} {d : Nat} {G : GM} {Q : Option AV → Hp → Prop} {n : NM}
    (V :
    (Ev w d 0 0 mX12_isWord [vr 145, vl 9090579] (B0, n) (fun r h' => ∃ (x22 : Int) (n21 : NM), r = some (vi x22) ∧ h' = (B0, n21) ∧ 
      ((x22 = 0 →
        (Ev w d 0 0 mX12_isWord [vr 145, vl 408362632] (B0, n21) (fun r h' => ∃ (x25 : Int) (n24 : NM), r = some (vi x25) ∧ h' = (B0, n24) ∧ 
          ((x25 = 0 →
            Q (some (vi 3)) (B0, n24)) ∧
          (x25 ≠ 0 →
            Q (some (vi 2)) (B0, n24)))))) ∧
      (x22 ≠ 0 →
        Q (some (vi 1)) (B0, n21)))))) :
    Rn w mX12_partAt (d + 1) G Q 30 [(0, vr 145)] [] (B0, n) := by
  refine r_aload_n dX12_partAt_30 rfl rfl ?_
  refine r_ldc2 (x := 9090579) dX12_partAt_31 qX12_203 (by decide) ?_
  refine r_callV (args := [vl 9090579]) dX12_partAt_34 kX12_205 ob_145 ⟨_, _, rfl⟩ (by decide) rfl rfl (Nat.le_of_ble_eq_true rfl) cap0 (Ev.mono V ?_)
  rintro r h' ⟨x22, n21, rfl, rfl, V⟩
  show Rn w mX12_partAt (d + 1) G Q 37 [(0, vr 145)] [vi x22] (B0, n21)
  obtain ⟨V1, V2⟩ := V
  refine r_zeq (tgt := 44) dX12_partAt_37 (by decide) (fun c23 => ?_) (fun c23 => ?_)
  · have V := V1 c23
    refine r_aload_n dX12_partAt_44 rfl rfl ?_
    refine r_ldc2 (x := 408362632) dX12_partAt_45 qX12_209 (by decide) ?_
    refine r_callV (args := [vl 408362632]) dX12_partAt_48 kX12_205 ob_145 ⟨_, _, rfl⟩ (by decide) rfl rfl (Nat.le_of_ble_eq_true rfl) cap0 (Ev.mono V ?_)
    rintro r h' ⟨x25, n24, rfl, rfl, V⟩
    show Rn w mX12_partAt (d + 1) G Q 51 [(0, vr 145)] [vi x25] (B0, n24)
    obtain ⟨V1, V2⟩ := V
    refine r_zeq (tgt := 58) dX12_partAt_51 (by decide) (fun c26 => ?_) (fun c26 => ?_)
    · have V := V1 c26
      refine r_iconst (x := 3) dX12_partAt_58 rfl (by decide) ?_
      exact r_iret dX12_partAt_59 rfl V
    · have V := V2 c26
      refine r_iconst (x := 2) dX12_partAt_54 rfl (by decide) ?_
      refine r_goto (tgt := 59) dX12_partAt_55 (by decide) ?_
      exact r_iret dX12_partAt_59 rfl V
  · have V := V2 c23
    refine r_iconst (x := 1) dX12_partAt_40 rfl (by decide) ?_
    refine r_goto (tgt := 59) dX12_partAt_41 (by decide) ?_
    exact r_iret dX12_partAt_59 rfl V

theorem gX12_partAt_90 {w : WD} {d : Nat} {G : GM} {Q : Option AV → Hp → Prop} {n : NM}
    (V :
    (Ev w d 0 0 mX12_isWord [vr 145, vl 71108] (B0, n) (fun r h' => ∃ (x22 : Int) (n21 : NM), r = some (vi x22) ∧ h' = (B0, n21) ∧ 
      ((x22 = 0 →
        (Ev w d 0 0 mX12_isWord [vr 145, vl 464627] (B0, n21) (fun r h' => ∃ (x25 : Int) (n24 : NM), r = some (vi x25) ∧ h' = (B0, n24) ∧ 
          ((x25 = 0 →
            Q (some (vi 6)) (B0, n24)) ∧
          (x25 ≠ 0 →
            Q (some (vi 5)) (B0, n24)))))) ∧
      (x22 ≠ 0 →
        Q (some (vi 4)) (B0, n21)))))) :
    Rn w mX12_partAt (d + 1) G Q 90 [(0, vr 145)] [] (B0, n) := by
  refine r_aload_n dX12_partAt_90 rfl rfl ?_
  refine r_ldc2 (x := 71108) dX12_partAt_91 qX12_213 (by decide) ?_
  refine r_callV (args := [vl 71108]) dX12_partAt_94 kX12_205 ob_145 ⟨_, _, rfl⟩ (by decide) rfl rfl (Nat.le_of_ble_eq_true rfl) cap0 (Ev.mono V ?_)
  rintro r h' ⟨x22, n21, rfl, rfl, V⟩
  show Rn w mX12_partAt (d + 1) G Q 97 [(0, vr 145)] [vi x22] (B0, n21)
  obtain ⟨V1, V2⟩ := V
  refine r_zeq (tgt := 104) dX12_partAt_97 (by decide) (fun c23 => ?_) (fun c23 => ?_)
  · have V := V1 c23
    refine r_aload_n dX12_partAt_104 rfl rfl ?_
    refine r_ldc2 (x := 464627) dX12_partAt_105 qX12_215 (by decide) ?_
    refine r_callV (args := [vl 464627]) dX12_partAt_108 kX12_205 ob_145 ⟨_, _, rfl⟩ (by decide) rfl rfl (Nat.le_of_ble_eq_true rfl) cap0 (Ev.mono V ?_)
    rintro r h' ⟨x25, n24, rfl, rfl, V⟩
    show Rn w mX12_partAt (d + 1) G Q 111 [(0, vr 145)] [vi x25] (B0, n24)
    obtain ⟨V1, V2⟩ := V
    refine r_zeq (tgt := 118) dX12_partAt_111 (by decide) (fun c26 => ?_) (fun c26 => ?_)
    · have V := V1 c26
      refine r_bipush (x := 6) dX12_partAt_118 (by decide +kernel) (by decide) ?_
      exact r_iret dX12_partAt_120 rfl V
    · have V := V2 c26
      refine r_iconst (x := 5) dX12_partAt_114 rfl (by decide) ?_
      refine r_goto (tgt := 120) dX12_partAt_115 (by decide) ?_
      exact r_iret dX12_partAt_120 rfl V
  · have V := V2 c23
    refine r_iconst (x := 4) dX12_partAt_100 rfl (by decide) ?_
    refine r_goto (tgt := 120) dX12_partAt_101 (by decide) ?_
    exact r_iret dX12_partAt_120 rfl V

theorem gX12_openBracket_0 {w : WD} {d : Nat} {G : GM} {Q : Option AV → Hp → Prop} {n : NM} {x1 : Int}
    (V :
    (∀ z22 : Int, z22 = (if 8 ≤ n 145 24 then 0 else 1) → 
    (Ev w d 0 0 mX12_must [vr 145, vi z22] (B0, n) (fun r h' => ∃ n23 : NM, r = none ∧ h' = (B0, n23) ∧ 
      ((n23 145 14 ≠ 0 →
        Q none (B0, n23)) ∧
      (n23 145 14 = 0 →
        (inI ((n23 145 24) + 1)) ∧
        (Ev w d 0 0 mX12_push [vr 145, vi x1, vi 0] (B0, upn n23 145 24 ((n23 145 24) + 1)) (fun r h' => ∃ n26 : NM, r = none ∧ h' = (B0, n26) ∧ 
          Q none (B0, n26))))))))) :
    Rn w mX12_openBracket (d + 1) G Q 0 [(0, vr 145), (1, vi x1)] [] (B0, n) := by
  refine r_aload_n dX12_openBracket_0 rfl rfl ?_
  refine r_aload_n dX12_openBracket_1 rfl rfl ?_
  refine r_getI (fi := 24) dX12_openBracket_2 fX12_225 ob_145 (by decide) (by decide) rfl ?_
  refine r_bipush (x := 8) dX12_openBracket_5 (by decide +kernel) (by decide) ?_
  have K : ∀ z22 : Int, z22 = (if 8 ≤ n 145 24 then 0 else 1) → Rn w mX12_openBracket (d + 1) G Q 15 [(0, vr 145), (1, vi x1)] [vi z22, vr 145] (B0, n) := by
    intro z22 ez22
    have V := V z22 ez22
    refine r_callV (args := [vi z22]) dX12_openBracket_15 kX12_182 ob_145 ⟨_, _, rfl⟩ (by decide) rfl rfl (Nat.le_of_ble_eq_true rfl) cap0 (Ev.mono V ?_)
    rintro r h' ⟨n23, rfl, rfl, V⟩
    show Rn w mX12_openBracket (d + 1) G Q 18 [(0, vr 145), (1, vi x1)] [] (B0, n23)
    refine r_aload_n dX12_openBracket_18 rfl rfl ?_
    refine r_getI (fi := 14) dX12_openBracket_19 fX12_147 ob_145 (by decide) (by decide) rfl ?_
    obtain ⟨V1, V2⟩ := V
    refine r_zne (tgt := 41) dX12_openBracket_22 (by decide) (fun c24 => ?_) (fun c24 => ?_)
    · have V := V1 c24
      exact r_ret dX12_openBracket_41 rfl V
    · have V := V2 c24
      refine r_aload_n dX12_openBracket_25 rfl rfl ?_
      refine r_dup dX12_openBracket_26 rfl ?_
      refine r_getI (fi := 24) dX12_openBracket_27 fX12_225 ob_145 (by decide) (by decide) rfl ?_
      refine r_iconst (x := 1) dX12_openBracket_30 rfl (by decide) ?_
      obtain ⟨s25, V⟩ := V
      refine r_iadd dX12_openBracket_31 s25 ?_
      refine r_putI (fi := 24) (h' := (B0, upn n23 145 24 ((n23 145 24) + 1))) dX12_openBracket_32 pX12_225 ob_145 (by decide) rfl rfl rfl ?_
      refine r_aload_n dX12_openBracket_35 rfl rfl ?_
      refine r_iload_n dX12_openBracket_36 rfl rfl ?_
      refine r_iconst (x := 0) dX12_openBracket_37 rfl (by decide) ?_
      refine r_callV (args := [vi x1, vi 0]) dX12_openBracket_38 kX12_228 ob_145 ⟨_, _, rfl⟩ (by decide) rfl rfl (Nat.le_of_ble_eq_true rfl) cap0 (Ev.mono V ?_)
      rintro r h' ⟨n26, rfl, rfl, V⟩
      show Rn w mX12_openBracket (d + 1) G Q 41 [(0, vr 145), (1, vi x1)] [] (B0, n26)
      exact r_ret dX12_openBracket_41 rfl V
  refine r_jge (tgt := 14) dX12_openBracket_7 (by decide) (fun c21 => ?_) (fun c21 => ?_)
  · refine r_iconst (x := 0) dX12_openBracket_14 rfl (by decide) ?_
    exact K 0 (by first | rfl | (simp only [if_pos c21]))
  · refine r_iconst (x := 1) dX12_openBracket_10 rfl (by decide) ?_
    refine r_goto (tgt := 15) dX12_openBracket_11 (by decide) ?_
    exact K 1 (by first | rfl | (simp only [if_neg (Int.not_le.mpr c21)]))

theorem gX12_leaf_0 {w : WD} {d : Nat} {G : GM} {Q : Option AV → Hp → Prop} {n : NM} {x1 x2 x3 : Int}
    (V :
    (∀ z23 : Int, z23 = (if x1 = 0 then 0 else (if 50 ≤ n 145 20 then 0 else 1)) → 
    (Ev w d 0 0 mX12_must [vr 145, vi z23] (B0, n) (fun r h' => ∃ n24 : NM, r = none ∧ h' = (B0, n24) ∧ 
      ((n24 145 14 ≠ 0 →
        Q none (B0, n24)) ∧
      (n24 145 14 = 0 →
        (Ev w d 0 0 mX12_emit [vr 145, vi x2, vi x3] (B0, n24) (fun r h' => ∃ n26 : NM, r = none ∧ h' = (B0, n26) ∧ 
          (inI ((n26 145 20) + 1)) ∧
          Q none (B0, upn n26 145 20 ((n26 145 20) + 1)))))))))) :
    Rn w mX12_leaf (d + 1) G Q 0 [(0, vr 145), (1, vi x1), (2, vi x2), (3, vi x3)] [] (B0, n) := by
  refine r_aload_n dX12_leaf_0 rfl rfl ?_
  refine r_iload_n dX12_leaf_1 rfl rfl ?_
  have K : ∀ z23 : Int, z23 = (if x1 = 0 then 0 else (if 50 ≤ n 145 20 then 0 else 1)) → Rn w mX12_leaf (d + 1) G Q 19 [(0, vr 145), (2, vi x2), (3, vi x3)] [vi z23, vr 145] (B0, n) := by
    intro z23 ez23
    have V := V z23 ez23
    refine r_callV (args := [vi z23]) dX12_leaf_19 kX12_182 ob_145 ⟨_, _, rfl⟩ (by decide) rfl rfl (Nat.le_of_ble_eq_true rfl) cap0 (Ev.mono V ?_)
    rintro r h' ⟨n24, rfl, rfl, V⟩
    show Rn w mX12_leaf (d + 1) G Q 22 [(0, vr 145), (2, vi x2), (3, vi x3)] [] (B0, n24)
    refine r_aload_n dX12_leaf_22 rfl rfl ?_
    refine r_getI (fi := 14) dX12_leaf_23 fX12_147 ob_145 (by decide) (by decide) rfl ?_
    obtain ⟨V1, V2⟩ := V
    refine r_zne (tgt := 45) dX12_leaf_26 (by decide) (fun c25 => ?_) (fun c25 => ?_)
    · have V := V1 c25
      exact r_ret dX12_leaf_45 rfl V
    · have V := V2 c25
      refine r_aload_n dX12_leaf_29 rfl rfl ?_
      refine r_iload_n dX12_leaf_30 rfl rfl ?_
      refine r_iload_n dX12_leaf_31 rfl rfl ?_
      refine r_callV (args := [vi x2, vi x3]) dX12_leaf_32 kX12_195 ob_145 ⟨_, _, rfl⟩ (by decide) rfl rfl (Nat.le_of_ble_eq_true rfl) cap0 (Ev.mono V ?_)
      rintro r h' ⟨n26, rfl, rfl, V⟩
      show Rn w mX12_leaf (d + 1) G Q 35 [(0, vr 145), (2, vi x2), (3, vi x3)] [] (B0, n26)
      refine r_aload_n dX12_leaf_35 rfl rfl ?_
      refine r_dup dX12_leaf_36 rfl ?_
      refine r_getI (fi := 20) dX12_leaf_37 fX12_231 ob_145 (by decide) (by decide) rfl ?_
      refine r_iconst (x := 1) dX12_leaf_40 rfl (by decide) ?_
      obtain ⟨s27, V⟩ := V
      refine r_iadd dX12_leaf_41 s27 ?_
      refine r_putI (fi := 20) (h' := (B0, upn n26 145 20 ((n26 145 20) + 1))) dX12_leaf_42 pX12_231 ob_145 (by decide) rfl rfl rfl ?_
      exact r_ret dX12_leaf_45 rfl V
  refine r_zeq (tgt := 18) dX12_leaf_2 (by decide) (fun c21 => ?_) (fun c21 => ?_)
  · refine r_iconst (x := 0) dX12_leaf_18 rfl (by decide) ?_
    refine r_pick [0, 2, 3] (ls' := [(0, vr 145), (2, vi x2), (3, vi x3)]) rfl ?_
    exact K 0 (by first | rfl | (simp only [if_pos c21]))
  · refine r_aload_n dX12_leaf_5 rfl rfl ?_
    refine r_getI (fi := 20) dX12_leaf_6 fX12_231 ob_145 (by decide) (by decide) rfl ?_
    refine r_bipush (x := 50) dX12_leaf_9 (by decide +kernel) (by decide) ?_
    refine r_jge (tgt := 18) dX12_leaf_11 (by decide) (fun c22 => ?_) (fun c22 => ?_)
    · refine r_iconst (x := 0) dX12_leaf_18 rfl (by decide) ?_
      refine r_pick [0, 2, 3] (ls' := [(0, vr 145), (2, vi x2), (3, vi x3)]) rfl ?_
      exact K 0 (by first | rfl | (simp only [if_neg c21, if_pos c22]))
    · refine r_iconst (x := 1) dX12_leaf_14 rfl (by decide) ?_
      refine r_goto (tgt := 19) dX12_leaf_15 (by decide) ?_
      refine r_pick [0, 2, 3] (ls' := [(0, vr 145), (2, vi x2), (3, vi x3)]) rfl ?_
      exact K 1 (by first | rfl | (simp only [if_neg c21, if_neg (Int.not_le.mpr c22)]))

theorem gX12_readPart_0 {w : WD} {d : Nat} {G : GM} {Q : Option AV → Hp → Prop} {n : NM}
    (V :
    (Ev w d 0 0 mX12_isSign [vr 145, vi 91] (B0, n) (fun r h' => ∃ (x22 : Int) (n21 : NM), r = some (vi x22) ∧ h' = (B0, n21) ∧ 
      ((x22 = 0 →
        (Ev w d 0 0 mX12_partAt [vr 145] (B0, n21) (fun r h' => ∃ (x25 : Int) (n24 : NM), r = some (vi x25) ∧ h' = (B0, n24) ∧ 
          (∀ z28 : Int, z28 = (if n24 145 11 ≠ 2 then 0 else (if 100000 < n24 145 12 then 0 else 1)) → 
          (∀ z31 : Int, z31 = (if x25 ≠ (-1) then 1 else (if z28 = 0 then 0 else 1)) → 
          (∀ z33 : Int, z33 = (if x25 ≠ (-1) then x25 else 0) → 
          (z28 ≠ 0 → inI (n24 145 12)) ∧
          (∀ z36 : Int, z36 = (if z28 = 0 then 0 else n24 145 12) → 
          (Ev w d 0 0 mX12_leaf [vr 145, vi z31, vi z33, vi z36] (B0, n24) (fun r h' => ∃ n37 : NM, r = none ∧ h' = (B0, n37) ∧ 
            Q (some (vi 3)) (B0, n37)))))))))) ∧
      (x22 ≠ 0 →
        (Ev w d 0 0 mX12_openBracket [vr 145, vi 31] (B0, n21) (fun r h' => ∃ n38 : NM, r = none ∧ h' = (B0, n38) ∧ 
          Q (some (vi 1)) (B0, n38)))))))) :
    Rn w mX12_readPart (d + 1) G Q 0 [(0, vr 145)] [] (B0, n) := by
  refine r_aload_n dX12_readPart_0 rfl rfl ?_
  refine r_bipush (x := 91) dX12_readPart_1 (by decide +kernel) (by decide) ?_
  refine r_callV (args := [vi 91]) dX12_readPart_3 kX12_234 ob_145 ⟨_, _, rfl⟩ (by decide) rfl rfl (Nat.le_of_ble_eq_true rfl) cap0 (Ev.mono V ?_)
  rintro r h' ⟨x22, n21, rfl, rfl, V⟩
  show Rn w mX12_readPart (d + 1) G Q 6 [(0, vr 145)] [vi x22] (B0, n21)
  obtain ⟨V1, V2⟩ := V
  refine r_zeq (tgt := 17) dX12_readPart_6 (by decide) (fun c23 => ?_) (fun c23 => ?_)
  · have V := V1 c23
    refine r_aload_n dX12_readPart_17 rfl rfl ?_
    refine r_callV (args := []) dX12_readPart_18 kX12_240 ob_145 ⟨_, _, rfl⟩ (by decide) rfl rfl (Nat.le_of_ble_eq_true rfl) cap0 (Ev.mono V ?_)
    rintro r h' ⟨x25, n24, rfl, rfl, V⟩
    show Rn w mX12_readPart (d + 1) G Q 21 [(0, vr 145)] [vi x25] (B0, n24)
    refine r_istore_n (ls' := [(0, vr 145), (1, vi x25)]) dX12_readPart_21 rfl (by decide) rfl ?_
    refine r_aload_n dX12_readPart_22 rfl rfl ?_
    refine r_getI (fi := 11) dX12_readPart_23 fX12_167 ob_145 (by decide) (by decide) rfl ?_
    refine r_iconst (x := 2) dX12_readPart_26 rfl (by decide) ?_
    have K : ∀ z28 : Int, z28 = (if n24 145 11 ≠ 2 then 0 else (if 100000 < n24 145 12 then 0 else 1)) → Rn w mX12_readPart (d + 1) G Q 46 [(0, vr 145), (1, vi x25)] [vi z28] (B0, n24) := by
      intro z28 ez28
      have V := V z28 ez28
      refine r_istore_n (ls' := [(0, vr 145), (1, vi x25), (2, vi z28)]) dX12_readPart_46 rfl (by decide) rfl ?_
      refine r_aload_n dX12_readPart_47 rfl rfl ?_
      refine r_iload_n dX12_readPart_48 rfl rfl ?_
      refine r_iconst (x := -1) dX12_readPart_49 rfl (by decide) ?_
      have K : ∀ z31 : Int, z31 = (if x25 ≠ (-1) then 1 else (if z28 = 0 then 0 else 1)) → Rn w mX12_readPart (d + 1) G Q 62 [(0, vr 145), (1, vi x25), (2, vi z28)] [vi z31, vr 145] (B0, n24) := by
        intro z31 ez31
        have V := V z31 ez31
        refine r_iload_n dX12_readPart_62 rfl rfl ?_
        refine r_iconst (x := -1) dX12_readPart_63 rfl (by decide) ?_
        have K : ∀ z33 : Int, z33 = (if x25 ≠ (-1) then x25 else 0) → Rn w mX12_readPart (d + 1) G Q 72 [(0, vr 145), (2, vi z28)] [vi z33, vi z31, vr 145] (B0, n24) := by
          intro z33 ez33
          have V := V z33 ez33
          refine r_iload_n dX12_readPart_72 rfl rfl ?_
          obtain ⟨s35, V⟩ := V
          have K : ∀ z36 : Int, z36 = (if z28 = 0 then 0 else n24 145 12) → Rn w mX12_readPart (d + 1) G Q 85 [] [vi z36, vi z33, vi z31, vr 145] (B0, n24) := by
            intro z36 ez36
            have V := V z36 ez36
            refine r_callV (args := [vi z31, vi z33, vi z36]) dX12_readPart_85 kX12_246 ob_145 ⟨_, _, rfl⟩ (by decide) rfl rfl (Nat.le_of_ble_eq_true rfl) cap0 (Ev.mono V ?_)
            rintro r h' ⟨n37, rfl, rfl, V⟩
            show Rn w mX12_readPart (d + 1) G Q 88 [] [] (B0, n37)
            refine r_iconst (x := 3) dX12_readPart_88 rfl (by decide) ?_
            exact r_iret dX12_readPart_89 rfl V
          refine r_zeq (tgt := 84) dX12_readPart_73 (by decide) (fun c34 => ?_) (fun c34 => ?_)
          · refine r_iconst (x := 0) dX12_readPart_84 rfl (by decide) ?_
            refine r_pick [] (ls' := []) rfl ?_
            exact K 0 (by first | rfl | (simp only [if_pos c34]))
          · refine r_aload_n dX12_readPart_76 rfl rfl ?_
            refine r_getL (fi := 12) dX12_readPart_77 fX12_157 ob_145 (by decide) rfl rfl ?_
            refine r_l2i dX12_readPart_80 (s35 c34) ?_
            refine r_goto (tgt := 85) dX12_readPart_81 (by decide) ?_
            refine r_pick [] (ls' := []) rfl ?_
            exact K (n24 145 12) (by first | rfl | (simp only [if_neg c34]))
        refine r_jne (tgt := 71) dX12_readPart_64 (by decide) (fun c32 => ?_) (fun c32 => ?_)
        · refine r_iload_n dX12_readPart_71 rfl rfl ?_
          refine r_pick [0, 2] (ls' := [(0, vr 145), (2, vi z28)]) rfl ?_
          exact K x25 (by first | rfl | (simp only [if_pos c32]))
        · refine r_iconst (x := 0) dX12_readPart_67 rfl (by decide) ?_
          refine r_goto (tgt := 72) dX12_readPart_68 (by decide) ?_
          refine r_pick [0, 2] (ls' := [(0, vr 145), (2, vi z28)]) rfl ?_
          exact K 0 (by first | rfl | (simp only [if_neg (show ¬ (x25 ≠ (-1)) from not_not_intro c32)]))
      refine r_jne (tgt := 57) dX12_readPart_50 (by decide) (fun c29 => ?_) (fun c29 => ?_)
      · refine r_iconst (x := 1) dX12_readPart_57 rfl (by decide) ?_
        refine r_goto (tgt := 62) dX12_readPart_58 (by decide) ?_
        exact K 1 (by first | rfl | (simp only [if_pos c29]))
      · refine r_iload_n dX12_readPart_53 rfl rfl ?_
        refine r_zeq (tgt := 61) dX12_readPart_54 (by decide) (fun c30 => ?_) (fun c30 => ?_)
        · refine r_iconst (x := 0) dX12_readPart_61 rfl (by decide) ?_
          exact K 0 (by first | rfl | (simp only [if_neg (show ¬ (x25 ≠ (-1)) from not_not_intro c29), if_pos c30]))
        · refine r_iconst (x := 1) dX12_readPart_57 rfl (by decide) ?_
          refine r_goto (tgt := 62) dX12_readPart_58 (by decide) ?_
          exact K 1 (by first | rfl | (simp only [if_neg (show ¬ (x25 ≠ (-1)) from not_not_intro c29), if_neg c30]))
    refine r_jne (tgt := 45) dX12_readPart_27 (by decide) (fun c26 => ?_) (fun c26 => ?_)
    · refine r_iconst (x := 0) dX12_readPart_45 rfl (by decide) ?_
      exact K 0 (by first | rfl | (simp only [if_pos c26]))
    · refine r_aload_n dX12_readPart_30 rfl rfl ?_
      refine r_getL (fi := 12) dX12_readPart_31 fX12_157 ob_145 (by decide) rfl rfl ?_
      refine r_ldc2 (x := 100000) dX12_readPart_34 qX12_244 (by decide) ?_
      refine r_lgt dX12_readPart_37 rfl dX12_readPart_38 (tgt := 45) (by decide) (fun c27 => ?_) (fun c27 => ?_)
      · refine r_iconst (x := 0) dX12_readPart_45 rfl (by decide) ?_
        exact K 0 (by first | rfl | (simp only [if_neg (show ¬ (n24 145 11 ≠ 2) from not_not_intro c26), if_pos c27]))
      · refine r_iconst (x := 1) dX12_readPart_41 rfl (by decide) ?_
        refine r_goto (tgt := 46) dX12_readPart_42 (by decide) ?_
        exact K 1 (by first | rfl | (simp only [if_neg (show ¬ (n24 145 11 ≠ 2) from not_not_intro c26), if_neg (Int.not_lt.mpr c27)]))
  · have V := V2 c23
    refine r_aload_n dX12_readPart_9 rfl rfl ?_
    refine r_bipush (x := 31) dX12_readPart_10 (by decide +kernel) (by decide) ?_
    refine r_callV (args := [vi 31]) dX12_readPart_12 kX12_237 ob_145 ⟨_, _, rfl⟩ (by decide) rfl rfl (Nat.le_of_ble_eq_true rfl) cap0 (Ev.mono V ?_)
    rintro r h' ⟨n38, rfl, rfl, V⟩
    show Rn w mX12_readPart (d + 1) G Q 15 [(0, vr 145)] [] (B0, n38)
    refine r_iconst (x := 1) dX12_readPart_15 rfl (by decide) ?_
    exact r_iret dX12_readPart_16 rfl V

theorem gX12_readPlain_0 {w : WD} {d : Nat} {G : GM} {Q : Option AV → Hp → Prop} {n : NM}
    (V :
    (Ev w d 0 0 mX12_isWord [vr 145, vl 14836] (B0, n) (fun r h' => ∃ (x22 : Int) (n21 : NM), r = some (vi x22) ∧ h' = (B0, n21) ∧ 
      ((x22 = 0 →
        (Ev w d 0 0 mX12_isSign [vr 145, vi 40] (B0, n21) (fun r h' => ∃ (x25 : Int) (n24 : NM), r = some (vi x25) ∧ h' = (B0, n24) ∧ 
          ((x25 = 0 →
            (Ev w d 0 0 mX12_readPart [vr 145] (B0, n24) (fun r h' => ∃ (x28 : Int) (n27 : NM), r = some (vi x28) ∧ h' = (B0, n27) ∧ 
              Q (some (vi x28)) (B0, n27)))) ∧
          (x25 ≠ 0 →
            (Ev w d 0 0 mX12_openBracket [vr 145, vi 30] (B0, n24) (fun r h' => ∃ n29 : NM, r = none ∧ h' = (B0, n29) ∧ 
              Q (some (vi 0)) (B0, n29)))))))) ∧
      (x22 ≠ 0 →
        (Ev w d 0 0 mX12_push [vr 145, vi 27, vi 0] (B0, n21) (fun r h' => ∃ n30 : NM, r = none ∧ h' = (B0, n30) ∧ 
          (Ev w d 0 0 mX12_next [vr 145] (B0, n30) (fun r h' => ∃ n31 : NM, r = none ∧ h' = (B0, n31) ∧ 
            Q (some (vi 0)) (B0, n31)))))))))) :
    Rn w mX12_readPlain (d + 1) G Q 0 [(0, vr 145)] [] (B0, n) := by
  refine r_aload_n dX12_readPlain_0 rfl rfl ?_
  refine r_ldc2 (x := 14836) dX12_readPlain_1 qX12_250 (by decide) ?_
  refine r_callV (args := [vl 14836]) dX12_readPlain_4 kX12_205 ob_145 ⟨_, _, rfl⟩ (by decide) rfl rfl (Nat.le_of_ble_eq_true rfl) cap0 (Ev.mono V ?_)
  rintro r h' ⟨x22, n21, rfl, rfl, V⟩
  show Rn w mX12_readPlain (d + 1) G Q 7 [(0, vr 145)] [vi x22] (B0, n21)
  obtain ⟨V1, V2⟩ := V
  refine r_zeq (tgt := 23) dX12_readPlain_7 (by decide) (fun c23 => ?_) (fun c23 => ?_)
  · have V := V1 c23
    refine r_aload_n dX12_readPlain_23 rfl rfl ?_
    refine r_bipush (x := 40) dX12_readPlain_24 (by decide +kernel) (by decide) ?_
    refine r_callV (args := [vi 40]) dX12_readPlain_26 kX12_234 ob_145 ⟨_, _, rfl⟩ (by decide) rfl rfl (Nat.le_of_ble_eq_true rfl) cap0 (Ev.mono V ?_)
    rintro r h' ⟨x25, n24, rfl, rfl, V⟩
    show Rn w mX12_readPlain (d + 1) G Q 29 [(0, vr 145)] [vi x25] (B0, n24)
    obtain ⟨V1, V2⟩ := V
    refine r_zeq (tgt := 40) dX12_readPlain_29 (by decide) (fun c26 => ?_) (fun c26 => ?_)
    · have V := V1 c26
      refine r_aload_n dX12_readPlain_40 rfl rfl ?_
      refine r_callV (args := []) dX12_readPlain_41 kX12_252 ob_145 ⟨_, _, rfl⟩ (by decide) rfl rfl (Nat.le_of_ble_eq_true rfl) cap0 (Ev.mono V ?_)
      rintro r h' ⟨x28, n27, rfl, rfl, V⟩
      show Rn w mX12_readPlain (d + 1) G Q 44 [(0, vr 145)] [vi x28] (B0, n27)
      exact r_iret dX12_readPlain_44 rfl V
    · have V := V2 c26
      refine r_aload_n dX12_readPlain_32 rfl rfl ?_
      refine r_bipush (x := 30) dX12_readPlain_33 (by decide +kernel) (by decide) ?_
      refine r_callV (args := [vi 30]) dX12_readPlain_35 kX12_237 ob_145 ⟨_, _, rfl⟩ (by decide) rfl rfl (Nat.le_of_ble_eq_true rfl) cap0 (Ev.mono V ?_)
      rintro r h' ⟨n29, rfl, rfl, V⟩
      show Rn w mX12_readPlain (d + 1) G Q 38 [(0, vr 145)] [] (B0, n29)
      refine r_iconst (x := 0) dX12_readPlain_38 rfl (by decide) ?_
      exact r_iret dX12_readPlain_39 rfl V
  · have V := V2 c23
    refine r_aload_n dX12_readPlain_10 rfl rfl ?_
    refine r_bipush (x := 27) dX12_readPlain_11 (by decide +kernel) (by decide) ?_
    refine r_iconst (x := 0) dX12_readPlain_13 rfl (by decide) ?_
    refine r_callV (args := [vi 27, vi 0]) dX12_readPlain_14 kX12_228 ob_145 ⟨_, _, rfl⟩ (by decide) rfl rfl (Nat.le_of_ble_eq_true rfl) cap0 (Ev.mono V ?_)
    rintro r h' ⟨n30, rfl, rfl, V⟩
    show Rn w mX12_readPlain (d + 1) G Q 17 [(0, vr 145)] [] (B0, n30)
    refine r_aload_n dX12_readPlain_17 rfl rfl ?_
    refine r_callV (args := []) dX12_readPlain_18 kX12_151 ob_145 ⟨_, _, rfl⟩ (by decide) rfl rfl (Nat.le_of_ble_eq_true rfl) cap0 (Ev.mono V ?_)
    rintro r h' ⟨n31, rfl, rfl, V⟩
    show Rn w mX12_readPlain (d + 1) G Q 21 [(0, vr 145)] [] (B0, n31)
    refine r_iconst (x := 0) dX12_readPlain_21 rfl (by decide) ?_
    exact r_iret dX12_readPlain_22 rfl V

theorem gX12_behindSum_0 {w : WD} {d : Nat} {G : GM} {Q : Option AV → Hp → Prop} {n : NM} {x1 : Int}
    (V :
    (Ev w d 0 0 mX12_isSign [vr 145, vi 43] (B0, n) (fun r h' => ∃ (x22 : Int) (n21 : NM), r = some (vi x22) ∧ h' = (B0, n21) ∧ 
      ((x22 = 0 →
        (Ev w d 0 0 mX12_isSign [vr 145, vi 45] (B0, n21) (fun r h' => ∃ (x25 : Int) (n24 : NM), r = some (vi x25) ∧ h' = (B0, n24) ∧ 
          ((x25 = 0 →
            (Ev w d 0 0 mX12_isSign [vr 145, vi 42] (B0, n24) (fun r h' => ∃ (x28 : Int) (n27 : NM), r = some (vi x28) ∧ h' = (B0, n27) ∧ 
              ((x28 = 0 →
                (Ev w d 0 0 mX12_isSign [vr 145, vi 47] (B0, n27) (fun r h' => ∃ (x31 : Int) (n30 : NM), r = some (vi x31) ∧ h' = (B0, n30) ∧ 
                  (∀ z33 : Int, z33 = (if x31 = 0 then (-1) else 23) → 
                  ((z33 = (-1) →
                    (Ev w d 0 0 mX12_inner [vr 145] (B0, n30) (fun r h' => ∃ (x36 : Int) (n35 : NM), r = some (vi x36) ∧ h' = (B0, n35) ∧ 
                      ((x36 ≠ 31 →
                        ((x36 ≠ (-1) →
                          Rn w mX12_behindSum (d + 1) G Q 149 [(0, vr 145)] [] (B0, n35)) ∧
                        (x36 = (-1) →
                          ((x1 ≠ 0 →
                            Rn w mX12_behindSum (d + 1) G Q 149 [(0, vr 145)] [] (B0, n35)) ∧
                          (x1 = 0 →
                            Q (some (vi 4)) (B0, n35)))))) ∧
                      (x36 = 31 →
                        (Ev w d 0 0 mX12_isSign [vr 145, vi 93] (B0, n35) (fun r h' => ∃ (x41 : Int) (n40 : NM), r = some (vi x41) ∧ h' = (B0, n40) ∧ 
                          (Ev w d 0 0 mX12_must [vr 145, vi x41] (B0, n40) (fun r h' => ∃ n42 : NM, r = none ∧ h' = (B0, n42) ∧ 
                            ((n42 145 14 ≠ 0 →
                              Q (some (vi 3)) (B0, n42)) ∧
                            (n42 145 14 = 0 →
                              (Ev w d 0 0 mX12_settle [vr 145, vi 5] (B0, n42) (fun r h' => ∃ n44 : NM, r = none ∧ h' = (B0, n44) ∧ 
                                (inI ((n44 145 23) - 1)) ∧
                                (inI ((n44 145 24) - 1)) ∧
                                Q (some (vi 3)) (B0, upn (upn n44 145 23 ((n44 145 23) - 1)) 145 24 ((n44 145 24) - 1))))))))))))))) ∧
                  (z33 ≠ (-1) →
                    (Ev w d 0 0 mX12_binds [vi z33] (B0, n30) (fun r h' => ∃ (x48 : Int) (n47 : NM), r = some (vi x48) ∧ h' = (B0, n47) ∧ 
                      (Ev w d 0 0 mX12_settle [vr 145, vi x48] (B0, n47) (fun r h' => ∃ n49 : NM, r = none ∧ h' = (B0, n49) ∧ 
                        (Ev w d 0 0 mX12_push [vr 145, vi z33, vi 0] (B0, n49) (fun r h' => ∃ n50 : NM, r = none ∧ h' = (B0, n50) ∧ 
                          (Ev w d 0 0 mX12_next [vr 145] (B0, n50) (fun r h' => ∃ n51 : NM, r = none ∧ h' = (B0, n51) ∧ 
                            Q (some (vi 1)) (B0, n51))))))))))))))) ∧
              (x28 ≠ 0 →
                Rn w mX12_behindSum (d + 1) G Q 57 [(0, vr 145), (1, vi x1)] [vi 22] (B0, n27)))))) ∧
          (x25 ≠ 0 →
            Rn w mX12_behindSum (d + 1) G Q 57 [(0, vr 145), (1, vi x1)] [vi 21] (B0, n24)))))) ∧
      (x22 ≠ 0 →
        Rn w mX12_behindSum (d + 1) G Q 57 [(0, vr 145), (1, vi x1)] [vi 20] (B0, n21)))))) :
    Rn w mX12_behindSum (d + 1) G Q 0 [(0, vr 145), (1, vi x1)] [] (B0, n) := by
  refine r_aload_n dX12_behindSum_0 rfl rfl ?_
  refine r_bipush (x := 43) dX12_behindSum_1 (by decide +kernel) (by decide) ?_
  refine r_callV (args := [vi 43]) dX12_behindSum_3 kX12_234 ob_145 ⟨_, _, rfl⟩ (by decide) rfl rfl (Nat.le_of_ble_eq_true rfl) cap0 (Ev.mono V ?_)
  rintro r h' ⟨x22, n21, rfl, rfl, V⟩
  show Rn w mX12_behindSum (d + 1) G Q 6 [(0, vr 145), (1, vi x1)] [vi x22] (B0, n21)
  obtain ⟨V1, V2⟩ := V
  refine r_zeq (tgt := 14) dX12_behindSum_6 (by decide) (fun c23 => ?_) (fun c23 => ?_)
  · have V := V1 c23
    refine r_aload_n dX12_behindSum_14 rfl rfl ?_
    refine r_bipush (x := 45) dX12_behindSum_15 (by decide +kernel) (by decide) ?_
    refine r_callV (args := [vi 45]) dX12_behindSum_17 kX12_234 ob_145 ⟨_, _, rfl⟩ (by decide) rfl rfl (Nat.le_of_ble_eq_true rfl) cap0 (Ev.mono V ?_)
    rintro r h' ⟨x25, n24, rfl, rfl, V⟩
    show Rn w mX12_behindSum (d + 1) G Q 20 [(0, vr 145), (1, vi x1)] [vi x25] (B0, n24)
    obtain ⟨V1, V2⟩ := V
    refine r_zeq (tgt := 28) dX12_behindSum_20 (by decide) (fun c26 => ?_) (fun c26 => ?_)
    · have V := V1 c26
      refine r_aload_n dX12_behindSum_28 rfl rfl ?_
      refine r_bipush (x := 42) dX12_behindSum_29 (by decide +kernel) (by decide) ?_
      refine r_callV (args := [vi 42]) dX12_behindSum_31 kX12_234 ob_145 ⟨_, _, rfl⟩ (by decide) rfl rfl (Nat.le_of_ble_eq_true rfl) cap0 (Ev.mono V ?_)
      rintro r h' ⟨x28, n27, rfl, rfl, V⟩
      show Rn w mX12_behindSum (d + 1) G Q 34 [(0, vr 145), (1, vi x1)] [vi x28] (B0, n27)
      obtain ⟨V1, V2⟩ := V
      refine r_zeq (tgt := 42) dX12_behindSum_34 (by decide) (fun c29 => ?_) (fun c29 => ?_)
      · have V := V1 c29
        refine r_aload_n dX12_behindSum_42 rfl rfl ?_
        refine r_bipush (x := 47) dX12_behindSum_43 (by decide +kernel) (by decide) ?_
        refine r_callV (args := [vi 47]) dX12_behindSum_45 kX12_234 ob_145 ⟨_, _, rfl⟩ (by decide) rfl rfl (Nat.le_of_ble_eq_true rfl) cap0 (Ev.mono V ?_)
        rintro r h' ⟨x31, n30, rfl, rfl, V⟩
        show Rn w mX12_behindSum (d + 1) G Q 48 [(0, vr 145), (1, vi x1)] [vi x31] (B0, n30)
        have K : ∀ z33 : Int, z33 = (if x31 = 0 then (-1) else 23) → Rn w mX12_behindSum (d + 1) G Q 57 [(0, vr 145), (1, vi x1)] [vi z33] (B0, n30) := by
          intro z33 ez33
          have V := V z33 ez33
          refine r_istore_n (ls' := [(0, vr 145), (1, vi x1), (2, vi z33)]) dX12_behindSum_57 rfl (by decide) rfl ?_
          refine r_iload_n dX12_behindSum_58 rfl rfl ?_
          refine r_iconst (x := -1) dX12_behindSum_59 rfl (by decide) ?_
          obtain ⟨V1, V2⟩ := V
          refine r_jeq (tgt := 83) dX12_behindSum_60 (by decide) (fun c34 => ?_) (fun c34 => ?_)
          · have V := V1 c34
            refine r_aload_n dX12_behindSum_83 rfl rfl ?_
            refine r_callV (args := []) dX12_behindSum_84 kX12_258 ob_145 ⟨_, _, rfl⟩ (by decide) rfl rfl (Nat.le_of_ble_eq_true rfl) cap0 (Ev.mono V ?_)
            rintro r h' ⟨x36, n35, rfl, rfl, V⟩
            show Rn w mX12_behindSum (d + 1) G Q 87 [(0, vr 145), (1, vi x1), (2, vi z33)] [vi x36] (B0, n35)
            refine r_istore_n (ls' := [(0, vr 145), (1, vi x1), (2, vi z33), (3, vi x36)]) dX12_behindSum_87 rfl (by decide) rfl ?_
            refine r_iload_n dX12_behindSum_88 rfl rfl ?_
            refine r_bipush (x := 31) dX12_behindSum_89 (by decide +kernel) (by decide) ?_
            obtain ⟨V1, V2⟩ := V
            refine r_jne (tgt := 138) dX12_behindSum_91 (by decide) (fun c37 => ?_) (fun c37 => ?_)
            · have V := V1 c37
              refine r_iload_n dX12_behindSum_138 rfl rfl ?_
              refine r_iconst (x := -1) dX12_behindSum_139 rfl (by decide) ?_
              obtain ⟨V1, V2⟩ := V
              refine r_jne (tgt := 149) dX12_behindSum_140 (by decide) (fun c38 => ?_) (fun c38 => ?_)
              · have V := V1 c38
                refine r_pick [0] (ls' := [(0, vr 145)]) rfl ?_
                exact V
              · have V := V2 c38
                refine r_iload_n dX12_behindSum_143 rfl rfl ?_
                obtain ⟨V1, V2⟩ := V
                refine r_zne (tgt := 149) dX12_behindSum_144 (by decide) (fun c39 => ?_) (fun c39 => ?_)
                · have V := V1 c39
                  refine r_pick [0] (ls' := [(0, vr 145)]) rfl ?_
                  exact V
                · have V := V2 c39
                  refine r_iconst (x := 4) dX12_behindSum_147 rfl (by decide) ?_
                  exact r_iret dX12_behindSum_148 rfl V
            · have V := V2 c37
              refine r_aload_n dX12_behindSum_94 rfl rfl ?_
              refine r_aload_n dX12_behindSum_95 rfl rfl ?_
              refine r_bipush (x := 93) dX12_behindSum_96 (by decide +kernel) (by decide) ?_
              refine r_callV (args := [vi 93]) dX12_behindSum_98 kX12_234 ob_145 ⟨_, _, rfl⟩ (by decide) rfl rfl (Nat.le_of_ble_eq_true rfl) cap0 (Ev.mono V ?_)
              rintro r h' ⟨x41, n40, rfl, rfl, V⟩
              show Rn w mX12_behindSum (d + 1) G Q 101 [(0, vr 145), (1, vi x1), (2, vi z33), (3, vi x36)] [vi x41, vr 145] (B0, n40)
              refine r_callV (args := [vi x41]) dX12_behindSum_101 kX12_182 ob_145 ⟨_, _, rfl⟩ (by decide) rfl rfl (Nat.le_of_ble_eq_true rfl) cap0 (Ev.mono V ?_)
              rintro r h' ⟨n42, rfl, rfl, V⟩
              show Rn w mX12_behindSum (d + 1) G Q 104 [(0, vr 145), (1, vi x1), (2, vi z33), (3, vi x36)] [] (B0, n42)
              refine r_aload_n dX12_behindSum_104 rfl rfl ?_
              refine r_getI (fi := 14) dX12_behindSum_105 fX12_147 ob_145 (by decide) (by decide) rfl ?_
              obtain ⟨V1, V2⟩ := V
              refine r_zne (tgt := 136) dX12_behindSum_108 (by decide) (fun c43 => ?_) (fun c43 => ?_)
              · have V := V1 c43
                refine r_iconst (x := 3) dX12_behindSum_136 rfl (by decide) ?_
                exact r_iret dX12_behindSum_137 rfl V
              · have V := V2 c43
                refine r_aload_n dX12_behindSum_111 rfl rfl ?_
                refine r_iconst (x := 5) dX12_behindSum_112 rfl (by decide) ?_
                refine r_callV (args := [vi 5]) dX12_behindSum_113 kX12_255 ob_145 ⟨_, _, rfl⟩ (by decide) rfl rfl (Nat.le_of_ble_eq_true rfl) cap0 (Ev.mono V ?_)
                rintro r h' ⟨n44, rfl, rfl, V⟩
                show Rn w mX12_behindSum (d + 1) G Q 116 [(0, vr 145), (1, vi x1), (2, vi z33), (3, vi x36)] [] (B0, n44)
                refine r_aload_n dX12_behindSum_116 rfl rfl ?_
                refine r_dup dX12_behindSum_117 rfl ?_
                refine r_getI (fi := 23) dX12_behindSum_118 fX12_189 ob_145 (by decide) (by decide) rfl ?_
                refine r_iconst (x := 1) dX12_behindSum_121 rfl (by decide) ?_
                obtain ⟨s45, V⟩ := V
                refine r_isub dX12_behindSum_122 s45 ?_
                refine r_putI (fi := 23) (h' := (B0, upn n44 145 23 ((n44 145 23) - 1))) dX12_behindSum_123 pX12_189 ob_145 (by decide) rfl rfl rfl ?_
                refine r_aload_n dX12_behindSum_126 rfl rfl ?_
                refine r_dup dX12_behindSum_127 rfl ?_
                refine r_getI (fi := 24) dX12_behindSum_128 fX12_225 ob_145 (by decide) (by decide) rfl ?_
                show Rn w mX12_behindSum (d + 1) G Q 131 [(0, vr 145), (1, vi x1), (2, vi z33), (3, vi x36)] [vi (n44 145 24), vr 145] (B0, upn n44 145 23 ((n44 145 23) - 1))
                refine r_iconst (x := 1) dX12_behindSum_131 rfl (by decide) ?_
                obtain ⟨s46, V⟩ := V
                refine r_isub dX12_behindSum_132 s46 ?_
                refine r_putI (fi := 24) (h' := (B0, upn (upn n44 145 23 ((n44 145 23) - 1)) 145 24 ((n44 145 24) - 1))) dX12_behindSum_133 pX12_225 ob_145 (by decide) rfl rfl rfl ?_
                refine r_iconst (x := 3) dX12_behindSum_136 rfl (by decide) ?_
                exact r_iret dX12_behindSum_137 rfl V
          · have V := V2 c34
            refine r_aload_n dX12_behindSum_63 rfl rfl ?_
            refine r_iload_n dX12_behindSum_64 rfl rfl ?_
            refine r_callS (args := [vi z33]) dX12_behindSum_65 kX12_192 rfl rfl (Nat.le_of_ble_eq_true rfl) cap0 (Ev.mono V ?_)
            rintro r h' ⟨x48, n47, rfl, rfl, V⟩
            show Rn w mX12_behindSum (d + 1) G Q 68 [(0, vr 145), (1, vi x1), (2, vi z33)] [vi x48, vr 145] (B0, n47)
            refine r_callV (args := [vi x48]) dX12_behindSum_68 kX12_255 ob_145 ⟨_, _, rfl⟩ (by decide) rfl rfl (Nat.le_of_ble_eq_true rfl) cap0 (Ev.mono V ?_)
            rintro r h' ⟨n49, rfl, rfl, V⟩
            show Rn w mX12_behindSum (d + 1) G Q 71 [(0, vr 145), (1, vi x1), (2, vi z33)] [] (B0, n49)
            refine r_aload_n dX12_behindSum_71 rfl rfl ?_
            refine r_iload_n dX12_behindSum_72 rfl rfl ?_
            refine r_iconst (x := 0) dX12_behindSum_73 rfl (by decide) ?_
            refine r_callV (args := [vi z33, vi 0]) dX12_behindSum_74 kX12_228 ob_145 ⟨_, _, rfl⟩ (by decide) rfl rfl (Nat.le_of_ble_eq_true rfl) cap0 (Ev.mono V ?_)
            rintro r h' ⟨n50, rfl, rfl, V⟩
            show Rn w mX12_behindSum (d + 1) G Q 77 [(0, vr 145), (1, vi x1), (2, vi z33)] [] (B0, n50)
            refine r_aload_n dX12_behindSum_77 rfl rfl ?_
            refine r_callV (args := []) dX12_behindSum_78 kX12_151 ob_145 ⟨_, _, rfl⟩ (by decide) rfl rfl (Nat.le_of_ble_eq_true rfl) cap0 (Ev.mono V ?_)
            rintro r h' ⟨n51, rfl, rfl, V⟩
            show Rn w mX12_behindSum (d + 1) G Q 81 [(0, vr 145), (1, vi x1), (2, vi z33)] [] (B0, n51)
            refine r_iconst (x := 1) dX12_behindSum_81 rfl (by decide) ?_
            exact r_iret dX12_behindSum_82 rfl V
        refine r_zeq (tgt := 56) dX12_behindSum_48 (by decide) (fun c32 => ?_) (fun c32 => ?_)
        · refine r_iconst (x := -1) dX12_behindSum_56 rfl (by decide) ?_
          exact K (-1) (by first | rfl | (simp only [if_pos c32]))
        · refine r_bipush (x := 23) dX12_behindSum_51 (by decide +kernel) (by decide) ?_
          refine r_goto (tgt := 57) dX12_behindSum_53 (by decide) ?_
          exact K 23 (by first | rfl | (simp only [if_neg c32]))
      · have V := V2 c29
        refine r_bipush (x := 22) dX12_behindSum_37 (by decide +kernel) (by decide) ?_
        refine r_goto (tgt := 57) dX12_behindSum_39 (by decide) ?_
        exact V
    · have V := V2 c26
      refine r_bipush (x := 21) dX12_behindSum_23 (by decide +kernel) (by decide) ?_
      refine r_goto (tgt := 57) dX12_behindSum_25 (by decide) ?_
      exact V
  · have V := V2 c23
    refine r_bipush (x := 20) dX12_behindSum_9 (by decide +kernel) (by decide) ?_
    refine r_goto (tgt := 57) dX12_behindSum_11 (by decide) ?_
    exact V

theorem gX12_behindSum_149 {w : WD} {d : Nat} {G : GM} {Q : Option AV → Hp → Prop} {n : NM}
    (V :
    (Ev w d 0 0 mX12_isCompared [vr 145] (B0, n) (fun r h' => ∃ (x22 : Int) (n21 : NM), r = some (vi x22) ∧ h' = (B0, n21) ∧ 
      ((x22 = 0 →
        (Ev w d 0 0 mX12_isSign [vr 145, vi 60] (B0, n21) (fun r h' => ∃ (x25 : Int) (n24 : NM), r = some (vi x25) ∧ h' = (B0, n24) ∧ 
          ((x25 = 0 →
            (Ev w d 0 0 mX12_isSign [vr 145, vi 62] (B0, n24) (fun r h' => ∃ (x28 : Int) (n27 : NM), r = some (vi x28) ∧ h' = (B0, n27) ∧ 
              (∀ z30 : Int, z30 = (if x28 = 0 then 26 else 25) → 
              ((z30 ≠ 26 →
                Rn w mX12_behindSum (d + 1) G Q 205 [(0, vr 145), (2, vi z30)] [vr 145] (B0, n27)) ∧
              (z30 = 26 →
                (Ev w d 0 0 mX12_isSign [vr 145, vi 61] (B0, n27) (fun r h' => ∃ (x33 : Int) (n32 : NM), r = some (vi x33) ∧ h' = (B0, n32) ∧ 
                  (∀ z35 : Int, z35 = (if x33 = 0 then 0 else 1) → 
                  (Ev w d 0 0 mX12_must [vr 145, vi z35] (B0, n32) (fun r h' => ∃ n36 : NM, r = none ∧ h' = (B0, n36) ∧ 
                    ((n36 145 14 ≠ 0 →
                      Q (some (vi 1)) (B0, n36)) ∧
                    (n36 145 14 = 0 →
                      (Ev w d 0 0 mX12_settle [vr 145, vi 5] (B0, n36) (fun r h' => ∃ n38 : NM, r = none ∧ h' = (B0, n38) ∧ 
                        (Ev w d 0 0 mX12_push [vr 145, vi z30, vi 0] (B0, n38) (fun r h' => ∃ n39 : NM, r = none ∧ h' = (B0, n39) ∧ 
                          Q (some (vi 1)) (B0, n39)))))))))))))))))) ∧
          (x25 ≠ 0 →
            Rn w mX12_behindSum (d + 1) G Q 188 [(0, vr 145)] [vi 24] (B0, n24)))))) ∧
      (x22 ≠ 0 →
        Q (some (vi 2)) (B0, n21)))))) :
    Rn w mX12_behindSum (d + 1) G Q 149 [(0, vr 145)] [] (B0, n) := by
  refine r_aload_n dX12_behindSum_149 rfl rfl ?_
  refine r_callV (args := []) dX12_behindSum_150 kX12_261 ob_145 ⟨_, _, rfl⟩ (by decide) rfl rfl (Nat.le_of_ble_eq_true rfl) cap0 (Ev.mono V ?_)
  rintro r h' ⟨x22, n21, rfl, rfl, V⟩
  show Rn w mX12_behindSum (d + 1) G Q 153 [(0, vr 145)] [vi x22] (B0, n21)
  obtain ⟨V1, V2⟩ := V
  refine r_zeq (tgt := 158) dX12_behindSum_153 (by decide) (fun c23 => ?_) (fun c23 => ?_)
  · have V := V1 c23
    refine r_aload_n dX12_behindSum_158 rfl rfl ?_
    refine r_bipush (x := 60) dX12_behindSum_159 (by decide +kernel) (by decide) ?_
    refine r_callV (args := [vi 60]) dX12_behindSum_161 kX12_234 ob_145 ⟨_, _, rfl⟩ (by decide) rfl rfl (Nat.le_of_ble_eq_true rfl) cap0 (Ev.mono V ?_)
    rintro r h' ⟨x25, n24, rfl, rfl, V⟩
    show Rn w mX12_behindSum (d + 1) G Q 164 [(0, vr 145)] [vi x25] (B0, n24)
    obtain ⟨V1, V2⟩ := V
    refine r_zeq (tgt := 172) dX12_behindSum_164 (by decide) (fun c26 => ?_) (fun c26 => ?_)
    · have V := V1 c26
      refine r_aload_n dX12_behindSum_172 rfl rfl ?_
      refine r_bipush (x := 62) dX12_behindSum_173 (by decide +kernel) (by decide) ?_
      refine r_callV (args := [vi 62]) dX12_behindSum_175 kX12_234 ob_145 ⟨_, _, rfl⟩ (by decide) rfl rfl (Nat.le_of_ble_eq_true rfl) cap0 (Ev.mono V ?_)
      rintro r h' ⟨x28, n27, rfl, rfl, V⟩
      show Rn w mX12_behindSum (d + 1) G Q 178 [(0, vr 145)] [vi x28] (B0, n27)
      have K : ∀ z30 : Int, z30 = (if x28 = 0 then 26 else 25) → Rn w mX12_behindSum (d + 1) G Q 188 [(0, vr 145)] [vi z30] (B0, n27) := by
        intro z30 ez30
        have V := V z30 ez30
        refine r_istore_n (ls' := [(0, vr 145), (2, vi z30)]) dX12_behindSum_188 rfl (by decide) rfl ?_
        refine r_aload_n dX12_behindSum_189 rfl rfl ?_
        refine r_iload_n dX12_behindSum_190 rfl rfl ?_
        refine r_bipush (x := 26) dX12_behindSum_191 (by decide +kernel) (by decide) ?_
        obtain ⟨V1, V2⟩ := V
        refine r_jne (tgt := 205) dX12_behindSum_193 (by decide) (fun c31 => ?_) (fun c31 => ?_)
        · have V := V1 c31
          exact V
        · have V := V2 c31
          refine r_aload_n dX12_behindSum_196 rfl rfl ?_
          refine r_bipush (x := 61) dX12_behindSum_197 (by decide +kernel) (by decide) ?_
          refine r_callV (args := [vi 61]) dX12_behindSum_199 kX12_234 ob_145 ⟨_, _, rfl⟩ (by decide) rfl rfl (Nat.le_of_ble_eq_true rfl) cap0 (Ev.mono V ?_)
          rintro r h' ⟨x33, n32, rfl, rfl, V⟩
          show Rn w mX12_behindSum (d + 1) G Q 202 [(0, vr 145), (2, vi z30)] [vi x33, vr 145] (B0, n32)
          have K : ∀ z35 : Int, z35 = (if x33 = 0 then 0 else 1) → Rn w mX12_behindSum (d + 1) G Q 210 [(0, vr 145), (2, vi z30)] [vi z35, vr 145] (B0, n32) := by
            intro z35 ez35
            have V := V z35 ez35
            refine r_callV (args := [vi z35]) dX12_behindSum_210 kX12_182 ob_145 ⟨_, _, rfl⟩ (by decide) rfl rfl (Nat.le_of_ble_eq_true rfl) cap0 (Ev.mono V ?_)
            rintro r h' ⟨n36, rfl, rfl, V⟩
            show Rn w mX12_behindSum (d + 1) G Q 213 [(0, vr 145), (2, vi z30)] [] (B0, n36)
            refine r_aload_n dX12_behindSum_213 rfl rfl ?_
            refine r_getI (fi := 14) dX12_behindSum_214 fX12_147 ob_145 (by decide) (by decide) rfl ?_
            obtain ⟨V1, V2⟩ := V
            refine r_zne (tgt := 231) dX12_behindSum_217 (by decide) (fun c37 => ?_) (fun c37 => ?_)
            · have V := V1 c37
              refine r_iconst (x := 1) dX12_behindSum_231 rfl (by decide) ?_
              exact r_iret dX12_behindSum_232 rfl V
            · have V := V2 c37
              refine r_aload_n dX12_behindSum_220 rfl rfl ?_
              refine r_iconst (x := 5) dX12_behindSum_221 rfl (by decide) ?_
              refine r_callV (args := [vi 5]) dX12_behindSum_222 kX12_255 ob_145 ⟨_, _, rfl⟩ (by decide) rfl rfl (Nat.le_of_ble_eq_true rfl) cap0 (Ev.mono V ?_)
              rintro r h' ⟨n38, rfl, rfl, V⟩
              show Rn w mX12_behindSum (d + 1) G Q 225 [(0, vr 145), (2, vi z30)] [] (B0, n38)
              refine r_aload_n dX12_behindSum_225 rfl rfl ?_
              refine r_iload_n dX12_behindSum_226 rfl rfl ?_
              refine r_iconst (x := 0) dX12_behindSum_227 rfl (by decide) ?_
              refine r_callV (args := [vi z30, vi 0]) dX12_behindSum_228 kX12_228 ob_145 ⟨_, _, rfl⟩ (by decide) rfl rfl (Nat.le_of_ble_eq_true rfl) cap0 (Ev.mono V ?_)
              rintro r h' ⟨n39, rfl, rfl, V⟩
              show Rn w mX12_behindSum (d + 1) G Q 231 [(0, vr 145), (2, vi z30)] [] (B0, n39)
              refine r_iconst (x := 1) dX12_behindSum_231 rfl (by decide) ?_
              exact r_iret dX12_behindSum_232 rfl V
          refine r_zeq (tgt := 209) dX12_behindSum_202 (by decide) (fun c34 => ?_) (fun c34 => ?_)
          · refine r_iconst (x := 0) dX12_behindSum_209 rfl (by decide) ?_
            exact K 0 (by first | rfl | (simp only [if_pos c34]))
          · refine r_iconst (x := 1) dX12_behindSum_205 rfl (by decide) ?_
            refine r_goto (tgt := 210) dX12_behindSum_206 (by decide) ?_
            exact K 1 (by first | rfl | (simp only [if_neg c34]))
      refine r_zeq (tgt := 186) dX12_behindSum_178 (by decide) (fun c29 => ?_) (fun c29 => ?_)
      · refine r_bipush (x := 26) dX12_behindSum_186 (by decide +kernel) (by decide) ?_
        exact K 26 (by first | rfl | (simp only [if_pos c29]))
      · refine r_bipush (x := 25) dX12_behindSum_181 (by decide +kernel) (by decide) ?_
        refine r_goto (tgt := 188) dX12_behindSum_183 (by decide) ?_
        exact K 25 (by first | rfl | (simp only [if_neg c29]))
    · have V := V2 c26
      refine r_bipush (x := 24) dX12_behindSum_167 (by decide +kernel) (by decide) ?_
      refine r_goto (tgt := 188) dX12_behindSum_169 (by decide) ?_
      exact V
  · have V := V2 c23
    refine r_iconst (x := 2) dX12_behindSum_156 rfl (by decide) ?_
    exact r_iret dX12_behindSum_157 rfl V

theorem gX12_behindSum_57 {w : WD} {d : Nat} {G : GM} {Q : Option AV → Hp → Prop} {n : NM} {x1 t0 : Int}
    (V :
    ((t0 = (-1) →
      (Ev w d 0 0 mX12_inner [vr 145] (B0, n) (fun r h' => ∃ (x23 : Int) (n22 : NM), r = some (vi x23) ∧ h' = (B0, n22) ∧ 
        ((x23 ≠ 31 →
          ((x23 ≠ (-1) →
            Rn w mX12_behindSum (d + 1) G Q 149 [(0, vr 145)] [] (B0, n22)) ∧
          (x23 = (-1) →
            ((x1 ≠ 0 →
              Rn w mX12_behindSum (d + 1) G Q 149 [(0, vr 145)] [] (B0, n22)) ∧
            (x1 = 0 →
              Q (some (vi 4)) (B0, n22)))))) ∧
        (x23 = 31 →
          (Ev w d 0 0 mX12_isSign [vr 145, vi 93] (B0, n22) (fun r h' => ∃ (x28 : Int) (n27 : NM), r = some (vi x28) ∧ h' = (B0, n27) ∧ 
            (Ev w d 0 0 mX12_must [vr 145, vi x28] (B0, n27) (fun r h' => ∃ n29 : NM, r = none ∧ h' = (B0, n29) ∧ 
              ((n29 145 14 ≠ 0 →
                Q (some (vi 3)) (B0, n29)) ∧
              (n29 145 14 = 0 →
                (Ev w d 0 0 mX12_settle [vr 145, vi 5] (B0, n29) (fun r h' => ∃ n31 : NM, r = none ∧ h' = (B0, n31) ∧ 
                  (inI ((n31 145 23) - 1)) ∧
                  (inI ((n31 145 24) - 1)) ∧
                  Q (some (vi 3)) (B0, upn (upn n31 145 23 ((n31 145 23) - 1)) 145 24 ((n31 145 24) - 1))))))))))))))) ∧
    (t0 ≠ (-1) →
      (Ev w d 0 0 mX12_binds [vi t0] (B0, n) (fun r h' => ∃ (x35 : Int) (n34 : NM), r = some (vi x35) ∧ h' = (B0, n34) ∧ 
        (Ev w d 0 0 mX12_settle [vr 145, vi x35] (B0, n34) (fun r h' => ∃ n36 : NM, r = none ∧ h' = (B0, n36) ∧ 
          (Ev w d 0 0 mX12_push [vr 145, vi t0, vi 0] (B0, n36) (fun r h' => ∃ n37 : NM, r = none ∧ h' = (B0, n37) ∧ 
            (Ev w d 0 0 mX12_next [vr 145] (B0, n37) (fun r h' => ∃ n38 : NM, r = none ∧ h' = (B0, n38) ∧ 
              Q (some (vi 1)) (B0, n38)))))))))))) :
    Rn w mX12_behindSum (d + 1) G Q 57 [(0, vr 145), (1, vi x1)] [vi t0] (B0, n) := by
  refine r_istore_n (ls' := [(0, vr 145), (1, vi x1), (2, vi t0)]) dX12_behindSum_57 rfl (by decide) rfl ?_
  refine r_iload_n dX12_behindSum_58 rfl rfl ?_
  refine r_iconst (x := -1) dX12_behindSum_59 rfl (by decide) ?_
  obtain ⟨V1, V2⟩ := V
  refine r_jeq (tgt := 83) dX12_behindSum_60 (by decide) (fun c21 => ?_) (fun c21 => ?_)
  · have V := V1 c21
    refine r_aload_n dX12_behindSum_83 rfl rfl ?_
    refine r_callV (args := []) dX12_behindSum_84 kX12_258 ob_145 ⟨_, _, rfl⟩ (by decide) rfl rfl (Nat.le_of_ble_eq_true rfl) cap0 (Ev.mono V ?_)
    rintro r h' ⟨x23, n22, rfl, rfl, V⟩
    show Rn w mX12_behindSum (d + 1) G Q 87 [(0, vr 145), (1, vi x1), (2, vi t0)] [vi x23] (B0, n22)
    refine r_istore_n (ls' := [(0, vr 145), (1, vi x1), (2, vi t0), (3, vi x23)]) dX12_behindSum_87 rfl (by decide) rfl ?_
    refine r_iload_n dX12_behindSum_88 rfl rfl ?_
    refine r_bipush (x := 31) dX12_behindSum_89 (by decide +kernel) (by decide) ?_
    obtain ⟨V1, V2⟩ := V
    refine r_jne (tgt := 138) dX12_behindSum_91 (by decide) (fun c24 => ?_) (fun c24 => ?_)
    · have V := V1 c24
      refine r_iload_n dX12_behindSum_138 rfl rfl ?_
      refine r_iconst (x := -1) dX12_behindSum_139 rfl (by decide) ?_
      obtain ⟨V1, V2⟩ := V
      refine r_jne (tgt := 149) dX12_behindSum_140 (by decide) (fun c25 => ?_) (fun c25 => ?_)
      · have V := V1 c25
        refine r_pick [0] (ls' := [(0, vr 145)]) rfl ?_
        exact V
      · have V := V2 c25
        refine r_iload_n dX12_behindSum_143 rfl rfl ?_
        obtain ⟨V1, V2⟩ := V
        refine r_zne (tgt := 149) dX12_behindSum_144 (by decide) (fun c26 => ?_) (fun c26 => ?_)
        · have V := V1 c26
          refine r_pick [0] (ls' := [(0, vr 145)]) rfl ?_
          exact V
        · have V := V2 c26
          refine r_iconst (x := 4) dX12_behindSum_147 rfl (by decide) ?_
          exact r_iret dX12_behindSum_148 rfl V
    · have V := V2 c24
      refine r_aload_n dX12_behindSum_94 rfl rfl ?_
      refine r_aload_n dX12_behindSum_95 rfl rfl ?_
      refine r_bipush (x := 93) dX12_behindSum_96 (by decide +kernel) (by decide) ?_
      refine r_callV (args := [vi 93]) dX12_behindSum_98 kX12_234 ob_145 ⟨_, _, rfl⟩ (by decide) rfl rfl (Nat.le_of_ble_eq_true rfl) cap0 (Ev.mono V ?_)
      rintro r h' ⟨x28, n27, rfl, rfl, V⟩
      show Rn w mX12_behindSum (d + 1) G Q 101 [(0, vr 145), (1, vi x1), (2, vi t0), (3, vi x23)] [vi x28, vr 145] (B0, n27)
      refine r_callV (args := [vi x28]) dX12_behindSum_101 kX12_182 ob_145 ⟨_, _, rfl⟩ (by decide) rfl rfl (Nat.le_of_ble_eq_true rfl) cap0 (Ev.mono V ?_)
      rintro r h' ⟨n29, rfl, rfl, V⟩
      show Rn w mX12_behindSum (d + 1) G Q 104 [(0, vr 145), (1, vi x1), (2, vi t0), (3, vi x23)] [] (B0, n29)
      refine r_aload_n dX12_behindSum_104 rfl rfl ?_
      refine r_getI (fi := 14) dX12_behindSum_105 fX12_147 ob_145 (by decide) (by decide) rfl ?_
      obtain ⟨V1, V2⟩ := V
      refine r_zne (tgt := 136) dX12_behindSum_108 (by decide) (fun c30 => ?_) (fun c30 => ?_)
      · have V := V1 c30
        refine r_iconst (x := 3) dX12_behindSum_136 rfl (by decide) ?_
        exact r_iret dX12_behindSum_137 rfl V
      · have V := V2 c30
        refine r_aload_n dX12_behindSum_111 rfl rfl ?_
        refine r_iconst (x := 5) dX12_behindSum_112 rfl (by decide) ?_
        refine r_callV (args := [vi 5]) dX12_behindSum_113 kX12_255 ob_145 ⟨_, _, rfl⟩ (by decide) rfl rfl (Nat.le_of_ble_eq_true rfl) cap0 (Ev.mono V ?_)
        rintro r h' ⟨n31, rfl, rfl, V⟩
        show Rn w mX12_behindSum (d + 1) G Q 116 [(0, vr 145), (1, vi x1), (2, vi t0), (3, vi x23)] [] (B0, n31)
        refine r_aload_n dX12_behindSum_116 rfl rfl ?_
        refine r_dup dX12_behindSum_117 rfl ?_
        refine r_getI (fi := 23) dX12_behindSum_118 fX12_189 ob_145 (by decide) (by decide) rfl ?_
        refine r_iconst (x := 1) dX12_behindSum_121 rfl (by decide) ?_
        obtain ⟨s32, V⟩ := V
        refine r_isub dX12_behindSum_122 s32 ?_
        refine r_putI (fi := 23) (h' := (B0, upn n31 145 23 ((n31 145 23) - 1))) dX12_behindSum_123 pX12_189 ob_145 (by decide) rfl rfl rfl ?_
        refine r_aload_n dX12_behindSum_126 rfl rfl ?_
        refine r_dup dX12_behindSum_127 rfl ?_
        refine r_getI (fi := 24) dX12_behindSum_128 fX12_225 ob_145 (by decide) (by decide) rfl ?_
        show Rn w mX12_behindSum (d + 1) G Q 131 [(0, vr 145), (1, vi x1), (2, vi t0), (3, vi x23)] [vi (n31 145 24), vr 145] (B0, upn n31 145 23 ((n31 145 23) - 1))
        refine r_iconst (x := 1) dX12_behindSum_131 rfl (by decide) ?_
        obtain ⟨s33, V⟩ := V
        refine r_isub dX12_behindSum_132 s33 ?_
        refine r_putI (fi := 24) (h' := (B0, upn (upn n31 145 23 ((n31 145 23) - 1)) 145 24 ((n31 145 24) - 1))) dX12_behindSum_133 pX12_225 ob_145 (by decide) rfl rfl rfl ?_
        refine r_iconst (x := 3) dX12_behindSum_136 rfl (by decide) ?_
        exact r_iret dX12_behindSum_137 rfl V
  · have V := V2 c21
    refine r_aload_n dX12_behindSum_63 rfl rfl ?_
    refine r_iload_n dX12_behindSum_64 rfl rfl ?_
    refine r_callS (args := [vi t0]) dX12_behindSum_65 kX12_192 rfl rfl (Nat.le_of_ble_eq_true rfl) cap0 (Ev.mono V ?_)
    rintro r h' ⟨x35, n34, rfl, rfl, V⟩
    show Rn w mX12_behindSum (d + 1) G Q 68 [(0, vr 145), (1, vi x1), (2, vi t0)] [vi x35, vr 145] (B0, n34)
    refine r_callV (args := [vi x35]) dX12_behindSum_68 kX12_255 ob_145 ⟨_, _, rfl⟩ (by decide) rfl rfl (Nat.le_of_ble_eq_true rfl) cap0 (Ev.mono V ?_)
    rintro r h' ⟨n36, rfl, rfl, V⟩
    show Rn w mX12_behindSum (d + 1) G Q 71 [(0, vr 145), (1, vi x1), (2, vi t0)] [] (B0, n36)
    refine r_aload_n dX12_behindSum_71 rfl rfl ?_
    refine r_iload_n dX12_behindSum_72 rfl rfl ?_
    refine r_iconst (x := 0) dX12_behindSum_73 rfl (by decide) ?_
    refine r_callV (args := [vi t0, vi 0]) dX12_behindSum_74 kX12_228 ob_145 ⟨_, _, rfl⟩ (by decide) rfl rfl (Nat.le_of_ble_eq_true rfl) cap0 (Ev.mono V ?_)
    rintro r h' ⟨n37, rfl, rfl, V⟩
    show Rn w mX12_behindSum (d + 1) G Q 77 [(0, vr 145), (1, vi x1), (2, vi t0)] [] (B0, n37)
    refine r_aload_n dX12_behindSum_77 rfl rfl ?_
    refine r_callV (args := []) dX12_behindSum_78 kX12_151 ob_145 ⟨_, _, rfl⟩ (by decide) rfl rfl (Nat.le_of_ble_eq_true rfl) cap0 (Ev.mono V ?_)
    rintro r h' ⟨n38, rfl, rfl, V⟩
    show Rn w mX12_behindSum (d + 1) G Q 81 [(0, vr 145), (1, vi x1), (2, vi t0)] [] (B0, n38)
    refine r_iconst (x := 1) dX12_behindSum_81 rfl (by decide) ?_
    exact r_iret dX12_behindSum_82 rfl V

theorem gX12_behindSum_205 {w : WD} {d : Nat} {G : GM} {Q : Option AV → Hp → Prop} {n : NM} {x2 : Int}
    (V :
    Rn w mX12_behindSum d G Q 210 [(0, vr 145), (2, vi x2)] [vi 1, vr 145] (B0, n)) :
    Rn w mX12_behindSum d G Q 205 [(0, vr 145), (2, vi x2)] [vr 145] (B0, n) := by
  refine r_iconst (x := 1) dX12_behindSum_205 rfl (by decide) ?_
  refine r_goto (tgt := 210) dX12_behindSum_206 (by decide) ?_
  exact V

theorem gX12_behindSum_188 {w : WD} {d : Nat} {G : GM} {Q : Option AV → Hp → Prop} {n : NM} {t0 : Int}
    (V :
    ((t0 ≠ 26 →
      Rn w mX12_behindSum (d + 1) G Q 205 [(0, vr 145), (2, vi t0)] [vr 145] (B0, n)) ∧
    (t0 = 26 →
      (Ev w d 0 0 mX12_isSign [vr 145, vi 61] (B0, n) (fun r h' => ∃ (x23 : Int) (n22 : NM), r = some (vi x23) ∧ h' = (B0, n22) ∧ 
        (∀ z25 : Int, z25 = (if x23 = 0 then 0 else 1) → 
        (Ev w d 0 0 mX12_must [vr 145, vi z25] (B0, n22) (fun r h' => ∃ n26 : NM, r = none ∧ h' = (B0, n26) ∧ 
          ((n26 145 14 ≠ 0 →
            Q (some (vi 1)) (B0, n26)) ∧
          (n26 145 14 = 0 →
            (Ev w d 0 0 mX12_settle [vr 145, vi 5] (B0, n26) (fun r h' => ∃ n28 : NM, r = none ∧ h' = (B0, n28) ∧ 
              (Ev w d 0 0 mX12_push [vr 145, vi t0, vi 0] (B0, n28) (fun r h' => ∃ n29 : NM, r = none ∧ h' = (B0, n29) ∧ 
                Q (some (vi 1)) (B0, n29))))))))))))))) :
    Rn w mX12_behindSum (d + 1) G Q 188 [(0, vr 145)] [vi t0] (B0, n) := by
  refine r_istore_n (ls' := [(0, vr 145), (2, vi t0)]) dX12_behindSum_188 rfl (by decide) rfl ?_
  refine r_aload_n dX12_behindSum_189 rfl rfl ?_
  refine r_iload_n dX12_behindSum_190 rfl rfl ?_
  refine r_bipush (x := 26) dX12_behindSum_191 (by decide +kernel) (by decide) ?_
  obtain ⟨V1, V2⟩ := V
  refine r_jne (tgt := 205) dX12_behindSum_193 (by decide) (fun c21 => ?_) (fun c21 => ?_)
  · have V := V1 c21
    exact V
  · have V := V2 c21
    refine r_aload_n dX12_behindSum_196 rfl rfl ?_
    refine r_bipush (x := 61) dX12_behindSum_197 (by decide +kernel) (by decide) ?_
    refine r_callV (args := [vi 61]) dX12_behindSum_199 kX12_234 ob_145 ⟨_, _, rfl⟩ (by decide) rfl rfl (Nat.le_of_ble_eq_true rfl) cap0 (Ev.mono V ?_)
    rintro r h' ⟨x23, n22, rfl, rfl, V⟩
    show Rn w mX12_behindSum (d + 1) G Q 202 [(0, vr 145), (2, vi t0)] [vi x23, vr 145] (B0, n22)
    have K : ∀ z25 : Int, z25 = (if x23 = 0 then 0 else 1) → Rn w mX12_behindSum (d + 1) G Q 210 [(0, vr 145), (2, vi t0)] [vi z25, vr 145] (B0, n22) := by
      intro z25 ez25
      have V := V z25 ez25
      refine r_callV (args := [vi z25]) dX12_behindSum_210 kX12_182 ob_145 ⟨_, _, rfl⟩ (by decide) rfl rfl (Nat.le_of_ble_eq_true rfl) cap0 (Ev.mono V ?_)
      rintro r h' ⟨n26, rfl, rfl, V⟩
      show Rn w mX12_behindSum (d + 1) G Q 213 [(0, vr 145), (2, vi t0)] [] (B0, n26)
      refine r_aload_n dX12_behindSum_213 rfl rfl ?_
      refine r_getI (fi := 14) dX12_behindSum_214 fX12_147 ob_145 (by decide) (by decide) rfl ?_
      obtain ⟨V1, V2⟩ := V
      refine r_zne (tgt := 231) dX12_behindSum_217 (by decide) (fun c27 => ?_) (fun c27 => ?_)
      · have V := V1 c27
        refine r_iconst (x := 1) dX12_behindSum_231 rfl (by decide) ?_
        exact r_iret dX12_behindSum_232 rfl V
      · have V := V2 c27
        refine r_aload_n dX12_behindSum_220 rfl rfl ?_
        refine r_iconst (x := 5) dX12_behindSum_221 rfl (by decide) ?_
        refine r_callV (args := [vi 5]) dX12_behindSum_222 kX12_255 ob_145 ⟨_, _, rfl⟩ (by decide) rfl rfl (Nat.le_of_ble_eq_true rfl) cap0 (Ev.mono V ?_)
        rintro r h' ⟨n28, rfl, rfl, V⟩
        show Rn w mX12_behindSum (d + 1) G Q 225 [(0, vr 145), (2, vi t0)] [] (B0, n28)
        refine r_aload_n dX12_behindSum_225 rfl rfl ?_
        refine r_iload_n dX12_behindSum_226 rfl rfl ?_
        refine r_iconst (x := 0) dX12_behindSum_227 rfl (by decide) ?_
        refine r_callV (args := [vi t0, vi 0]) dX12_behindSum_228 kX12_228 ob_145 ⟨_, _, rfl⟩ (by decide) rfl rfl (Nat.le_of_ble_eq_true rfl) cap0 (Ev.mono V ?_)
        rintro r h' ⟨n29, rfl, rfl, V⟩
        show Rn w mX12_behindSum (d + 1) G Q 231 [(0, vr 145), (2, vi t0)] [] (B0, n29)
        refine r_iconst (x := 1) dX12_behindSum_231 rfl (by decide) ?_
        exact r_iret dX12_behindSum_232 rfl V
    refine r_zeq (tgt := 209) dX12_behindSum_202 (by decide) (fun c24 => ?_) (fun c24 => ?_)
    · refine r_iconst (x := 0) dX12_behindSum_209 rfl (by decide) ?_
      exact K 0 (by first | rfl | (simp only [if_pos c24]))
    · refine r_iconst (x := 1) dX12_behindSum_205 rfl (by decide) ?_
      refine r_goto (tgt := 210) dX12_behindSum_206 (by decide) ?_
      exact K 1 (by first | rfl | (simp only [if_neg c24]))

theorem gX12_behindSum_210 {w : WD} {d : Nat} {G : GM} {Q : Option AV → Hp → Prop} {n : NM} {x2 t1 : Int}
    (V :
    (Ev w d 0 0 mX12_must [vr 145, vi t1] (B0, n) (fun r h' => ∃ n21 : NM, r = none ∧ h' = (B0, n21) ∧ 
      ((n21 145 14 ≠ 0 →
        Q (some (vi 1)) (B0, n21)) ∧
      (n21 145 14 = 0 →
        (Ev w d 0 0 mX12_settle [vr 145, vi 5] (B0, n21) (fun r h' => ∃ n23 : NM, r = none ∧ h' = (B0, n23) ∧ 
          (Ev w d 0 0 mX12_push [vr 145, vi x2, vi 0] (B0, n23) (fun r h' => ∃ n24 : NM, r = none ∧ h' = (B0, n24) ∧ 
            Q (some (vi 1)) (B0, n24)))))))))) :
    Rn w mX12_behindSum (d + 1) G Q 210 [(0, vr 145), (2, vi x2)] [vi t1, vr 145] (B0, n) := by
  refine r_callV (args := [vi t1]) dX12_behindSum_210 kX12_182 ob_145 ⟨_, _, rfl⟩ (by decide) rfl rfl (Nat.le_of_ble_eq_true rfl) cap0 (Ev.mono V ?_)
  rintro r h' ⟨n21, rfl, rfl, V⟩
  show Rn w mX12_behindSum (d + 1) G Q 213 [(0, vr 145), (2, vi x2)] [] (B0, n21)
  refine r_aload_n dX12_behindSum_213 rfl rfl ?_
  refine r_getI (fi := 14) dX12_behindSum_214 fX12_147 ob_145 (by decide) (by decide) rfl ?_
  obtain ⟨V1, V2⟩ := V
  refine r_zne (tgt := 231) dX12_behindSum_217 (by decide) (fun c22 => ?_) (fun c22 => ?_)
  · have V := V1 c22
    refine r_iconst (x := 1) dX12_behindSum_231 rfl (by decide) ?_
    exact r_iret dX12_behindSum_232 rfl V
  · have V := V2 c22
    refine r_aload_n dX12_behindSum_220 rfl rfl ?_
    refine r_iconst (x := 5) dX12_behindSum_221 rfl (by decide) ?_
    refine r_callV (args := [vi 5]) dX12_behindSum_222 kX12_255 ob_145 ⟨_, _, rfl⟩ (by decide) rfl rfl (Nat.le_of_ble_eq_true rfl) cap0 (Ev.mono V ?_)
    rintro r h' ⟨n23, rfl, rfl, V⟩
    show Rn w mX12_behindSum (d + 1) G Q 225 [(0, vr 145), (2, vi x2)] [] (B0, n23)
    refine r_aload_n dX12_behindSum_225 rfl rfl ?_
    refine r_iload_n dX12_behindSum_226 rfl rfl ?_
    refine r_iconst (x := 0) dX12_behindSum_227 rfl (by decide) ?_
    refine r_callV (args := [vi x2, vi 0]) dX12_behindSum_228 kX12_228 ob_145 ⟨_, _, rfl⟩ (by decide) rfl rfl (Nat.le_of_ble_eq_true rfl) cap0 (Ev.mono V ?_)
    rintro r h' ⟨n24, rfl, rfl, V⟩
    show Rn w mX12_behindSum (d + 1) G Q 231 [(0, vr 145), (2, vi x2)] [] (B0, n24)
    refine r_iconst (x := 1) dX12_behindSum_231 rfl (by decide) ?_
    exact r_iret dX12_behindSum_232 rfl V

theorem gX12_behindTest_0 {w : WD} {d : Nat} {G : GM} {Q : Option AV → Hp → Prop} {n : NM}
    (V :
    (Ev w d 0 0 mX12_isWord [vr 145, vl 1476] (B0, n) (fun r h' => ∃ (x22 : Int) (n21 : NM), r = some (vi x22) ∧ h' = (B0, n21) ∧ 
      ((x22 ≠ 0 →
        Rn w mX12_behindTest (d + 1) G Q 22 [(0, vr 145), (1, vi x22)] [] (B0, n21)) ∧
      (x22 = 0 →
        (Ev w d 0 0 mX12_isWord [vr 145, vl 498] (B0, n21) (fun r h' => ∃ (x25 : Int) (n24 : NM), r = some (vi x25) ∧ h' = (B0, n24) ∧ 
          ((x25 = 0 →
            (Ev w d 0 0 mX12_inner [vr 145] (B0, n24) (fun r h' => ∃ (x28 : Int) (n27 : NM), r = some (vi x28) ∧ h' = (B0, n27) ∧ 
              ((x28 ≠ (-1) →
                (Ev w d 0 0 mX12_isSign [vr 145, vi 41] (B0, n27) (fun r h' => ∃ (x31 : Int) (n30 : NM), r = some (vi x31) ∧ h' = (B0, n30) ∧ 
                  (Ev w d 0 0 mX12_must [vr 145, vi x31] (B0, n30) (fun r h' => ∃ n32 : NM, r = none ∧ h' = (B0, n32) ∧ 
                    ((n32 145 14 ≠ 0 →
                      Q (some (vi 2)) (B0, n32)) ∧
                    (n32 145 14 = 0 →
                      (Ev w d 0 0 mX12_settle [vr 145, vi 1] (B0, n32) (fun r h' => ∃ n34 : NM, r = none ∧ h' = (B0, n34) ∧ 
                        (inI ((n34 145 23) - 1)) ∧
                        (inI ((n34 145 24) - 1)) ∧
                        Q (some (vi 2)) (B0, upn (upn n34 145 23 ((n34 145 23) - 1)) 145 24 ((n34 145 24) - 1))))))))))) ∧
              (x28 = (-1) →
                Q (some (vi 4)) (B0, n27)))))) ∧
          (x25 ≠ 0 →
            Rn w mX12_behindTest (d + 1) G Q 22 [(0, vr 145), (1, vi x22)] [] (B0, n24)))))))))) :
    Rn w mX12_behindTest (d + 1) G Q 0 [(0, vr 145)] [] (B0, n) := by
  refine r_aload_n dX12_behindTest_0 rfl rfl ?_
  refine r_ldc2 (x := 1476) dX12_behindTest_1 qX12_265 (by decide) ?_
  refine r_callV (args := [vl 1476]) dX12_behindTest_4 kX12_205 ob_145 ⟨_, _, rfl⟩ (by decide) rfl rfl (Nat.le_of_ble_eq_true rfl) cap0 (Ev.mono V ?_)
  rintro r h' ⟨x22, n21, rfl, rfl, V⟩
  show Rn w mX12_behindTest (d + 1) G Q 7 [(0, vr 145)] [vi x22] (B0, n21)
  refine r_istore_n (ls' := [(0, vr 145), (1, vi x22)]) dX12_behindTest_7 rfl (by decide) rfl ?_
  refine r_iload_n dX12_behindTest_8 rfl rfl ?_
  obtain ⟨V1, V2⟩ := V
  refine r_zne (tgt := 22) dX12_behindTest_9 (by decide) (fun c23 => ?_) (fun c23 => ?_)
  · have V := V1 c23
    exact V
  · have V := V2 c23
    refine r_aload_n dX12_behindTest_12 rfl rfl ?_
    refine r_ldc2 (x := 498) dX12_behindTest_13 qX12_267 (by decide) ?_
    refine r_callV (args := [vl 498]) dX12_behindTest_16 kX12_205 ob_145 ⟨_, _, rfl⟩ (by decide) rfl rfl (Nat.le_of_ble_eq_true rfl) cap0 (Ev.mono V ?_)
    rintro r h' ⟨x25, n24, rfl, rfl, V⟩
    show Rn w mX12_behindTest (d + 1) G Q 19 [(0, vr 145), (1, vi x22)] [vi x25] (B0, n24)
    obtain ⟨V1, V2⟩ := V
    refine r_zeq (tgt := 76) dX12_behindTest_19 (by decide) (fun c26 => ?_) (fun c26 => ?_)
    · have V := V1 c26
      refine r_aload_n dX12_behindTest_76 rfl rfl ?_
      refine r_callV (args := []) dX12_behindTest_77 kX12_258 ob_145 ⟨_, _, rfl⟩ (by decide) rfl rfl (Nat.le_of_ble_eq_true rfl) cap0 (Ev.mono V ?_)
      rintro r h' ⟨x28, n27, rfl, rfl, V⟩
      show Rn w mX12_behindTest (d + 1) G Q 80 [(0, vr 145), (1, vi x22)] [vi x28] (B0, n27)
      refine r_iconst (x := -1) dX12_behindTest_80 rfl (by decide) ?_
      obtain ⟨V1, V2⟩ := V
      refine r_jne (tgt := 86) dX12_behindTest_81 (by decide) (fun c29 => ?_) (fun c29 => ?_)
      · have V := V1 c29
        refine r_aload_n dX12_behindTest_86 rfl rfl ?_
        refine r_aload_n dX12_behindTest_87 rfl rfl ?_
        refine r_bipush (x := 41) dX12_behindTest_88 (by decide +kernel) (by decide) ?_
        refine r_callV (args := [vi 41]) dX12_behindTest_90 kX12_234 ob_145 ⟨_, _, rfl⟩ (by decide) rfl rfl (Nat.le_of_ble_eq_true rfl) cap0 (Ev.mono V ?_)
        rintro r h' ⟨x31, n30, rfl, rfl, V⟩
        show Rn w mX12_behindTest (d + 1) G Q 93 [(0, vr 145), (1, vi x22)] [vi x31, vr 145] (B0, n30)
        refine r_callV (args := [vi x31]) dX12_behindTest_93 kX12_182 ob_145 ⟨_, _, rfl⟩ (by decide) rfl rfl (Nat.le_of_ble_eq_true rfl) cap0 (Ev.mono V ?_)
        rintro r h' ⟨n32, rfl, rfl, V⟩
        show Rn w mX12_behindTest (d + 1) G Q 96 [(0, vr 145), (1, vi x22)] [] (B0, n32)
        refine r_aload_n dX12_behindTest_96 rfl rfl ?_
        refine r_getI (fi := 14) dX12_behindTest_97 fX12_147 ob_145 (by decide) (by decide) rfl ?_
        obtain ⟨V1, V2⟩ := V
        refine r_zne (tgt := 128) dX12_behindTest_100 (by decide) (fun c33 => ?_) (fun c33 => ?_)
        · have V := V1 c33
          refine r_iconst (x := 2) dX12_behindTest_128 rfl (by decide) ?_
          exact r_iret dX12_behindTest_129 rfl V
        · have V := V2 c33
          refine r_aload_n dX12_behindTest_103 rfl rfl ?_
          refine r_iconst (x := 1) dX12_behindTest_104 rfl (by decide) ?_
          refine r_callV (args := [vi 1]) dX12_behindTest_105 kX12_255 ob_145 ⟨_, _, rfl⟩ (by decide) rfl rfl (Nat.le_of_ble_eq_true rfl) cap0 (Ev.mono V ?_)
          rintro r h' ⟨n34, rfl, rfl, V⟩
          show Rn w mX12_behindTest (d + 1) G Q 108 [(0, vr 145), (1, vi x22)] [] (B0, n34)
          refine r_aload_n dX12_behindTest_108 rfl rfl ?_
          refine r_dup dX12_behindTest_109 rfl ?_
          refine r_getI (fi := 23) dX12_behindTest_110 fX12_189 ob_145 (by decide) (by decide) rfl ?_
          refine r_iconst (x := 1) dX12_behindTest_113 rfl (by decide) ?_
          obtain ⟨s35, V⟩ := V
          refine r_isub dX12_behindTest_114 s35 ?_
          refine r_putI (fi := 23) (h' := (B0, upn n34 145 23 ((n34 145 23) - 1))) dX12_behindTest_115 pX12_189 ob_145 (by decide) rfl rfl rfl ?_
          refine r_aload_n dX12_behindTest_118 rfl rfl ?_
          refine r_dup dX12_behindTest_119 rfl ?_
          refine r_getI (fi := 24) dX12_behindTest_120 fX12_225 ob_145 (by decide) (by decide) rfl ?_
          show Rn w mX12_behindTest (d + 1) G Q 123 [(0, vr 145), (1, vi x22)] [vi (n34 145 24), vr 145] (B0, upn n34 145 23 ((n34 145 23) - 1))
          refine r_iconst (x := 1) dX12_behindTest_123 rfl (by decide) ?_
          obtain ⟨s36, V⟩ := V
          refine r_isub dX12_behindTest_124 s36 ?_
          refine r_putI (fi := 24) (h' := (B0, upn (upn n34 145 23 ((n34 145 23) - 1)) 145 24 ((n34 145 24) - 1))) dX12_behindTest_125 pX12_225 ob_145 (by decide) rfl rfl rfl ?_
          refine r_iconst (x := 2) dX12_behindTest_128 rfl (by decide) ?_
          exact r_iret dX12_behindTest_129 rfl V
      · have V := V2 c29
        refine r_iconst (x := 4) dX12_behindTest_84 rfl (by decide) ?_
        exact r_iret dX12_behindTest_85 rfl V
    · have V := V2 c26
      exact V

theorem gX12_behindTest_22 {w : WD} {d : Nat} {G : GM} {Q : Option AV → Hp → Prop} {n : NM} {x1 : Int}
    (V :
    (∀ z22 : Int, z22 = (if x1 = 0 then 1 else 2) → 
    (Ev w d 0 0 mX12_settle [vr 145, vi z22] (B0, n) (fun r h' => ∃ n23 : NM, r = none ∧ h' = (B0, n23) ∧ 
      (∀ z25 : Int, z25 = (if x1 = 0 then 29 else 28) → 
      (Ev w d 0 0 mX12_push [vr 145, vi z25, vi (n23 145 17)] (B0, n23) (fun r h' => ∃ n26 : NM, r = none ∧ h' = (B0, n26) ∧ 
        (∀ z28 : Int, z28 = (if x1 = 0 then 29 else 28) → 
        (Ev w d 0 0 mX12_emit [vr 145, vi z28, vi 0] (B0, n26) (fun r h' => ∃ n29 : NM, r = none ∧ h' = (B0, n29) ∧ 
          (Ev w d 0 0 mX12_next [vr 145] (B0, n29) (fun r h' => ∃ n30 : NM, r = none ∧ h' = (B0, n30) ∧ 
            Q (some (vi 0)) (B0, n30))))))))))))) :
    Rn w mX12_behindTest (d + 1) G Q 22 [(0, vr 145), (1, vi x1)] [] (B0, n) := by
  refine r_aload_n dX12_behindTest_22 rfl rfl ?_
  refine r_iload_n dX12_behindTest_23 rfl rfl ?_
  have K : ∀ z22 : Int, z22 = (if x1 = 0 then 1 else 2) → Rn w mX12_behindTest (d + 1) G Q 32 [(0, vr 145), (1, vi x1)] [vi z22, vr 145] (B0, n) := by
    intro z22 ez22
    have V := V z22 ez22
    refine r_callV (args := [vi z22]) dX12_behindTest_32 kX12_255 ob_145 ⟨_, _, rfl⟩ (by decide) rfl rfl (Nat.le_of_ble_eq_true rfl) cap0 (Ev.mono V ?_)
    rintro r h' ⟨n23, rfl, rfl, V⟩
    show Rn w mX12_behindTest (d + 1) G Q 35 [(0, vr 145), (1, vi x1)] [] (B0, n23)
    refine r_aload_n dX12_behindTest_35 rfl rfl ?_
    refine r_iload_n dX12_behindTest_36 rfl rfl ?_
    have K : ∀ z25 : Int, z25 = (if x1 = 0 then 29 else 28) → Rn w mX12_behindTest (d + 1) G Q 47 [(0, vr 145), (1, vi x1)] [vi z25, vr 145] (B0, n23) := by
      intro z25 ez25
      have V := V z25 ez25
      refine r_aload_n dX12_behindTest_47 rfl rfl ?_
      refine r_getI (fi := 17) dX12_behindTest_48 fX12_186 ob_145 (by decide) (by decide) rfl ?_
      refine r_callV (args := [vi z25, vi (n23 145 17)]) dX12_behindTest_51 kX12_228 ob_145 ⟨_, _, rfl⟩ (by decide) rfl rfl (Nat.le_of_ble_eq_true rfl) cap0 (Ev.mono V ?_)
      rintro r h' ⟨n26, rfl, rfl, V⟩
      show Rn w mX12_behindTest (d + 1) G Q 54 [(0, vr 145), (1, vi x1)] [] (B0, n26)
      refine r_aload_n dX12_behindTest_54 rfl rfl ?_
      refine r_iload_n dX12_behindTest_55 rfl rfl ?_
      have K : ∀ z28 : Int, z28 = (if x1 = 0 then 29 else 28) → Rn w mX12_behindTest (d + 1) G Q 66 [(0, vr 145)] [vi z28, vr 145] (B0, n26) := by
        intro z28 ez28
        have V := V z28 ez28
        refine r_iconst (x := 0) dX12_behindTest_66 rfl (by decide) ?_
        refine r_callV (args := [vi z28, vi 0]) dX12_behindTest_67 kX12_195 ob_145 ⟨_, _, rfl⟩ (by decide) rfl rfl (Nat.le_of_ble_eq_true rfl) cap0 (Ev.mono V ?_)
        rintro r h' ⟨n29, rfl, rfl, V⟩
        show Rn w mX12_behindTest (d + 1) G Q 70 [(0, vr 145)] [] (B0, n29)
        refine r_aload_n dX12_behindTest_70 rfl rfl ?_
        refine r_callV (args := []) dX12_behindTest_71 kX12_151 ob_145 ⟨_, _, rfl⟩ (by decide) rfl rfl (Nat.le_of_ble_eq_true rfl) cap0 (Ev.mono V ?_)
        rintro r h' ⟨n30, rfl, rfl, V⟩
        show Rn w mX12_behindTest (d + 1) G Q 74 [(0, vr 145)] [] (B0, n30)
        refine r_iconst (x := 0) dX12_behindTest_74 rfl (by decide) ?_
        exact r_iret dX12_behindTest_75 rfl V
      refine r_zeq (tgt := 64) dX12_behindTest_56 (by decide) (fun c27 => ?_) (fun c27 => ?_)
      · refine r_bipush (x := 29) dX12_behindTest_64 (by decide +kernel) (by decide) ?_
        refine r_pick [0] (ls' := [(0, vr 145)]) rfl ?_
        exact K 29 (by first | rfl | (simp only [if_pos c27]))
      · refine r_bipush (x := 28) dX12_behindTest_59 (by decide +kernel) (by decide) ?_
        refine r_goto (tgt := 66) dX12_behindTest_61 (by decide) ?_
        refine r_pick [0] (ls' := [(0, vr 145)]) rfl ?_
        exact K 28 (by first | rfl | (simp only [if_neg c27]))
    refine r_zeq (tgt := 45) dX12_behindTest_37 (by decide) (fun c24 => ?_) (fun c24 => ?_)
    · refine r_bipush (x := 29) dX12_behindTest_45 (by decide +kernel) (by decide) ?_
      exact K 29 (by first | rfl | (simp only [if_pos c24]))
    · refine r_bipush (x := 28) dX12_behindTest_40 (by decide +kernel) (by decide) ?_
      refine r_goto (tgt := 47) dX12_behindTest_42 (by decide) ?_
      exact K 28 (by first | rfl | (simp only [if_neg c24]))
  refine r_zeq (tgt := 31) dX12_behindTest_24 (by decide) (fun c21 => ?_) (fun c21 => ?_)
  · refine r_iconst (x := 1) dX12_behindTest_31 rfl (by decide) ?_
    exact K 1 (by first | rfl | (simp only [if_pos c21]))
  · refine r_iconst (x := 2) dX12_behindTest_27 rfl (by decide) ?_
    refine r_goto (tgt := 32) dX12_behindTest_28 (by decide) ?_
    exact K 2 (by first | rfl | (simp only [if_neg c21]))

theorem gX12_readExpression_0 {w : WD} {d : Nat} {G : GM} {Q : Option AV → Hp → Prop} {n : NM} {x1 : Int}
    (V :
    (∀ z22 : Int, z22 = (if x1 = 0 then 1 else 0) → 
    Rn w mX12_readExpression d G Q 20 [(0, vr 145), (1, vi x1), (2, vi z22)] [] (B0, upn (upn n 145 23 0) 145 24 0))) :
    Rn w mX12_readExpression d G Q 0 [(0, vr 145), (1, vi x1)] [] (B0, n) := by
  refine r_aload_n dX12_readExpression_0 rfl rfl ?_
  refine r_iconst (x := 0) dX12_readExpression_1 rfl (by decide) ?_
  refine r_putI (fi := 23) (h' := (B0, upn n 145 23 0)) dX12_readExpression_2 pX12_189 ob_145 (by decide) rfl rfl rfl ?_
  refine r_aload_n dX12_readExpression_5 rfl rfl ?_
  refine r_iconst (x := 0) dX12_readExpression_6 rfl (by decide) ?_
  refine r_putI (fi := 24) (h' := (B0, upn (upn n 145 23 0) 145 24 0)) dX12_readExpression_7 pX12_225 ob_145 (by decide) rfl rfl rfl ?_
  refine r_iload_n dX12_readExpression_10 rfl rfl ?_
  have K : ∀ z22 : Int, z22 = (if x1 = 0 then 1 else 0) → Rn w mX12_readExpression d G Q 19 [(0, vr 145), (1, vi x1)] [vi z22] (B0, upn (upn n 145 23 0) 145 24 0) := by
    intro z22 ez22
    have V := V z22 ez22
    refine r_istore_n (ls' := [(0, vr 145), (1, vi x1), (2, vi z22)]) dX12_readExpression_19 rfl (by decide) rfl ?_
    exact V
  refine r_zeq (tgt := 18) dX12_readExpression_11 (by decide) (fun c21 => ?_) (fun c21 => ?_)
  · refine r_iconst (x := 1) dX12_readExpression_18 rfl (by decide) ?_
    exact K 1 (by first | rfl | (simp only [if_pos c21]))
  · refine r_iconst (x := 0) dX12_readExpression_14 rfl (by decide) ?_
    refine r_goto (tgt := 19) dX12_readExpression_15 (by decide) ?_
    exact K 0 (by first | rfl | (simp only [if_neg c21]))

theorem gX12_readExpression_20 {w : WD} {d : Nat} {G : GM} {Q : Option AV → Hp → Prop} {n : NM} {x1 x2 : Int}
    (V :
    ((n 145 14 ≠ 0 →
      (Ev w d 0 0 mX12_settle [vr 145, vi 1] (B0, n) (fun r h' => ∃ n22 : NM, r = none ∧ h' = (B0, n22) ∧ 
        Q none (B0, n22)))) ∧
    (n 145 14 = 0 →
      ((x2 = 4 →
        (Ev w d 0 0 mX12_settle [vr 145, vi 1] (B0, n) (fun r h' => ∃ n24 : NM, r = none ∧ h' = (B0, n24) ∧ 
          Q none (B0, n24)))) ∧
      (x2 ≠ 4 →
        ((x2 ≠ 0 →
          ((x2 ≠ 1 →
            ((x2 ≠ 3 →
              (Ev w d 0 0 mX12_behindTest [vr 145] (B0, n) (fun r h' => ∃ (x29 : Int) (n28 : NM), r = some (vi x29) ∧ h' = (B0, n28) ∧ 
                Rn w mX12_readExpression (d + 1) G Q 20 [(0, vr 145), (1, vi x1), (2, vi x29)] [] (B0, n28)))) ∧
            (x2 = 3 →
              (Ev w d 0 0 mX12_behindSum [vr 145, vi x1] (B0, n) (fun r h' => ∃ (x31 : Int) (n30 : NM), r = some (vi x31) ∧ h' = (B0, n30) ∧ 
                Rn w mX12_readExpression (d + 1) G Q 20 [(0, vr 145), (1, vi x1), (2, vi x31)] [] (B0, n30)))))) ∧
          (x2 = 1 →
            (Ev w d 0 0 mX12_readPart [vr 145] (B0, n) (fun r h' => ∃ (x33 : Int) (n32 : NM), r = some (vi x33) ∧ h' = (B0, n32) ∧ 
              Rn w mX12_readExpression (d + 1) G Q 20 [(0, vr 145), (1, vi x1), (2, vi x33)] [] (B0, n32)))))) ∧
        (x2 = 0 →
          (Ev w d 0 0 mX12_readPlain [vr 145] (B0, n) (fun r h' => ∃ (x35 : Int) (n34 : NM), r = some (vi x35) ∧ h' = (B0, n34) ∧ 
            Rn w mX12_readExpression (d + 1) G Q 20 [(0, vr 145), (1, vi x1), (2, vi x35)] [] (B0, n34)))))))))) :
    Rn w mX12_readExpression (d + 1) G Q 20 [(0, vr 145), (1, vi x1), (2, vi x2)] [] (B0, n) := by
  refine r_aload_n dX12_readExpression_20 rfl rfl ?_
  refine r_getI (fi := 14) dX12_readExpression_21 fX12_147 ob_145 (by decide) (by decide) rfl ?_
  obtain ⟨V1, V2⟩ := V
  refine r_zne (tgt := 76) dX12_readExpression_24 (by decide) (fun c21 => ?_) (fun c21 => ?_)
  · have V := V1 c21
    refine r_aload_n dX12_readExpression_76 rfl rfl ?_
    refine r_iconst (x := 1) dX12_readExpression_77 rfl (by decide) ?_
    refine r_callV (args := [vi 1]) dX12_readExpression_78 kX12_255 ob_145 ⟨_, _, rfl⟩ (by decide) rfl rfl (Nat.le_of_ble_eq_true rfl) cap0 (Ev.mono V ?_)
    rintro r h' ⟨n22, rfl, rfl, V⟩
    show Rn w mX12_readExpression (d + 1) G Q 81 [(0, vr 145), (1, vi x1), (2, vi x2)] [] (B0, n22)
    exact r_ret dX12_readExpression_81 rfl V
  · have V := V2 c21
    refine r_iload_n dX12_readExpression_27 rfl rfl ?_
    refine r_iconst (x := 4) dX12_readExpression_28 rfl (by decide) ?_
    obtain ⟨V1, V2⟩ := V
    refine r_jeq (tgt := 76) dX12_readExpression_29 (by decide) (fun c23 => ?_) (fun c23 => ?_)
    · have V := V1 c23
      refine r_aload_n dX12_readExpression_76 rfl rfl ?_
      refine r_iconst (x := 1) dX12_readExpression_77 rfl (by decide) ?_
      refine r_callV (args := [vi 1]) dX12_readExpression_78 kX12_255 ob_145 ⟨_, _, rfl⟩ (by decide) rfl rfl (Nat.le_of_ble_eq_true rfl) cap0 (Ev.mono V ?_)
      rintro r h' ⟨n24, rfl, rfl, V⟩
      show Rn w mX12_readExpression (d + 1) G Q 81 [(0, vr 145), (1, vi x1), (2, vi x2)] [] (B0, n24)
      exact r_ret dX12_readExpression_81 rfl V
    · have V := V2 c23
      refine r_iload_n dX12_readExpression_32 rfl rfl ?_
      obtain ⟨V1, V2⟩ := V
      refine r_zne (tgt := 43) dX12_readExpression_33 (by decide) (fun c25 => ?_) (fun c25 => ?_)
      · have V := V1 c25
        refine r_iload_n dX12_readExpression_43 rfl rfl ?_
        refine r_iconst (x := 1) dX12_readExpression_44 rfl (by decide) ?_
        obtain ⟨V1, V2⟩ := V
        refine r_jne (tgt := 55) dX12_readExpression_45 (by decide) (fun c26 => ?_) (fun c26 => ?_)
        · have V := V1 c26
          refine r_iload_n dX12_readExpression_55 rfl rfl ?_
          refine r_iconst (x := 3) dX12_readExpression_56 rfl (by decide) ?_
          obtain ⟨V1, V2⟩ := V
          refine r_jne (tgt := 68) dX12_readExpression_57 (by decide) (fun c27 => ?_) (fun c27 => ?_)
          · have V := V1 c27
            refine r_aload_n dX12_readExpression_68 rfl rfl ?_
            refine r_callV (args := []) dX12_readExpression_69 kX12_276 ob_145 ⟨_, _, rfl⟩ (by decide) rfl rfl (Nat.le_of_ble_eq_true rfl) cap0 (Ev.mono V ?_)
            rintro r h' ⟨x29, n28, rfl, rfl, V⟩
            show Rn w mX12_readExpression (d + 1) G Q 72 [(0, vr 145), (1, vi x1), (2, vi x2)] [vi x29] (B0, n28)
            refine r_istore_n (ls' := [(0, vr 145), (1, vi x1), (2, vi x29)]) dX12_readExpression_72 rfl (by decide) rfl ?_
            refine r_goto (tgt := 20) dX12_readExpression_73 (by decide) ?_
            exact V
          · have V := V2 c27
            refine r_aload_n dX12_readExpression_60 rfl rfl ?_
            refine r_iload_n dX12_readExpression_61 rfl rfl ?_
            refine r_callV (args := [vi x1]) dX12_readExpression_62 kX12_272 ob_145 ⟨_, _, rfl⟩ (by decide) rfl rfl (Nat.le_of_ble_eq_true rfl) cap0 (Ev.mono V ?_)
            rintro r h' ⟨x31, n30, rfl, rfl, V⟩
            show Rn w mX12_readExpression (d + 1) G Q 65 [(0, vr 145), (1, vi x1), (2, vi x2)] [vi x31] (B0, n30)
            refine r_goto (tgt := 72) dX12_readExpression_65 (by decide) ?_
            refine r_istore_n (ls' := [(0, vr 145), (1, vi x1), (2, vi x31)]) dX12_readExpression_72 rfl (by decide) rfl ?_
            refine r_goto (tgt := 20) dX12_readExpression_73 (by decide) ?_
            exact V
        · have V := V2 c26
          refine r_aload_n dX12_readExpression_48 rfl rfl ?_
          refine r_callV (args := []) dX12_readExpression_49 kX12_252 ob_145 ⟨_, _, rfl⟩ (by decide) rfl rfl (Nat.le_of_ble_eq_true rfl) cap0 (Ev.mono V ?_)
          rintro r h' ⟨x33, n32, rfl, rfl, V⟩
          show Rn w mX12_readExpression (d + 1) G Q 52 [(0, vr 145), (1, vi x1), (2, vi x2)] [vi x33] (B0, n32)
          refine r_goto (tgt := 72) dX12_readExpression_52 (by decide) ?_
          refine r_istore_n (ls' := [(0, vr 145), (1, vi x1), (2, vi x33)]) dX12_readExpression_72 rfl (by decide) rfl ?_
          refine r_goto (tgt := 20) dX12_readExpression_73 (by decide) ?_
          exact V
      · have V := V2 c25
        refine r_aload_n dX12_readExpression_36 rfl rfl ?_
        refine r_callV (args := []) dX12_readExpression_37 kX12_269 ob_145 ⟨_, _, rfl⟩ (by decide) rfl rfl (Nat.le_of_ble_eq_true rfl) cap0 (Ev.mono V ?_)
        rintro r h' ⟨x35, n34, rfl, rfl, V⟩
        show Rn w mX12_readExpression (d + 1) G Q 40 [(0, vr 145), (1, vi x1), (2, vi x2)] [vi x35] (B0, n34)
        refine r_goto (tgt := 72) dX12_readExpression_40 (by decide) ?_
        refine r_istore_n (ls' := [(0, vr 145), (1, vi x1), (2, vi x35)]) dX12_readExpression_72 rfl (by decide) rfl ?_
        refine r_goto (tgt := 20) dX12_readExpression_73 (by decide) ?_
        exact V

theorem gX12_headAt_0 {w : WD} {d : Nat} {G : GM} {Q : Option AV → Hp → Prop} {n : NM}
    (V :
    (Ev w d 0 0 mX12_isWord [vr 145, vl 755045] (B0, n) (fun r h' => ∃ (x22 : Int) (n21 : NM), r = some (vi x22) ∧ h' = (B0, n21) ∧ 
      ((x22 ≠ 0 →
        Rn w mX12_headAt (d + 1) G Q 30 [(0, vr 145)] [] (B0, n21)) ∧
      (x22 = 0 →
        (Ev w d 0 0 mX12_isWord [vr 145, vl 2262644] (B0, n21) (fun r h' => ∃ (x25 : Int) (n24 : NM), r = some (vi x25) ∧ h' = (B0, n24) ∧ 
          ((x25 ≠ 0 →
            Rn w mX12_headAt (d + 1) G Q 30 [(0, vr 145)] [] (B0, n24)) ∧
          (x25 = 0 →
            (Ev w d 0 0 mX12_isWord [vr 145, vl 12775] (B0, n24) (fun r h' => ∃ (x28 : Int) (n27 : NM), r = some (vi x28) ∧ h' = (B0, n27) ∧ 
              ((x28 = 0 →
                (Ev w d 0 0 mX12_isWord [vr 145, vl 71124] (B0, n27) (fun r h' => ∃ (x31 : Int) (n30 : NM), r = some (vi x31) ∧ h' = (B0, n30) ∧ 
                  ((x31 = 0 →
                    (Ev w d 0 0 mX12_isWord [vr 145, vl 427141] (B0, n30) (fun r h' => ∃ (x34 : Int) (n33 : NM), r = some (vi x34) ∧ h' = (B0, n33) ∧ 
                      ((x34 = 0 →
                        (Ev w d 0 0 mX12_isWord [vr 145, vl 248311] (B0, n33) (fun r h' => ∃ (x37 : Int) (n36 : NM), r = some (vi x37) ∧ h' = (B0, n36) ∧ 
                          ((x37 = 0 →
                            Q (some (vi (-1))) (B0, n36)) ∧
                          (x37 ≠ 0 →
                            Q (some (vi 5)) (B0, n36)))))) ∧
                      (x34 ≠ 0 →
                        Q (some (vi 4)) (B0, n33)))))) ∧
                  (x31 ≠ 0 →
                    Q (some (vi 3)) (B0, n30)))))) ∧
              (x28 ≠ 0 →
                Rn w mX12_headAt (d + 1) G Q 30 [(0, vr 145)] [] (B0, n27)))))))))))))) :
    Rn w mX12_headAt (d + 1) G Q 0 [(0, vr 145)] [] (B0, n) := by
  refine r_aload_n dX12_headAt_0 rfl rfl ?_
  refine r_ldc2 (x := 755045) dX12_headAt_1 qX12_279 (by decide) ?_
  refine r_callV (args := [vl 755045]) dX12_headAt_4 kX12_205 ob_145 ⟨_, _, rfl⟩ (by decide) rfl rfl (Nat.le_of_ble_eq_true rfl) cap0 (Ev.mono V ?_)
  rintro r h' ⟨x22, n21, rfl, rfl, V⟩
  show Rn w mX12_headAt (d + 1) G Q 7 [(0, vr 145)] [vi x22] (B0, n21)
  obtain ⟨V1, V2⟩ := V
  refine r_zne (tgt := 30) dX12_headAt_7 (by decide) (fun c23 => ?_) (fun c23 => ?_)
  · have V := V1 c23
    exact V
  · have V := V2 c23
    refine r_aload_n dX12_headAt_10 rfl rfl ?_
    refine r_ldc2 (x := 2262644) dX12_headAt_11 qX12_281 (by decide) ?_
    refine r_callV (args := [vl 2262644]) dX12_headAt_14 kX12_205 ob_145 ⟨_, _, rfl⟩ (by decide) rfl rfl (Nat.le_of_ble_eq_true rfl) cap0 (Ev.mono V ?_)
    rintro r h' ⟨x25, n24, rfl, rfl, V⟩
    show Rn w mX12_headAt (d + 1) G Q 17 [(0, vr 145)] [vi x25] (B0, n24)
    obtain ⟨V1, V2⟩ := V
    refine r_zne (tgt := 30) dX12_headAt_17 (by decide) (fun c26 => ?_) (fun c26 => ?_)
    · have V := V1 c26
      exact V
    · have V := V2 c26
      refine r_aload_n dX12_headAt_20 rfl rfl ?_
      refine r_ldc2 (x := 12775) dX12_headAt_21 qX12_283 (by decide) ?_
      refine r_callV (args := [vl 12775]) dX12_headAt_24 kX12_205 ob_145 ⟨_, _, rfl⟩ (by decide) rfl rfl (Nat.le_of_ble_eq_true rfl) cap0 (Ev.mono V ?_)
      rintro r h' ⟨x28, n27, rfl, rfl, V⟩
      show Rn w mX12_headAt (d + 1) G Q 27 [(0, vr 145)] [vi x28] (B0, n27)
      obtain ⟨V1, V2⟩ := V
      refine r_zeq (tgt := 60) dX12_headAt_27 (by decide) (fun c29 => ?_) (fun c29 => ?_)
      · have V := V1 c29
        refine r_aload_n dX12_headAt_60 rfl rfl ?_
        refine r_ldc2 (x := 71124) dX12_headAt_61 qX12_285 (by decide) ?_
        refine r_callV (args := [vl 71124]) dX12_headAt_64 kX12_205 ob_145 ⟨_, _, rfl⟩ (by decide) rfl rfl (Nat.le_of_ble_eq_true rfl) cap0 (Ev.mono V ?_)
        rintro r h' ⟨x31, n30, rfl, rfl, V⟩
        show Rn w mX12_headAt (d + 1) G Q 67 [(0, vr 145)] [vi x31] (B0, n30)
        obtain ⟨V1, V2⟩ := V
        refine r_zeq (tgt := 74) dX12_headAt_67 (by decide) (fun c32 => ?_) (fun c32 => ?_)
        · have V := V1 c32
          refine r_aload_n dX12_headAt_74 rfl rfl ?_
          refine r_ldc2 (x := 427141) dX12_headAt_75 qX12_287 (by decide) ?_
          refine r_callV (args := [vl 427141]) dX12_headAt_78 kX12_205 ob_145 ⟨_, _, rfl⟩ (by decide) rfl rfl (Nat.le_of_ble_eq_true rfl) cap0 (Ev.mono V ?_)
          rintro r h' ⟨x34, n33, rfl, rfl, V⟩
          show Rn w mX12_headAt (d + 1) G Q 81 [(0, vr 145)] [vi x34] (B0, n33)
          obtain ⟨V1, V2⟩ := V
          refine r_zeq (tgt := 88) dX12_headAt_81 (by decide) (fun c35 => ?_) (fun c35 => ?_)
          · have V := V1 c35
            refine r_aload_n dX12_headAt_88 rfl rfl ?_
            refine r_ldc2 (x := 248311) dX12_headAt_89 qX12_289 (by decide) ?_
            refine r_callV (args := [vl 248311]) dX12_headAt_92 kX12_205 ob_145 ⟨_, _, rfl⟩ (by decide) rfl rfl (Nat.le_of_ble_eq_true rfl) cap0 (Ev.mono V ?_)
            rintro r h' ⟨x37, n36, rfl, rfl, V⟩
            show Rn w mX12_headAt (d + 1) G Q 95 [(0, vr 145)] [vi x37] (B0, n36)
            obtain ⟨V1, V2⟩ := V
            refine r_zeq (tgt := 102) dX12_headAt_95 (by decide) (fun c38 => ?_) (fun c38 => ?_)
            · have V := V1 c38
              refine r_iconst (x := -1) dX12_headAt_102 rfl (by decide) ?_
              exact r_iret dX12_headAt_103 rfl V
            · have V := V2 c38
              refine r_iconst (x := 5) dX12_headAt_98 rfl (by decide) ?_
              refine r_goto (tgt := 103) dX12_headAt_99 (by decide) ?_
              exact r_iret dX12_headAt_103 rfl V
          · have V := V2 c35
            refine r_iconst (x := 4) dX12_headAt_84 rfl (by decide) ?_
            refine r_goto (tgt := 103) dX12_headAt_85 (by decide) ?_
            exact r_iret dX12_headAt_103 rfl V
        · have V := V2 c32
          refine r_iconst (x := 3) dX12_headAt_70 rfl (by decide) ?_
          refine r_goto (tgt := 103) dX12_headAt_71 (by decide) ?_
          exact r_iret dX12_headAt_103 rfl V
      · have V := V2 c29
        exact V

theorem gX12_headAt_30 {w : WD} {d : Nat} {G : GM} {Q : Option AV → Hp → Prop} {n : NM}
    (V :
    (Ev w d 0 0 mX12_isWord [vr 145, vl 755045] (B0, n) (fun r h' => ∃ (x22 : Int) (n21 : NM), r = some (vi x22) ∧ h' = (B0, n21) ∧ 
      ((x22 = 0 →
        (Ev w d 0 0 mX12_isWord [vr 145, vl 2262644] (B0, n21) (fun r h' => ∃ (x25 : Int) (n24 : NM), r = some (vi x25) ∧ h' = (B0, n24) ∧ 
          ((x25 = 0 →
            Q (some (vi 2)) (B0, n24)) ∧
          (x25 ≠ 0 →
            Q (some (vi 1)) (B0, n24)))))) ∧
      (x22 ≠ 0 →
        Q (some (vi 0)) (B0, n21)))))) :
    Rn w mX12_headAt (d + 1) G Q 30 [(0, vr 145)] [] (B0, n) := by
  refine r_aload_n dX12_headAt_30 rfl rfl ?_
  refine r_ldc2 (x := 755045) dX12_headAt_31 qX12_279 (by decide) ?_
  refine r_callV (args := [vl 755045]) dX12_headAt_34 kX12_205 ob_145 ⟨_, _, rfl⟩ (by decide) rfl rfl (Nat.le_of_ble_eq_true rfl) cap0 (Ev.mono V ?_)
  rintro r h' ⟨x22, n21, rfl, rfl, V⟩
  show Rn w mX12_headAt (d + 1) G Q 37 [(0, vr 145)] [vi x22] (B0, n21)
  obtain ⟨V1, V2⟩ := V
  refine r_zeq (tgt := 44) dX12_headAt_37 (by decide) (fun c23 => ?_) (fun c23 => ?_)
  · have V := V1 c23
    refine r_aload_n dX12_headAt_44 rfl rfl ?_
    refine r_ldc2 (x := 2262644) dX12_headAt_45 qX12_281 (by decide) ?_
    refine r_callV (args := [vl 2262644]) dX12_headAt_48 kX12_205 ob_145 ⟨_, _, rfl⟩ (by decide) rfl rfl (Nat.le_of_ble_eq_true rfl) cap0 (Ev.mono V ?_)
    rintro r h' ⟨x25, n24, rfl, rfl, V⟩
    show Rn w mX12_headAt (d + 1) G Q 51 [(0, vr 145)] [vi x25] (B0, n24)
    obtain ⟨V1, V2⟩ := V
    refine r_zeq (tgt := 58) dX12_headAt_51 (by decide) (fun c26 => ?_) (fun c26 => ?_)
    · have V := V1 c26
      refine r_iconst (x := 2) dX12_headAt_58 rfl (by decide) ?_
      exact r_iret dX12_headAt_59 rfl V
    · have V := V2 c26
      refine r_iconst (x := 1) dX12_headAt_54 rfl (by decide) ?_
      refine r_goto (tgt := 59) dX12_headAt_55 (by decide) ?_
      exact r_iret dX12_headAt_59 rfl V
  · have V := V2 c23
    refine r_iconst (x := 0) dX12_headAt_40 rfl (by decide) ?_
    refine r_goto (tgt := 59) dX12_headAt_41 (by decide) ?_
    exact r_iret dX12_headAt_59 rfl V

theorem gX12_readClause_0 {w : WD} {d : Nat} {G : GM} {Q : Option AV → Hp → Prop} {n : NM}
    (V :
    (Ev w d 0 0 mX12_headAt [vr 145] (B0, n) (fun r h' => ∃ (x22 : Int) (n21 : NM), r = some (vi x22) ∧ h' = (B0, n21) ∧ 
      (∀ z25 : Int, z25 = (if x22 = (-1) then 0 else (if 12 ≤ n21 145 15 then 0 else 1)) → 
      (Ev w d 0 0 mX12_must [vr 145, vi z25] (B0, n21) (fun r h' => ∃ n26 : NM, r = none ∧ h' = (B0, n26) ∧ 
        ((n26 145 14 = 0 →
          (inI (8 * (n26 145 15))) ∧
          Rn w mX12_readClause (d + 1) G Q 46 [(0, vr 145), (1, vi x22), (2, vi (8 * (n26 145 15))), (3, vi 0)] [] (B0, n26)) ∧
        (n26 145 14 ≠ 0 →
          Q none (B0, n26))))))))) :
    Rn w mX12_readClause (d + 1) G Q 0 [(0, vr 145)] [] (B0, n) := by
  refine r_aload_n dX12_readClause_0 rfl rfl ?_
  refine r_callV (args := []) dX12_readClause_1 kX12_291 ob_145 ⟨_, _, rfl⟩ (by decide) rfl rfl (Nat.le_of_ble_eq_true rfl) cap0 (Ev.mono V ?_)
  rintro r h' ⟨x22, n21, rfl, rfl, V⟩
  show Rn w mX12_readClause (d + 1) G Q 4 [(0, vr 145)] [vi x22] (B0, n21)
  refine r_istore_n (ls' := [(0, vr 145), (1, vi x22)]) dX12_readClause_4 rfl (by decide) rfl ?_
  refine r_aload_n dX12_readClause_5 rfl rfl ?_
  refine r_iload_n dX12_readClause_6 rfl rfl ?_
  refine r_iconst (x := -1) dX12_readClause_7 rfl (by decide) ?_
  have K : ∀ z25 : Int, z25 = (if x22 = (-1) then 0 else (if 12 ≤ n21 145 15 then 0 else 1)) → Rn w mX12_readClause (d + 1) G Q 25 [(0, vr 145), (1, vi x22)] [vi z25, vr 145] (B0, n21) := by
    intro z25 ez25
    have V := V z25 ez25
    refine r_callV (args := [vi z25]) dX12_readClause_25 kX12_182 ob_145 ⟨_, _, rfl⟩ (by decide) rfl rfl (Nat.le_of_ble_eq_true rfl) cap0 (Ev.mono V ?_)
    rintro r h' ⟨n26, rfl, rfl, V⟩
    show Rn w mX12_readClause (d + 1) G Q 28 [(0, vr 145), (1, vi x22)] [] (B0, n26)
    refine r_aload_n dX12_readClause_28 rfl rfl ?_
    refine r_getI (fi := 14) dX12_readClause_29 fX12_147 ob_145 (by decide) (by decide) rfl ?_
    obtain ⟨V1, V2⟩ := V
    refine r_zeq (tgt := 36) dX12_readClause_32 (by decide) (fun c27 => ?_) (fun c27 => ?_)
    · have V := V1 c27
      refine r_bipush (x := 8) dX12_readClause_36 (by decide +kernel) (by decide) ?_
      refine r_aload_n dX12_readClause_38 rfl rfl ?_
      refine r_getI (fi := 15) dX12_readClause_39 fX12_294 ob_145 (by decide) (by decide) rfl ?_
      obtain ⟨s28, V⟩ := V
      refine r_imul dX12_readClause_42 s28 ?_
      refine r_istore_n (ls' := [(0, vr 145), (1, vi x22), (2, vi (8 * (n26 145 15)))]) dX12_readClause_43 rfl (by decide) rfl ?_
      refine r_iconst (x := 0) dX12_readClause_44 rfl (by decide) ?_
      refine r_istore_n (ls' := [(0, vr 145), (1, vi x22), (2, vi (8 * (n26 145 15))), (3, vi 0)]) dX12_readClause_45 rfl (by decide) rfl ?_
      exact V
    · have V := V2 c27
      exact r_ret dX12_readClause_35 rfl V
  refine r_jeq (tgt := 24) dX12_readClause_8 (by decide) (fun c23 => ?_) (fun c23 => ?_)
  · refine r_iconst (x := 0) dX12_readClause_24 rfl (by decide) ?_
    exact K 0 (by first | rfl | (simp only [if_pos c23]))
  · refine r_aload_n dX12_readClause_11 rfl rfl ?_
    refine r_getI (fi := 15) dX12_readClause_12 fX12_294 ob_145 (by decide) (by decide) rfl ?_
    refine r_bipush (x := 12) dX12_readClause_15 (by decide +kernel) (by decide) ?_
    refine r_jge (tgt := 24) dX12_readClause_17 (by decide) (fun c24 => ?_) (fun c24 => ?_)
    · refine r_iconst (x := 0) dX12_readClause_24 rfl (by decide) ?_
      exact K 0 (by first | rfl | (simp only [if_neg c23, if_pos c24]))
    · refine r_iconst (x := 1) dX12_readClause_20 rfl (by decide) ?_
      refine r_goto (tgt := 25) dX12_readClause_21 (by decide) ?_
      exact K 1 (by first | rfl | (simp only [if_neg c23, if_neg (Int.not_le.mpr c24)]))

theorem gX12_readClause_46 {w : WD} {d : Nat} {G : GM} {Q : Option AV → Hp → Prop} {n : NM} {x1 x2 x3 : Int}
    (V :
    ((8 ≤ x3 →
      (0 ≤ x2) ∧
      (x2 < 96) ∧
      (inI ((n 145 15) + 1)) ∧
      (inI (x2 + 3)) ∧
      (0 ≤ x2 + 3) ∧
      (x2 + 3 < 96) ∧
      (Ev w d 0 0 mX12_readExpression [vr 145, vi 0] (B0, upn (upn (upn n 151 x2 x1) 145 15 ((n 145 15) + 1)) 151 (x2 + 3) (n 145 17)) (fun r h' => ∃ n28 : NM, r = none ∧ h' = (B0, n28) ∧ 
        (inI (x2 + 4)) ∧
        (0 ≤ x2 + 4) ∧
        (x2 + 4 < 96) ∧
        (inI (x2 + 5)) ∧
        (0 ≤ x2 + 5) ∧
        (x2 + 5 < 96) ∧
        ((n28 145 14 ≠ 0 →
          Rn w mX12_readClause (d + 1) G Q 151 [(0, vr 145), (2, vi x2)] [] (B0, upn (upn n28 151 (x2 + 4) (n28 145 17)) 151 (x2 + 5) (n28 145 17))) ∧
        (n28 145 14 = 0 →
          (Ev w d 0 0 mX12_isWord [vr 145, vl 294] (B0, upn (upn n28 151 (x2 + 4) (n28 145 17)) 151 (x2 + 5) (n28 145 17)) (fun r h' => ∃ (x37 : Int) (n36 : NM), r = some (vi x37) ∧ h' = (B0, n36) ∧ 
            ((x37 = 0 →
              Rn w mX12_readClause (d + 1) G Q 151 [(0, vr 145), (2, vi x2)] [] (B0, n36)) ∧
            (x37 ≠ 0 →
              (Ev w d 0 0 mX12_next [vr 145] (B0, n36) (fun r h' => ∃ n39 : NM, r = none ∧ h' = (B0, n39) ∧ 
                (Ev w d 0 0 mX12_readExpression [vr 145, vi 1] (B0, n39) (fun r h' => ∃ n40 : NM, r = none ∧ h' = (B0, n40) ∧ 
                  Rn w mX12_readClause (d + 1) G Q 151 [(0, vr 145), (2, vi x2)] [] (B0, n40)))))))))))))) ∧
    (x3 < 8 →
      (inI (x2 + x3)) ∧
      (0 ≤ x2 + x3) ∧
      (x2 + x3 < 96) ∧
      (inI (x3 + 1)) ∧
      Rn w mX12_readClause (d + 1) G Q 46 [(0, vr 145), (1, vi x1), (2, vi x2), (3, vi (x3 + 1))] [] (B0, upn n 151 (x2 + x3) 0)))) :
    Rn w mX12_readClause (d + 1) G Q 46 [(0, vr 145), (1, vi x1), (2, vi x2), (3, vi x3)] [] (B0, n) := by
  refine r_iload_n dX12_readClause_46 rfl rfl ?_
  refine r_bipush (x := 8) dX12_readClause_47 (by decide +kernel) (by decide) ?_
  obtain ⟨V1, V2⟩ := V
  refine r_jge (tgt := 67) dX12_readClause_49 (by decide) (fun c21 => ?_) (fun c21 => ?_)
  · have V := V1 c21
    refine r_aload_n dX12_readClause_67 rfl rfl ?_
    refine r_getR (b := 151) dX12_readClause_68 fX12_30 ob_145 (by decide) rfl rfl ?_
    refine r_iload_n dX12_readClause_71 rfl rfl ?_
    refine r_iload_n dX12_readClause_72 rfl rfl ?_
    obtain ⟨s22, V⟩ := V
    obtain ⟨s23, V⟩ := V
    refine r_iast (h' := (B0, upn n 151 x2 x1)) dX12_readClause_73 ob_151 s22 s23 rfl ?_
    refine r_aload_n dX12_readClause_74 rfl rfl ?_
    refine r_dup dX12_readClause_75 rfl ?_
    refine r_getI (fi := 15) dX12_readClause_76 fX12_294 ob_145 (by decide) (by decide) rfl ?_
    show Rn w mX12_readClause (d + 1) G Q 79 [(0, vr 145), (1, vi x1), (2, vi x2), (3, vi x3)] [vi (n 145 15), vr 145] (B0, upn n 151 x2 x1)
    refine r_iconst (x := 1) dX12_readClause_79 rfl (by decide) ?_
    obtain ⟨s24, V⟩ := V
    refine r_iadd dX12_readClause_80 s24 ?_
    refine r_putI (fi := 15) (h' := (B0, upn (upn n 151 x2 x1) 145 15 ((n 145 15) + 1))) dX12_readClause_81 pX12_294 ob_145 (by decide) rfl rfl rfl ?_
    refine r_aload_n dX12_readClause_84 rfl rfl ?_
    refine r_getR (b := 151) dX12_readClause_85 fX12_30 ob_145 (by decide) rfl rfl ?_
    refine r_iload_n dX12_readClause_88 rfl rfl ?_
    refine r_iconst (x := 3) dX12_readClause_89 rfl (by decide) ?_
    obtain ⟨s25, V⟩ := V
    refine r_iadd dX12_readClause_90 s25 ?_
    refine r_aload_n dX12_readClause_91 rfl rfl ?_
    refine r_getI (fi := 17) dX12_readClause_92 fX12_186 ob_145 (by decide) (by decide) rfl ?_
    show Rn w mX12_readClause (d + 1) G Q 95 [(0, vr 145), (1, vi x1), (2, vi x2), (3, vi x3)] [vi (n 145 17), vi (x2 + 3), vr 151] (B0, upn (upn n 151 x2 x1) 145 15 ((n 145 15) + 1))
    obtain ⟨s26, V⟩ := V
    obtain ⟨s27, V⟩ := V
    refine r_iast (h' := (B0, upn (upn (upn n 151 x2 x1) 145 15 ((n 145 15) + 1)) 151 (x2 + 3) (n 145 17))) dX12_readClause_95 ob_151 s26 s27 rfl ?_
    refine r_aload_n dX12_readClause_96 rfl rfl ?_
    refine r_iconst (x := 0) dX12_readClause_97 rfl (by decide) ?_
    refine r_callV (args := [vi 0]) dX12_readClause_98 kX12_297 ob_145 ⟨_, _, rfl⟩ (by decide) rfl rfl (Nat.le_of_ble_eq_true rfl) cap0 (Ev.mono V ?_)
    rintro r h' ⟨n28, rfl, rfl, V⟩
    show Rn w mX12_readClause (d + 1) G Q 101 [(0, vr 145), (1, vi x1), (2, vi x2), (3, vi x3)] [] (B0, n28)
    refine r_aload_n dX12_readClause_101 rfl rfl ?_
    refine r_getR (b := 151) dX12_readClause_102 fX12_30 ob_145 (by decide) rfl rfl ?_
    refine r_iload_n dX12_readClause_105 rfl rfl ?_
    refine r_iconst (x := 4) dX12_readClause_106 rfl (by decide) ?_
    obtain ⟨s29, V⟩ := V
    refine r_iadd dX12_readClause_107 s29 ?_
    refine r_aload_n dX12_readClause_108 rfl rfl ?_
    refine r_getI (fi := 17) dX12_readClause_109 fX12_186 ob_145 (by decide) (by decide) rfl ?_
    obtain ⟨s30, V⟩ := V
    obtain ⟨s31, V⟩ := V
    refine r_iast (h' := (B0, upn n28 151 (x2 + 4) (n28 145 17))) dX12_readClause_112 ob_151 s30 s31 rfl ?_
    refine r_aload_n dX12_readClause_113 rfl rfl ?_
    refine r_getR (b := 151) dX12_readClause_114 fX12_30 ob_145 (by decide) rfl rfl ?_
    refine r_iload_n dX12_readClause_117 rfl rfl ?_
    refine r_iconst (x := 5) dX12_readClause_118 rfl (by decide) ?_
    obtain ⟨s32, V⟩ := V
    refine r_iadd dX12_readClause_119 s32 ?_
    refine r_aload_n dX12_readClause_120 rfl rfl ?_
    refine r_getI (fi := 17) dX12_readClause_121 fX12_186 ob_145 (by decide) (by decide) rfl ?_
    show Rn w mX12_readClause (d + 1) G Q 124 [(0, vr 145), (1, vi x1), (2, vi x2), (3, vi x3)] [vi (n28 145 17), vi (x2 + 5), vr 151] (B0, upn n28 151 (x2 + 4) (n28 145 17))
    obtain ⟨s33, V⟩ := V
    obtain ⟨s34, V⟩ := V
    refine r_iast (h' := (B0, upn (upn n28 151 (x2 + 4) (n28 145 17)) 151 (x2 + 5) (n28 145 17))) dX12_readClause_124 ob_151 s33 s34 rfl ?_
    refine r_aload_n dX12_readClause_125 rfl rfl ?_
    refine r_getI (fi := 14) dX12_readClause_126 fX12_147 ob_145 (by decide) (by decide) rfl ?_
    show Rn w mX12_readClause (d + 1) G Q 129 [(0, vr 145), (1, vi x1), (2, vi x2), (3, vi x3)] [vi (n28 145 14)] (B0, upn (upn n28 151 (x2 + 4) (n28 145 17)) 151 (x2 + 5) (n28 145 17))
    obtain ⟨V1, V2⟩ := V
    refine r_zne (tgt := 151) dX12_readClause_129 (by decide) (fun c35 => ?_) (fun c35 => ?_)
    · have V := V1 c35
      refine r_pick [0, 2] (ls' := [(0, vr 145), (2, vi x2)]) rfl ?_
      exact V
    · have V := V2 c35
      refine r_aload_n dX12_readClause_132 rfl rfl ?_
      refine r_ldc2 (x := 294) dX12_readClause_133 qX12_300 (by decide) ?_
      refine r_callV (args := [vl 294]) dX12_readClause_136 kX12_205 ob_145 ⟨_, _, rfl⟩ (by decide) rfl rfl (Nat.le_of_ble_eq_true rfl) cap0 (Ev.mono V ?_)
      rintro r h' ⟨x37, n36, rfl, rfl, V⟩
      show Rn w mX12_readClause (d + 1) G Q 139 [(0, vr 145), (1, vi x1), (2, vi x2), (3, vi x3)] [vi x37] (B0, n36)
      obtain ⟨V1, V2⟩ := V
      refine r_zeq (tgt := 151) dX12_readClause_139 (by decide) (fun c38 => ?_) (fun c38 => ?_)
      · have V := V1 c38
        refine r_pick [0, 2] (ls' := [(0, vr 145), (2, vi x2)]) rfl ?_
        exact V
      · have V := V2 c38
        refine r_aload_n dX12_readClause_142 rfl rfl ?_
        refine r_callV (args := []) dX12_readClause_143 kX12_151 ob_145 ⟨_, _, rfl⟩ (by decide) rfl rfl (Nat.le_of_ble_eq_true rfl) cap0 (Ev.mono V ?_)
        rintro r h' ⟨n39, rfl, rfl, V⟩
        show Rn w mX12_readClause (d + 1) G Q 146 [(0, vr 145), (1, vi x1), (2, vi x2), (3, vi x3)] [] (B0, n39)
        refine r_aload_n dX12_readClause_146 rfl rfl ?_
        refine r_iconst (x := 1) dX12_readClause_147 rfl (by decide) ?_
        refine r_callV (args := [vi 1]) dX12_readClause_148 kX12_297 ob_145 ⟨_, _, rfl⟩ (by decide) rfl rfl (Nat.le_of_ble_eq_true rfl) cap0 (Ev.mono V ?_)
        rintro r h' ⟨n40, rfl, rfl, V⟩
        show Rn w mX12_readClause (d + 1) G Q 151 [(0, vr 145), (1, vi x1), (2, vi x2), (3, vi x3)] [] (B0, n40)
        refine r_pick [0, 2] (ls' := [(0, vr 145), (2, vi x2)]) rfl ?_
        exact V
  · have V := V2 c21
    refine r_aload_n dX12_readClause_52 rfl rfl ?_
    refine r_getR (b := 151) dX12_readClause_53 fX12_30 ob_145 (by decide) rfl rfl ?_
    refine r_iload_n dX12_readClause_56 rfl rfl ?_
    refine r_iload_n dX12_readClause_57 rfl rfl ?_
    obtain ⟨s41, V⟩ := V
    refine r_iadd dX12_readClause_58 s41 ?_
    refine r_iconst (x := 0) dX12_readClause_59 rfl (by decide) ?_
    obtain ⟨s42, V⟩ := V
    obtain ⟨s43, V⟩ := V
    refine r_iast (h' := (B0, upn n 151 (x2 + x3) 0)) dX12_readClause_60 ob_151 s42 s43 rfl ?_
    obtain ⟨s44, V⟩ := V
    refine r_iinc (y := x3 + 1) (ls' := [(0, vr 145), (1, vi x1), (2, vi x2), (3, vi (x3 + 1))]) dX12_readClause_61 rfl rfl s44 (by decide) rfl ?_
    refine r_goto (tgt := 46) dX12_readClause_64 (by decide) ?_
    exact V

theorem gX12_readClause_151 {w : WD} {d : Nat} {G : GM} {Q : Option AV → Hp → Prop} {n : NM} {x2 : Int}
    (V :
    (inI (x2 + 6)) ∧
    (0 ≤ x2 + 6) ∧
    (x2 + 6 < 96) ∧
    Q none (B0, upn n 151 (x2 + 6) (n 145 17))) :
    Rn w mX12_readClause d G Q 151 [(0, vr 145), (2, vi x2)] [] (B0, n) := by
  refine r_aload_n dX12_readClause_151 rfl rfl ?_
  refine r_getR (b := 151) dX12_readClause_152 fX12_30 ob_145 (by decide) rfl rfl ?_
  refine r_iload_n dX12_readClause_155 rfl rfl ?_
  refine r_bipush (x := 6) dX12_readClause_156 (by decide +kernel) (by decide) ?_
  obtain ⟨s21, V⟩ := V
  refine r_iadd dX12_readClause_158 s21 ?_
  refine r_aload_n dX12_readClause_159 rfl rfl ?_
  refine r_getI (fi := 17) dX12_readClause_160 fX12_186 ob_145 (by decide) (by decide) rfl ?_
  obtain ⟨s22, V⟩ := V
  obtain ⟨s23, V⟩ := V
  refine r_iast (h' := (B0, upn n 151 (x2 + 6) (n 145 17))) dX12_readClause_163 ob_151 s22 s23 rfl ?_
  exact r_ret dX12_readClause_164 rfl V

theorem gX12_law_0 {w : WD} {d : Nat} {G : GM} {Q : Option AV → Hp → Prop} {n : NM}
    (V :
    (Ev w d 0 0 mX12_begin [vr 145] (B0, upn n 145 0 0) (fun r h' => ∃ n21 : NM, r = none ∧ h' = (B0, n21) ∧ 
      (Ev w d 0 0 mX12_readClause [vr 145] (B0, upn (upn (upn n21 145 15 0) 145 17 0) 145 20 0) (fun r h' => ∃ n22 : NM, r = none ∧ h' = (B0, n22) ∧ 
        Rn w mX12_law (d + 1) G Q 28 [(0, vr 145)] [] (B0, n22)))))) :
    Rn w mX12_law (d + 1) G Q 0 [(0, vr 145)] [] (B0, n) := by
  refine r_aload_n dX12_law_0 rfl rfl ?_
  refine r_iconst (x := 0) dX12_law_1 rfl (by decide) ?_
  refine r_putI (fi := 0) (h' := (B0, upn n 145 0 0)) dX12_law_2 pX12_76 ob_145 (by decide) rfl rfl rfl ?_
  refine r_aload_n dX12_law_5 rfl rfl ?_
  refine r_callV (args := []) dX12_law_6 kX12_302 ob_145 ⟨_, _, rfl⟩ (by decide) rfl rfl (Nat.le_of_ble_eq_true rfl) cap0 (Ev.mono V ?_)
  rintro r h' ⟨n21, rfl, rfl, V⟩
  show Rn w mX12_law (d + 1) G Q 9 [(0, vr 145)] [] (B0, n21)
  refine r_aload_n dX12_law_9 rfl rfl ?_
  refine r_iconst (x := 0) dX12_law_10 rfl (by decide) ?_
  refine r_putI (fi := 15) (h' := (B0, upn n21 145 15 0)) dX12_law_11 pX12_294 ob_145 (by decide) rfl rfl rfl ?_
  refine r_aload_n dX12_law_14 rfl rfl ?_
  refine r_iconst (x := 0) dX12_law_15 rfl (by decide) ?_
  refine r_putI (fi := 17) (h' := (B0, upn (upn n21 145 15 0) 145 17 0)) dX12_law_16 pX12_186 ob_145 (by decide) rfl rfl rfl ?_
  refine r_aload_n dX12_law_19 rfl rfl ?_
  refine r_iconst (x := 0) dX12_law_20 rfl (by decide) ?_
  refine r_putI (fi := 20) (h' := (B0, upn (upn (upn n21 145 15 0) 145 17 0) 145 20 0)) dX12_law_21 pX12_231 ob_145 (by decide) rfl rfl rfl ?_
  refine r_aload_n dX12_law_24 rfl rfl ?_
  refine r_callV (args := []) dX12_law_25 kX12_305 ob_145 ⟨_, _, rfl⟩ (by decide) rfl rfl (Nat.le_of_ble_eq_true rfl) cap0 (Ev.mono V ?_)
  rintro r h' ⟨n22, rfl, rfl, V⟩
  show Rn w mX12_law (d + 1) G Q 28 [(0, vr 145)] [] (B0, n22)
  exact V

theorem gX12_law_28 {w : WD} {d : Nat} {G : GM} {Q : Option AV → Hp → Prop} {n : NM}
    (V :
    ((n 145 14 ≠ 0 →
      Rn w mX12_law (d + 1) G Q 55 [(0, vr 145)] [] (B0, n)) ∧
    (n 145 14 = 0 →
      (Ev w d 0 0 mX12_isSign [vr 145, vi 59] (B0, n) (fun r h' => ∃ (x23 : Int) (n22 : NM), r = some (vi x23) ∧ h' = (B0, n22) ∧ 
        ((x23 = 0 →
          Rn w mX12_law (d + 1) G Q 55 [(0, vr 145)] [] (B0, n22)) ∧
        (x23 ≠ 0 →
          (Ev w d 0 0 mX12_next [vr 145] (B0, n22) (fun r h' => ∃ n25 : NM, r = none ∧ h' = (B0, n25) ∧ 
            (Ev w d 0 0 mX12_readClause [vr 145] (B0, n25) (fun r h' => ∃ n26 : NM, r = none ∧ h' = (B0, n26) ∧ 
              Rn w mX12_law (d + 1) G Q 28 [(0, vr 145)] [] (B0, n26)))))))))))) :
    Rn w mX12_law (d + 1) G Q 28 [(0, vr 145)] [] (B0, n) := by
  refine r_aload_n dX12_law_28 rfl rfl ?_
  refine r_getI (fi := 14) dX12_law_29 fX12_147 ob_145 (by decide) (by decide) rfl ?_
  obtain ⟨V1, V2⟩ := V
  refine r_zne (tgt := 55) dX12_law_32 (by decide) (fun c21 => ?_) (fun c21 => ?_)
  · have V := V1 c21
    exact V
  · have V := V2 c21
    refine r_aload_n dX12_law_35 rfl rfl ?_
    refine r_bipush (x := 59) dX12_law_36 (by decide +kernel) (by decide) ?_
    refine r_callV (args := [vi 59]) dX12_law_38 kX12_234 ob_145 ⟨_, _, rfl⟩ (by decide) rfl rfl (Nat.le_of_ble_eq_true rfl) cap0 (Ev.mono V ?_)
    rintro r h' ⟨x23, n22, rfl, rfl, V⟩
    show Rn w mX12_law (d + 1) G Q 41 [(0, vr 145)] [vi x23] (B0, n22)
    obtain ⟨V1, V2⟩ := V
    refine r_zeq (tgt := 55) dX12_law_41 (by decide) (fun c24 => ?_) (fun c24 => ?_)
    · have V := V1 c24
      exact V
    · have V := V2 c24
      refine r_aload_n dX12_law_44 rfl rfl ?_
      refine r_callV (args := []) dX12_law_45 kX12_151 ob_145 ⟨_, _, rfl⟩ (by decide) rfl rfl (Nat.le_of_ble_eq_true rfl) cap0 (Ev.mono V ?_)
      rintro r h' ⟨n25, rfl, rfl, V⟩
      show Rn w mX12_law (d + 1) G Q 48 [(0, vr 145)] [] (B0, n25)
      refine r_aload_n dX12_law_48 rfl rfl ?_
      refine r_callV (args := []) dX12_law_49 kX12_305 ob_145 ⟨_, _, rfl⟩ (by decide) rfl rfl (Nat.le_of_ble_eq_true rfl) cap0 (Ev.mono V ?_)
      rintro r h' ⟨n26, rfl, rfl, V⟩
      show Rn w mX12_law (d + 1) G Q 52 [(0, vr 145)] [] (B0, n26)
      refine r_goto (tgt := 28) dX12_law_52 (by decide) ?_
      exact V

theorem gX12_law_55 {w : WD} {d : Nat} {G : GM} {Q : Option AV → Hp → Prop} {n : NM}
    (V :
    ((n 145 14 ≠ 0 →
      Rn w mX12_law (d + 1) G Q 74 [(0, vr 145)] [] (B0, n)) ∧
    (n 145 14 = 0 →
      ((n 145 11 = 0 →
        Rn w mX12_law (d + 1) G Q 74 [(0, vr 145)] [] (B0, n)) ∧
      (n 145 11 ≠ 0 →
        (Ev w d 0 0 mX12_must [vr 145, vi 0] (B0, n) (fun r h' => ∃ n23 : NM, r = none ∧ h' = (B0, n23) ∧ 
          Rn w mX12_law (d + 1) G Q 74 [(0, vr 145)] [] (B0, n23)))))))) :
    Rn w mX12_law (d + 1) G Q 55 [(0, vr 145)] [] (B0, n) := by
  refine r_aload_n dX12_law_55 rfl rfl ?_
  refine r_getI (fi := 14) dX12_law_56 fX12_147 ob_145 (by decide) (by decide) rfl ?_
  obtain ⟨V1, V2⟩ := V
  refine r_zne (tgt := 74) dX12_law_59 (by decide) (fun c21 => ?_) (fun c21 => ?_)
  · have V := V1 c21
    exact V
  · have V := V2 c21
    refine r_aload_n dX12_law_62 rfl rfl ?_
    refine r_getI (fi := 11) dX12_law_63 fX12_167 ob_145 (by decide) (by decide) rfl ?_
    obtain ⟨V1, V2⟩ := V
    refine r_zeq (tgt := 74) dX12_law_66 (by decide) (fun c22 => ?_) (fun c22 => ?_)
    · have V := V1 c22
      exact V
    · have V := V2 c22
      refine r_aload_n dX12_law_69 rfl rfl ?_
      refine r_iconst (x := 0) dX12_law_70 rfl (by decide) ?_
      refine r_callV (args := [vi 0]) dX12_law_71 kX12_182 ob_145 ⟨_, _, rfl⟩ (by decide) rfl rfl (Nat.le_of_ble_eq_true rfl) cap0 (Ev.mono V ?_)
      rintro r h' ⟨n23, rfl, rfl, V⟩
      show Rn w mX12_law (d + 1) G Q 74 [(0, vr 145)] [] (B0, n23)
      exact V

theorem gX12_law_74 {w : WD} {d : Nat} {G : GM} {Q : Option AV → Hp → Prop} {n : NM}
    (V :
    ((n 145 14 = 0 →
      Rn w mX12_law (d + 1) G Q 107 [(0, vr 145), (1, vi 0)] [] (B0, upn (upn n 145 8 0) 147 901 (n 145 15))) ∧
    (n 145 14 ≠ 0 →
      (Ev w d 0 0 mX12_tell [vr 145, vi (-6)] (B0, upn n 145 8 0) (fun r h' => ∃ (x23 : Int) (n22 : NM), r = some (vi x23) ∧ h' = (B0, n22) ∧ 
        Q (some (vi x23)) (B0, n22)))))) :
    Rn w mX12_law (d + 1) G Q 74 [(0, vr 145)] [] (B0, n) := by
  refine r_aload_n dX12_law_74 rfl rfl ?_
  refine r_iconst (x := 0) dX12_law_75 rfl (by decide) ?_
  refine r_putI (fi := 8) (h' := (B0, upn n 145 8 0)) dX12_law_76 pX12_134 ob_145 (by decide) rfl rfl rfl ?_
  refine r_aload_n dX12_law_79 rfl rfl ?_
  refine r_getI (fi := 14) dX12_law_80 fX12_147 ob_145 (by decide) (by decide) rfl ?_
  show Rn w mX12_law (d + 1) G Q 83 [(0, vr 145)] [vi (n 145 14)] (B0, upn n 145 8 0)
  obtain ⟨V1, V2⟩ := V
  refine r_zeq (tgt := 93) dX12_law_83 (by decide) (fun c21 => ?_) (fun c21 => ?_)
  · have V := V1 c21
    refine r_aload_n dX12_law_93 rfl rfl ?_
    refine r_getR (b := 147) dX12_law_94 fX12_13 ob_145 (by decide) rfl rfl ?_
    refine r_sipush (x := 901) dX12_law_97 (by decide +kernel) (by decide) ?_
    refine r_aload_n dX12_law_100 rfl rfl ?_
    refine r_getI (fi := 15) dX12_law_101 fX12_294 ob_145 (by decide) (by decide) rfl ?_
    show Rn w mX12_law (d + 1) G Q 104 [(0, vr 145)] [vi (n 145 15), vi 901, vr 147] (B0, upn n 145 8 0)
    refine r_iast (h' := (B0, upn (upn n 145 8 0) 147 901 (n 145 15))) dX12_law_104 ob_147 (by decide) (by decide) rfl ?_
    refine r_iconst (x := 0) dX12_law_105 rfl (by decide) ?_
    refine r_istore_n (ls' := [(0, vr 145), (1, vi 0)]) dX12_law_106 rfl (by decide) rfl ?_
    exact V
  · have V := V2 c21
    refine r_aload_n dX12_law_86 rfl rfl ?_
    refine r_bipush (x := -6) dX12_law_87 (by decide +kernel) (by decide) ?_
    refine r_callV (args := [vi (-6)]) dX12_law_89 kX12_86 ob_145 ⟨_, _, rfl⟩ (by decide) rfl rfl (Nat.le_of_ble_eq_true rfl) cap0 (Ev.mono V ?_)
    rintro r h' ⟨x23, n22, rfl, rfl, V⟩
    show Rn w mX12_law (d + 1) G Q 92 [(0, vr 145)] [vi x23] (B0, n22)
    exact r_iret dX12_law_92 rfl V

theorem gX12_law_107 {w : WD} {d : Nat} {G : GM} {Q : Option AV → Hp → Prop} {n : NM} {x1 : Int}
    (V :
    (inI (8 * (n 145 15))) ∧
    ((8 * (n 145 15) ≤ x1 →
      Rn w mX12_law d G Q 142 [(0, vr 145), (1, vi 0)] [] (B0, n)) ∧
    (x1 < 8 * (n 145 15) →
      (inI (902 + x1)) ∧
      (0 ≤ x1) ∧
      (x1 < 96) ∧
      (0 ≤ 902 + x1) ∧
      (902 + x1 < 1800) ∧
      (inI (x1 + 1)) ∧
      Rn w mX12_law d G Q 107 [(0, vr 145), (1, vi (x1 + 1))] [] (B0, upn n 147 (902 + x1) (n 151 x1))))) :
    Rn w mX12_law d G Q 107 [(0, vr 145), (1, vi x1)] [] (B0, n) := by
  refine r_iload_n dX12_law_107 rfl rfl ?_
  refine r_bipush (x := 8) dX12_law_108 (by decide +kernel) (by decide) ?_
  refine r_aload_n dX12_law_110 rfl rfl ?_
  refine r_getI (fi := 15) dX12_law_111 fX12_294 ob_145 (by decide) (by decide) rfl ?_
  obtain ⟨s21, V⟩ := V
  refine r_imul dX12_law_114 s21 ?_
  obtain ⟨V1, V2⟩ := V
  refine r_jge (tgt := 140) dX12_law_115 (by decide) (fun c22 => ?_) (fun c22 => ?_)
  · have V := V1 c22
    refine r_iconst (x := 0) dX12_law_140 rfl (by decide) ?_
    refine r_istore_n (ls' := [(0, vr 145), (1, vi 0)]) dX12_law_141 rfl (by decide) rfl ?_
    exact V
  · have V := V2 c22
    refine r_aload_n dX12_law_118 rfl rfl ?_
    refine r_getR (b := 147) dX12_law_119 fX12_13 ob_145 (by decide) rfl rfl ?_
    refine r_sipush (x := 902) dX12_law_122 (by decide +kernel) (by decide) ?_
    refine r_iload_n dX12_law_125 rfl rfl ?_
    obtain ⟨s23, V⟩ := V
    refine r_iadd dX12_law_126 s23 ?_
    refine r_aload_n dX12_law_127 rfl rfl ?_
    refine r_getR (b := 151) dX12_law_128 fX12_30 ob_145 (by decide) rfl rfl ?_
    refine r_iload_n dX12_law_131 rfl rfl ?_
    obtain ⟨s24, V⟩ := V
    obtain ⟨s25, V⟩ := V
    refine r_iald dX12_law_132 ob_151 s24 s25 ?_
    obtain ⟨s26, V⟩ := V
    obtain ⟨s27, V⟩ := V
    refine r_iast (h' := (B0, upn n 147 (902 + x1) (n 151 x1))) dX12_law_133 ob_147 s26 s27 rfl ?_
    obtain ⟨s28, V⟩ := V
    refine r_iinc (y := x1 + 1) (ls' := [(0, vr 145), (1, vi (x1 + 1))]) dX12_law_134 rfl rfl s28 (by decide) rfl ?_
    refine r_goto (tgt := 107) dX12_law_137 (by decide) ?_
    exact V

theorem gX12_law_142 {w : WD} {d : Nat} {G : GM} {Q : Option AV → Hp → Prop} {n : NM} {x1 : Int}
    (V :
    ((n 145 17 ≤ x1 →
      (Ev w d 0 0 mX12_tell [vr 145, vi (n 145 15)] (B0, n) (fun r h' => ∃ (x23 : Int) (n22 : NM), r = some (vi x23) ∧ h' = (B0, n22) ∧ 
        Q (some (vi x23)) (B0, n22)))) ∧
    (x1 < n 145 17 →
      (inI (2 * x1)) ∧
      (inI (998 + (2 * x1))) ∧
      (0 ≤ x1) ∧
      (x1 < 400) ∧
      (0 ≤ 998 + (2 * x1)) ∧
      (998 + (2 * x1) < 1800) ∧
      (inI (2 * x1)) ∧
      (inI (998 + (2 * x1))) ∧
      (inI ((998 + (2 * x1)) + 1)) ∧
      (0 ≤ x1) ∧
      (x1 < 400) ∧
      (0 ≤ (998 + (2 * x1)) + 1) ∧
      ((998 + (2 * x1)) + 1 < 1800) ∧
      (inI (x1 + 1)) ∧
      Rn w mX12_law (d + 1) G Q 142 [(0, vr 145), (1, vi (x1 + 1))] [] (B0, upn (upn n 147 (998 + (2 * x1)) (n 152 x1)) 147 ((998 + (2 * x1)) + 1) (n 153 x1))))) :
    Rn w mX12_law (d + 1) G Q 142 [(0, vr 145), (1, vi x1)] [] (B0, n) := by
  refine r_iload_n dX12_law_142 rfl rfl ?_
  refine r_aload_n dX12_law_143 rfl rfl ?_
  refine r_getI (fi := 17) dX12_law_144 fX12_186 ob_145 (by decide) (by decide) rfl ?_
  obtain ⟨V1, V2⟩ := V
  refine r_jge (tgt := 194) dX12_law_147 (by decide) (fun c21 => ?_) (fun c21 => ?_)
  · have V := V1 c21
    refine r_aload_n dX12_law_194 rfl rfl ?_
    refine r_aload_n dX12_law_195 rfl rfl ?_
    refine r_getI (fi := 15) dX12_law_196 fX12_294 ob_145 (by decide) (by decide) rfl ?_
    refine r_callV (args := [vi (n 145 15)]) dX12_law_199 kX12_86 ob_145 ⟨_, _, rfl⟩ (by decide) rfl rfl (Nat.le_of_ble_eq_true rfl) cap0 (Ev.mono V ?_)
    rintro r h' ⟨x23, n22, rfl, rfl, V⟩
    show Rn w mX12_law (d + 1) G Q 202 [(0, vr 145), (1, vi x1)] [vi x23] (B0, n22)
    exact r_iret dX12_law_202 rfl V
  · have V := V2 c21
    refine r_aload_n dX12_law_150 rfl rfl ?_
    refine r_getR (b := 147) dX12_law_151 fX12_13 ob_145 (by decide) rfl rfl ?_
    refine r_sipush (x := 998) dX12_law_154 (by decide +kernel) (by decide) ?_
    refine r_iconst (x := 2) dX12_law_157 rfl (by decide) ?_
    refine r_iload_n dX12_law_158 rfl rfl ?_
    obtain ⟨s24, V⟩ := V
    refine r_imul dX12_law_159 s24 ?_
    obtain ⟨s25, V⟩ := V
    refine r_iadd dX12_law_160 s25 ?_
    refine r_aload_n dX12_law_161 rfl rfl ?_
    refine r_getR (b := 152) dX12_law_162 fX12_33 ob_145 (by decide) rfl rfl ?_
    refine r_iload_n dX12_law_165 rfl rfl ?_
    obtain ⟨s26, V⟩ := V
    obtain ⟨s27, V⟩ := V
    refine r_iald dX12_law_166 ob_152 s26 s27 ?_
    obtain ⟨s28, V⟩ := V
    obtain ⟨s29, V⟩ := V
    refine r_iast (h' := (B0, upn n 147 (998 + (2 * x1)) (n 152 x1))) dX12_law_167 ob_147 s28 s29 rfl ?_
    refine r_aload_n dX12_law_168 rfl rfl ?_
    refine r_getR (b := 147) dX12_law_169 fX12_13 ob_145 (by decide) rfl rfl ?_
    refine r_sipush (x := 998) dX12_law_172 (by decide +kernel) (by decide) ?_
    refine r_iconst (x := 2) dX12_law_175 rfl (by decide) ?_
    refine r_iload_n dX12_law_176 rfl rfl ?_
    obtain ⟨s30, V⟩ := V
    refine r_imul dX12_law_177 s30 ?_
    obtain ⟨s31, V⟩ := V
    refine r_iadd dX12_law_178 s31 ?_
    refine r_iconst (x := 1) dX12_law_179 rfl (by decide) ?_
    obtain ⟨s32, V⟩ := V
    refine r_iadd dX12_law_180 s32 ?_
    refine r_aload_n dX12_law_181 rfl rfl ?_
    refine r_getR (b := 153) dX12_law_182 fX12_36 ob_145 (by decide) rfl rfl ?_
    refine r_iload_n dX12_law_185 rfl rfl ?_
    obtain ⟨s33, V⟩ := V
    obtain ⟨s34, V⟩ := V
    refine r_iald dX12_law_186 ob_153 s33 s34 ?_
    show Rn w mX12_law (d + 1) G Q 187 [(0, vr 145), (1, vi x1)] [vi (n 153 x1), vi ((998 + (2 * x1)) + 1), vr 147] (B0, upn n 147 (998 + (2 * x1)) (n 152 x1))
    obtain ⟨s35, V⟩ := V
    obtain ⟨s36, V⟩ := V
    refine r_iast (h' := (B0, upn (upn n 147 (998 + (2 * x1)) (n 152 x1)) 147 ((998 + (2 * x1)) + 1) (n 153 x1))) dX12_law_187 ob_147 s35 s36 rfl ?_
    obtain ⟨s37, V⟩ := V
    refine r_iinc (y := x1 + 1) (ls' := [(0, vr 145), (1, vi (x1 + 1))]) dX12_law_188 rfl rfl s37 (by decide) rfl ?_
    refine r_goto (tgt := 142) dX12_law_191 (by decide) ?_
    exact V

theorem gX12_reckon_0 {w : WD} {d : Nat} {G : GM} {Q : Option AV → Hp → Prop} {n : NM} {x1 x2 x4 : Int}
    (V :
    (x1 = 20 →
      (inJ (x2 + x4)) ∧
      Q (some (vl (x2 + x4))) (B0, n)) ∧
    (x1 = 21 →
      (inJ (x2 - x4)) ∧
      Q (some (vl (x2 - x4))) (B0, n)) ∧
    (x1 = 22 →
      (inJ (x2 * x4)) ∧
      Q (some (vl (x2 * x4))) (B0, n)) ∧
    (x1 = 23 →
      (∀ z25 : Int, z25 = (if x4 ≠ 0 then 0 else 1) → 
      (z25 = 0 ∨ z25 = 1) ∧
      ((z25 = 0 →
        (0 ≤ x2) ∧
        (0 < x4) ∧
        Q (some (vl (x2 / x4))) (B0, upn n 145 27 z25)) ∧
      (z25 ≠ 0 →
        Q (some (vl 0)) (B0, upn n 145 27 z25))))) ∧
    (x1 = 24 →
      ((x4 ≤ x2 →
        Q (some (vl 0)) (B0, n)) ∧
      (x2 < x4 →
        Q (some (vl 1)) (B0, n)))) ∧
    (x1 = 25 →
      ((x2 ≤ x4 →
        Q (some (vl 0)) (B0, n)) ∧
      (x4 < x2 →
        Q (some (vl 1)) (B0, n)))) ∧
    (¬ x1 = 20 → ¬ x1 = 21 → ¬ x1 = 22 → ¬ x1 = 23 → ¬ x1 = 24 → ¬ x1 = 25 →
      ((x2 ≠ x4 →
        Q (some (vl 0)) (B0, n)) ∧
      (x2 = x4 →
        Q (some (vl 1)) (B0, n))))) :
    Rn w mX12_reckon d G Q 0 [(0, vr 145), (1, vi x1), (2, vl x2), (4, vl x4)] [] (B0, n) := by
  refine r_iload_n dX12_reckon_0 rfl rfl ?_
  obtain ⟨V0, V1, V2, V3, V4, V5, VD⟩ := V
  by_cases c0 : x1 = 20
  · have V := V0 c0
    refine r_tableIn (k := 20) (tgt := 40) dX12_reckon_1 c0 (by decide) (by decide) rfl (by decide) ?_
    refine r_lload_n dX12_reckon_40 rfl rfl ?_
    refine r_lload dX12_reckon_41 rfl ?_
    obtain ⟨s21, V⟩ := V
    refine r_ladd dX12_reckon_43 s21 ?_
    exact r_lret dX12_reckon_44 rfl V
  by_cases c1 : x1 = 21
  · have V := V1 c1
    refine r_tableIn (k := 21) (tgt := 45) dX12_reckon_1 c1 (by decide) (by decide) rfl (by decide) ?_
    refine r_lload_n dX12_reckon_45 rfl rfl ?_
    refine r_lload dX12_reckon_46 rfl ?_
    obtain ⟨s22, V⟩ := V
    refine r_lsub dX12_reckon_48 s22 ?_
    exact r_lret dX12_reckon_49 rfl V
  by_cases c2 : x1 = 22
  · have V := V2 c2
    refine r_tableIn (k := 22) (tgt := 50) dX12_reckon_1 c2 (by decide) (by decide) rfl (by decide) ?_
    refine r_lload_n dX12_reckon_50 rfl rfl ?_
    refine r_lload dX12_reckon_51 rfl ?_
    obtain ⟨s23, V⟩ := V
    refine r_lmul dX12_reckon_53 s23 ?_
    exact r_lret dX12_reckon_54 rfl V
  by_cases c3 : x1 = 23
  · have V := V3 c3
    refine r_tableIn (k := 23) (tgt := 55) dX12_reckon_1 c3 (by decide) (by decide) rfl (by decide) ?_
    refine r_aload_n dX12_reckon_55 rfl rfl ?_
    refine r_lload dX12_reckon_56 rfl ?_
    refine r_lconst (x := 0) dX12_reckon_58 rfl (by decide) ?_
    have K : ∀ z25 : Int, z25 = (if x4 ≠ 0 then 0 else 1) → Rn w mX12_reckon d G Q 68 [(0, vr 145), (2, vl x2), (4, vl x4)] [vi z25, vr 145] (B0, n) := by
      intro z25 ez25
      have V := V z25 ez25
      obtain ⟨s26, V⟩ := V
      refine r_putZ (fi := 27) (h' := (B0, upn n 145 27 z25)) dX12_reckon_68 pX12_308 ob_145 (by decide) rfl rfl s26 rfl ?_
      refine r_aload_n dX12_reckon_71 rfl rfl ?_
      refine r_getI (fi := 27) dX12_reckon_72 fX12_308 ob_145 (by decide) (by decide) rfl ?_
      show Rn w mX12_reckon d G Q 75 [(0, vr 145), (2, vl x2), (4, vl x4)] [vi z25] (B0, upn n 145 27 z25)
      obtain ⟨V1, V2⟩ := V
      refine r_zeq (tgt := 82) dX12_reckon_75 (by decide) (fun c27 => ?_) (fun c27 => ?_)
      · have V := V1 c27
        refine r_lload_n dX12_reckon_82 rfl rfl ?_
        refine r_lload dX12_reckon_83 rfl ?_
        obtain ⟨s28, V⟩ := V
        obtain ⟨s29, V⟩ := V
        refine r_ldiv dX12_reckon_85 s28 s29 ?_
        exact r_lret dX12_reckon_86 rfl V
      · have V := V2 c27
        refine r_lconst (x := 0) dX12_reckon_78 rfl (by decide) ?_
        refine r_goto (tgt := 86) dX12_reckon_79 (by decide) ?_
        exact r_lret dX12_reckon_86 rfl V
    refine r_lne dX12_reckon_59 rfl dX12_reckon_60 (tgt := 67) (by decide) (fun c24 => ?_) (fun c24 => ?_)
    · refine r_iconst (x := 0) dX12_reckon_67 rfl (by decide) ?_
      refine r_pick [0, 2, 3] (ls' := [(0, vr 145), (2, vl x2), (4, vl x4)]) rfl ?_
      exact K 0 (by first | rfl | (simp only [if_pos c24]))
    · refine r_iconst (x := 1) dX12_reckon_63 rfl (by decide) ?_
      refine r_goto (tgt := 68) dX12_reckon_64 (by decide) ?_
      refine r_pick [0, 2, 3] (ls' := [(0, vr 145), (2, vl x2), (4, vl x4)]) rfl ?_
      exact K 1 (by first | rfl | (simp only [if_neg (show ¬ (x4 ≠ 0) from not_not_intro c24)]))
  by_cases c4 : x1 = 24
  · have V := V4 c4
    refine r_tableIn (k := 24) (tgt := 87) dX12_reckon_1 c4 (by decide) (by decide) rfl (by decide) ?_
    refine r_lload_n dX12_reckon_87 rfl rfl ?_
    refine r_lload dX12_reckon_88 rfl ?_
    obtain ⟨V1, V2⟩ := V
    refine r_lge dX12_reckon_90 rfl dX12_reckon_91 (tgt := 98) (by decide) (fun c30 => ?_) (fun c30 => ?_)
    · have V := V1 c30
      refine r_lconst (x := 0) dX12_reckon_98 rfl (by decide) ?_
      exact r_lret dX12_reckon_99 rfl V
    · have V := V2 c30
      refine r_lconst (x := 1) dX12_reckon_94 rfl (by decide) ?_
      refine r_goto (tgt := 99) dX12_reckon_95 (by decide) ?_
      exact r_lret dX12_reckon_99 rfl V
  by_cases c5 : x1 = 25
  · have V := V5 c5
    refine r_tableIn (k := 25) (tgt := 100) dX12_reckon_1 c5 (by decide) (by decide) rfl (by decide) ?_
    refine r_lload_n dX12_reckon_100 rfl rfl ?_
    refine r_lload dX12_reckon_101 rfl ?_
    obtain ⟨V1, V2⟩ := V
    refine r_lle dX12_reckon_103 rfl dX12_reckon_104 (tgt := 111) (by decide) (fun c31 => ?_) (fun c31 => ?_)
    · have V := V1 c31
      refine r_lconst (x := 0) dX12_reckon_111 rfl (by decide) ?_
      exact r_lret dX12_reckon_112 rfl V
    · have V := V2 c31
      refine r_lconst (x := 1) dX12_reckon_107 rfl (by decide) ?_
      refine r_goto (tgt := 112) dX12_reckon_108 (by decide) ?_
      exact r_lret dX12_reckon_112 rfl V
  have V := VD c0 c1 c2 c3 c4 c5
  refine r_tableOut (tgt := 113) dX12_reckon_1 (by omega) (by decide) ?_
  refine r_lload_n dX12_reckon_113 rfl rfl ?_
  refine r_lload dX12_reckon_114 rfl ?_
  obtain ⟨V1, V2⟩ := V
  refine r_lne dX12_reckon_116 rfl dX12_reckon_117 (tgt := 124) (by decide) (fun c32 => ?_) (fun c32 => ?_)
  · have V := V1 c32
    refine r_lconst (x := 0) dX12_reckon_124 rfl (by decide) ?_
    exact r_lret dX12_reckon_125 rfl V
  · have V := V2 c32
    refine r_lconst (x := 1) dX12_reckon_120 rfl (by decide) ?_
    refine r_goto (tgt := 125) dX12_reckon_121 (by decide) ?_
    exact r_lret dX12_reckon_125 rfl V

theorem gX12_reckonAll_0 {w : WD} {d : Nat} {G : GM} {Q : Option AV → Hp → Prop} {n : NM} {x1 x2 : Int}
    (V :
    Rn w mX12_reckonAll d G Q 10 [(0, vr 145), (2, vi x2), (3, vi 0), (4, vi x1)] [] (B0, upn n 145 27 0)) :
    Rn w mX12_reckonAll d G Q 0 [(0, vr 145), (1, vi x1), (2, vi x2)] [] (B0, n) := by
  refine r_aload_n dX12_reckonAll_0 rfl rfl ?_
  refine r_iconst (x := 0) dX12_reckonAll_1 rfl (by decide) ?_
  refine r_putZ (fi := 27) (h' := (B0, upn n 145 27 0)) dX12_reckonAll_2 pX12_308 ob_145 (by decide) rfl rfl (by decide) rfl ?_
  refine r_iconst (x := 0) dX12_reckonAll_5 rfl (by decide) ?_
  refine r_istore_n (ls' := [(0, vr 145), (1, vi x1), (2, vi x2), (3, vi 0)]) dX12_reckonAll_6 rfl (by decide) rfl ?_
  refine r_iload_n dX12_reckonAll_7 rfl rfl ?_
  refine r_istore (ls' := [(0, vr 145), (1, vi x1), (2, vi x2), (3, vi 0), (4, vi x1)]) dX12_reckonAll_8 (by decide) rfl ?_
  refine r_pick [0, 2, 3, 4] (ls' := [(0, vr 145), (2, vi x2), (3, vi 0), (4, vi x1)]) rfl ?_
  exact V

theorem gX12_reckonAll_10 {w : WD} {d : Nat} {G : GM} {Q : Option AV → Hp → Prop} {n : NM} {x2 x3 x4 : Int}
    (V :
    ((x2 ≤ x4 →
      Rn w mX12_reckonAll (d + 1) G Q 237 [(0, vr 145), (3, vi x3)] [] (B0, n)) ∧
    (x4 < x2 →
      ((n 145 27 ≠ 0 →
        Rn w mX12_reckonAll (d + 1) G Q 237 [(0, vr 145), (3, vi x3)] [] (B0, n)) ∧
      (n 145 27 = 0 →
        (inI (2 * x4)) ∧
        (inI (998 + (2 * x4))) ∧
        (0 ≤ 998 + (2 * x4)) ∧
        (998 + (2 * x4) < 1800) ∧
        (inI (2 * x4)) ∧
        (inI (998 + (2 * x4))) ∧
        (inI ((998 + (2 * x4)) + 1)) ∧
        (0 ≤ (998 + (2 * x4)) + 1) ∧
        ((998 + (2 * x4)) + 1 < 1800) ∧
        (inI (x4 + 1)) ∧
        ((20 ≤ n 147 (998 + (2 * x4)) →
          ((27 ≤ n 147 (998 + (2 * x4)) →
            ((n 147 (998 + (2 * x4)) ≠ 27 →
              (inI (x3 - 1)) ∧
              (0 ≤ x3 - 1) ∧
              (x3 - 1 < 400) ∧
              (∀ z40 : Int, z40 = (if n 147 (998 + (2 * x4)) ≠ 28 then 1 else 0) → 
              (n 157 (x3 - 1) ≠ z40 → inI (x3 + (-1))) ∧
              (∀ z43 z44 : Int, z43 = (if n 157 (x3 - 1) ≠ z40 then x3 + (-1) else x3) → z44 = (if n 157 (x3 - 1) ≠ z40 then x4 + 1 else n 147 ((998 + (2 * x4)) + 1)) → 
              Rn w mX12_reckonAll (d + 1) G Q 10 [(0, vr 145), (2, vi x2), (3, vi z43), (4, vi z44)] [] (B0, n)))) ∧
            (n 147 (998 + (2 * x4)) = 27 →
              (inI (x3 - 1)) ∧
              (inI (x3 - 1)) ∧
              (0 ≤ x3 - 1) ∧
              (x3 - 1 < 400) ∧
              (inJ (1 - (n 157 (x3 - 1)))) ∧
              (0 ≤ x3 - 1) ∧
              (x3 - 1 < 400) ∧
              Rn w mX12_reckonAll (d + 1) G Q 10 [(0, vr 145), (2, vi x2), (3, vi x3), (4, vi (x4 + 1))] [] (B0, upn n 157 (x3 - 1) (1 - (n 157 (x3 - 1))))))) ∧
          (n 147 (998 + (2 * x4)) < 27 →
            (inI (x3 + (-1))) ∧
            (inI ((x3 + (-1)) - 1)) ∧
            (inI ((x3 + (-1)) - 1)) ∧
            (0 ≤ (x3 + (-1)) - 1) ∧
            ((x3 + (-1)) - 1 < 400) ∧
            (0 ≤ x3 + (-1)) ∧
            (x3 + (-1) < 400) ∧
            (Ev w d 0 0 mX12_reckon [vr 145, vi (n 147 (998 + (2 * x4))), vl (n 157 ((x3 + (-1)) - 1)), vl (n 157 (x3 + (-1)))] (B0, n) (fun r h' => ∃ (y60 : Int) (n59 : NM), r = some (vl y60) ∧ h' = (B0, n59) ∧ 
              (0 ≤ (x3 + (-1)) - 1) ∧
              ((x3 + (-1)) - 1 < 400) ∧
              ((n59 145 27 ≠ 0 →
                Rn w mX12_reckonAll (d + 1) G Q 10 [(0, vr 145), (2, vi x2), (3, vi (x3 + (-1))), (4, vi (x4 + 1))] [] (B0, upn (upn n59 157 ((x3 + (-1)) - 1) y60) 145 27 1)) ∧
              (n59 145 27 = 0 →
                (inI ((x3 + (-1)) - 1)) ∧
                (0 ≤ (x3 + (-1)) - 1) ∧
                ((x3 + (-1)) - 1 < 400) ∧
                (Ev w d 0 0 mX12_in [vl ((upn n59 157 ((x3 + (-1)) - 1) y60) 157 ((x3 + (-1)) - 1)), vl (-1000000000), vl 1000000000] (B0, upn n59 157 ((x3 + (-1)) - 1) y60) (fun r h' => ∃ (x68 : Int) (n67 : NM), r = some (vi x68) ∧ h' = (B0, n67) ∧ 
                  (∀ z70 : Int, z70 = (if x68 ≠ 0 then 0 else 1) → 
                  (z70 = 0 ∨ z70 = 1) ∧
                  Rn w mX12_reckonAll (d + 1) G Q 10 [(0, vr 145), (2, vi x2), (3, vi (x3 + (-1))), (4, vi (x4 + 1))] [] (B0, upn n67 145 27 z70))))))))))) ∧
        (n 147 (998 + (2 * x4)) < 20 →
          (n 147 (998 + (2 * x4)) ≠ 0 → 0 ≤ n 147 (998 + (2 * x4))) ∧
          (n 147 (998 + (2 * x4)) ≠ 0 → n 147 (998 + (2 * x4)) < 10) ∧
          (∀ z75 : Int, z75 = (if n 147 (998 + (2 * x4)) ≠ 0 then n 156 (n 147 (998 + (2 * x4))) else n 147 ((998 + (2 * x4)) + 1)) → 
          (0 ≤ x3) ∧
          (x3 < 400) ∧
          (inI (x3 + 1)) ∧
          Rn w mX12_reckonAll (d + 1) G Q 10 [(0, vr 145), (2, vi x2), (3, vi (x3 + 1)), (4, vi (x4 + 1))] [] (B0, upn n 157 x3 z75))))))))) :
    Rn w mX12_reckonAll (d + 1) G Q 10 [(0, vr 145), (2, vi x2), (3, vi x3), (4, vi x4)] [] (B0, n) := by
  refine r_iload dX12_reckonAll_10 rfl ?_
  refine r_iload_n dX12_reckonAll_12 rfl rfl ?_
  obtain ⟨V1, V2⟩ := V
  refine r_jge (tgt := 237) dX12_reckonAll_13 (by decide) (fun c21 => ?_) (fun c21 => ?_)
  · have V := V1 c21
    refine r_pick [0, 2] (ls' := [(0, vr 145), (3, vi x3)]) rfl ?_
    exact V
  · have V := V2 c21
    refine r_aload_n dX12_reckonAll_16 rfl rfl ?_
    refine r_getI (fi := 27) dX12_reckonAll_17 fX12_308 ob_145 (by decide) (by decide) rfl ?_
    obtain ⟨V1, V2⟩ := V
    refine r_zne (tgt := 237) dX12_reckonAll_20 (by decide) (fun c22 => ?_) (fun c22 => ?_)
    · have V := V1 c22
      refine r_pick [0, 2] (ls' := [(0, vr 145), (3, vi x3)]) rfl ?_
      exact V
    · have V := V2 c22
      refine r_aload_n dX12_reckonAll_23 rfl rfl ?_
      refine r_getR (b := 147) dX12_reckonAll_24 fX12_13 ob_145 (by decide) rfl rfl ?_
      refine r_sipush (x := 998) dX12_reckonAll_27 (by decide +kernel) (by decide) ?_
      refine r_iconst (x := 2) dX12_reckonAll_30 rfl (by decide) ?_
      refine r_iload dX12_reckonAll_31 rfl ?_
      obtain ⟨s23, V⟩ := V
      refine r_imul dX12_reckonAll_33 s23 ?_
      obtain ⟨s24, V⟩ := V
      refine r_iadd dX12_reckonAll_34 s24 ?_
      obtain ⟨s25, V⟩ := V
      obtain ⟨s26, V⟩ := V
      refine r_iald dX12_reckonAll_35 ob_147 s25 s26 ?_
      refine r_istore (ls' := [(0, vr 145), (2, vi x2), (3, vi x3), (4, vi x4), (5, vi (n 147 (998 + (2 * x4))))]) dX12_reckonAll_36 (by decide) rfl ?_
      refine r_aload_n dX12_reckonAll_38 rfl rfl ?_
      refine r_getR (b := 147) dX12_reckonAll_39 fX12_13 ob_145 (by decide) rfl rfl ?_
      refine r_sipush (x := 998) dX12_reckonAll_42 (by decide +kernel) (by decide) ?_
      refine r_iconst (x := 2) dX12_reckonAll_45 rfl (by decide) ?_
      refine r_iload dX12_reckonAll_46 rfl ?_
      obtain ⟨s27, V⟩ := V
      refine r_imul dX12_reckonAll_48 s27 ?_
      obtain ⟨s28, V⟩ := V
      refine r_iadd dX12_reckonAll_49 s28 ?_
      refine r_iconst (x := 1) dX12_reckonAll_50 rfl (by decide) ?_
      obtain ⟨s29, V⟩ := V
      refine r_iadd dX12_reckonAll_51 s29 ?_
      obtain ⟨s30, V⟩ := V
      obtain ⟨s31, V⟩ := V
      refine r_iald dX12_reckonAll_52 ob_147 s30 s31 ?_
      refine r_istore (ls' := [(0, vr 145), (2, vi x2), (3, vi x3), (4, vi x4), (5, vi (n 147 (998 + (2 * x4)))), (6, vi (n 147 ((998 + (2 * x4)) + 1)))]) dX12_reckonAll_53 (by decide) rfl ?_
      obtain ⟨s32, V⟩ := V
      refine r_iinc (y := x4 + 1) (ls' := [(0, vr 145), (2, vi x2), (3, vi x3), (4, vi (x4 + 1)), (5, vi (n 147 (998 + (2 * x4)))), (6, vi (n 147 ((998 + (2 * x4)) + 1)))]) dX12_reckonAll_55 rfl rfl s32 (by decide) rfl ?_
      refine r_iload dX12_reckonAll_58 rfl ?_
      refine r_bipush (x := 20) dX12_reckonAll_60 (by decide +kernel) (by decide) ?_
      obtain ⟨V1, V2⟩ := V
      refine r_jge (tgt := 95) dX12_reckonAll_62 (by decide) (fun c33 => ?_) (fun c33 => ?_)
      · have V := V1 c33
        refine r_iload dX12_reckonAll_95 rfl ?_
        refine r_bipush (x := 27) dX12_reckonAll_97 (by decide +kernel) (by decide) ?_
        obtain ⟨V1, V2⟩ := V
        refine r_jge (tgt := 172) dX12_reckonAll_99 (by decide) (fun c34 => ?_) (fun c34 => ?_)
        · have V := V1 c34
          refine r_iload dX12_reckonAll_172 rfl ?_
          refine r_bipush (x := 27) dX12_reckonAll_174 (by decide +kernel) (by decide) ?_
          obtain ⟨V1, V2⟩ := V
          refine r_jne (tgt := 200) dX12_reckonAll_176 (by decide) (fun c35 => ?_) (fun c35 => ?_)
          · have V := V1 c35
            refine r_aload_n dX12_reckonAll_200 rfl rfl ?_
            refine r_getR (b := 157) dX12_reckonAll_201 fX12_49 ob_145 (by decide) rfl rfl ?_
            refine r_iload_n dX12_reckonAll_204 rfl rfl ?_
            refine r_iconst (x := 1) dX12_reckonAll_205 rfl (by decide) ?_
            obtain ⟨s36, V⟩ := V
            refine r_isub dX12_reckonAll_206 s36 ?_
            obtain ⟨s37, V⟩ := V
            obtain ⟨s38, V⟩ := V
            refine r_lald dX12_reckonAll_207 ob_157 s37 s38 ?_
            refine r_iload dX12_reckonAll_208 rfl ?_
            refine r_bipush (x := 28) dX12_reckonAll_210 (by decide +kernel) (by decide) ?_
            have K : ∀ z40 : Int, z40 = (if n 147 (998 + (2 * x4)) ≠ 28 then 1 else 0) → Rn w mX12_reckonAll (d + 1) G Q 220 [(0, vr 145), (2, vi x2), (3, vi x3), (4, vi (x4 + 1)), (6, vi (n 147 ((998 + (2 * x4)) + 1)))] [vl z40, vl (n 157 (x3 - 1))] (B0, n) := by
              intro z40 ez40
              have V := V z40 ez40
              obtain ⟨s42, V⟩ := V
              have K : ∀ z43 z44 : Int, z43 = (if n 157 (x3 - 1) ≠ z40 then x3 + (-1) else x3) → z44 = (if n 157 (x3 - 1) ≠ z40 then x4 + 1 else n 147 ((998 + (2 * x4)) + 1)) → Rn w mX12_reckonAll (d + 1) G Q 234 [(0, vr 145), (2, vi x2), (3, vi z43), (4, vi z44)] [] (B0, n) := by
                intro z43 z44 ez43 ez44
                have V := V z43 z44 ez43 ez44
                refine r_goto (tgt := 10) dX12_reckonAll_234 (by decide) ?_
                exact V
              refine r_lne dX12_reckonAll_220 rfl dX12_reckonAll_221 (tgt := 231) (by decide) (fun c41 => ?_) (fun c41 => ?_)
              · refine r_iinc (y := x3 + (-1)) (ls' := [(0, vr 145), (2, vi x2), (3, vi (x3 + (-1))), (4, vi (x4 + 1)), (6, vi (n 147 ((998 + (2 * x4)) + 1)))]) dX12_reckonAll_231 rfl rfl (s42 c41) (by decide) rfl ?_
                refine r_pick [0, 1, 2, 3] (ls' := [(0, vr 145), (2, vi x2), (3, vi (x3 + (-1))), (4, vi (x4 + 1))]) rfl ?_
                exact K (x3 + (-1)) (x4 + 1) (by first | rfl | (simp only [if_pos c41])) (by first | rfl | (simp only [if_pos c41]))
              · refine r_iload dX12_reckonAll_224 rfl ?_
                refine r_istore (ls' := [(0, vr 145), (2, vi x2), (3, vi x3), (4, vi (n 147 ((998 + (2 * x4)) + 1))), (6, vi (n 147 ((998 + (2 * x4)) + 1)))]) dX12_reckonAll_226 (by decide) rfl ?_
                refine r_goto (tgt := 234) dX12_reckonAll_228 (by decide) ?_
                refine r_pick [0, 1, 2, 3] (ls' := [(0, vr 145), (2, vi x2), (3, vi x3), (4, vi (n 147 ((998 + (2 * x4)) + 1)))]) rfl ?_
                exact K x3 (n 147 ((998 + (2 * x4)) + 1)) (by first | rfl | (simp only [if_neg (show ¬ (n 157 (x3 - 1) ≠ z40) from not_not_intro c41)])) (by first | rfl | (simp only [if_neg (show ¬ (n 157 (x3 - 1) ≠ z40) from not_not_intro c41)]))
            refine r_jne (tgt := 219) dX12_reckonAll_212 (by decide) (fun c39 => ?_) (fun c39 => ?_)
            · refine r_lconst (x := 1) dX12_reckonAll_219 rfl (by decide) ?_
              refine r_pick [0, 1, 2, 3, 5] (ls' := [(0, vr 145), (2, vi x2), (3, vi x3), (4, vi (x4 + 1)), (6, vi (n 147 ((998 + (2 * x4)) + 1)))]) rfl ?_
              exact K 1 (by first | rfl | (simp only [if_pos c39]))
            · refine r_lconst (x := 0) dX12_reckonAll_215 rfl (by decide) ?_
              refine r_goto (tgt := 220) dX12_reckonAll_216 (by decide) ?_
              refine r_pick [0, 1, 2, 3, 5] (ls' := [(0, vr 145), (2, vi x2), (3, vi x3), (4, vi (x4 + 1)), (6, vi (n 147 ((998 + (2 * x4)) + 1)))]) rfl ?_
              exact K 0 (by first | rfl | (simp only [if_neg (show ¬ (n 147 (998 + (2 * x4)) ≠ 28) from not_not_intro c39)]))
          · have V := V2 c35
            refine r_aload_n dX12_reckonAll_179 rfl rfl ?_
            refine r_getR (b := 157) dX12_reckonAll_180 fX12_49 ob_145 (by decide) rfl rfl ?_
            refine r_iload_n dX12_reckonAll_183 rfl rfl ?_
            refine r_iconst (x := 1) dX12_reckonAll_184 rfl (by decide) ?_
            obtain ⟨s45, V⟩ := V
            refine r_isub dX12_reckonAll_185 s45 ?_
            refine r_lconst (x := 1) dX12_reckonAll_186 rfl (by decide) ?_
            refine r_aload_n dX12_reckonAll_187 rfl rfl ?_
            refine r_getR (b := 157) dX12_reckonAll_188 fX12_49 ob_145 (by decide) rfl rfl ?_
            refine r_iload_n dX12_reckonAll_191 rfl rfl ?_
            refine r_iconst (x := 1) dX12_reckonAll_192 rfl (by decide) ?_
            obtain ⟨s46, V⟩ := V
            refine r_isub dX12_reckonAll_193 s46 ?_
            obtain ⟨s47, V⟩ := V
            obtain ⟨s48, V⟩ := V
            refine r_lald dX12_reckonAll_194 ob_157 s47 s48 ?_
            obtain ⟨s49, V⟩ := V
            refine r_lsub dX12_reckonAll_195 s49 ?_
            obtain ⟨s50, V⟩ := V
            obtain ⟨s51, V⟩ := V
            refine r_last (h' := (B0, upn n 157 (x3 - 1) (1 - (n 157 (x3 - 1))))) dX12_reckonAll_196 ob_157 s50 s51 rfl ?_
            refine r_goto (tgt := 234) dX12_reckonAll_197 (by decide) ?_
            refine r_goto (tgt := 10) dX12_reckonAll_234 (by decide) ?_
            refine r_pick [0, 1, 2, 3] (ls' := [(0, vr 145), (2, vi x2), (3, vi x3), (4, vi (x4 + 1))]) rfl ?_
            exact V
        · have V := V2 c34
          obtain ⟨s52, V⟩ := V
          refine r_iinc (y := x3 + (-1)) (ls' := [(0, vr 145), (2, vi x2), (3, vi (x3 + (-1))), (4, vi (x4 + 1)), (5, vi (n 147 (998 + (2 * x4)))), (6, vi (n 147 ((998 + (2 * x4)) + 1)))]) dX12_reckonAll_102 rfl rfl s52 (by decide) rfl ?_
          refine r_aload_n dX12_reckonAll_105 rfl rfl ?_
          refine r_getR (b := 157) dX12_reckonAll_106 fX12_49 ob_145 (by decide) rfl rfl ?_
          refine r_iload_n dX12_reckonAll_109 rfl rfl ?_
          refine r_iconst (x := 1) dX12_reckonAll_110 rfl (by decide) ?_
          obtain ⟨s53, V⟩ := V
          refine r_isub dX12_reckonAll_111 s53 ?_
          refine r_aload_n dX12_reckonAll_112 rfl rfl ?_
          refine r_iload dX12_reckonAll_113 rfl ?_
          refine r_aload_n dX12_reckonAll_115 rfl rfl ?_
          refine r_getR (b := 157) dX12_reckonAll_116 fX12_49 ob_145 (by decide) rfl rfl ?_
          refine r_iload_n dX12_reckonAll_119 rfl rfl ?_
          refine r_iconst (x := 1) dX12_reckonAll_120 rfl (by decide) ?_
          obtain ⟨s54, V⟩ := V
          refine r_isub dX12_reckonAll_121 s54 ?_
          obtain ⟨s55, V⟩ := V
          obtain ⟨s56, V⟩ := V
          refine r_lald dX12_reckonAll_122 ob_157 s55 s56 ?_
          refine r_aload_n dX12_reckonAll_123 rfl rfl ?_
          refine r_getR (b := 157) dX12_reckonAll_124 fX12_49 ob_145 (by decide) rfl rfl ?_
          refine r_iload_n dX12_reckonAll_127 rfl rfl ?_
          obtain ⟨s57, V⟩ := V
          obtain ⟨s58, V⟩ := V
          refine r_lald dX12_reckonAll_128 ob_157 s57 s58 ?_
          refine r_callV (args := [vi (n 147 (998 + (2 * x4))), vl (n 157 ((x3 + (-1)) - 1)), vl (n 157 (x3 + (-1)))]) dX12_reckonAll_129 kX12_311 ob_145 ⟨_, _, rfl⟩ (by decide) rfl rfl (Nat.le_of_ble_eq_true rfl) cap0 (Ev.mono V ?_)
          rintro r h' ⟨y60, n59, rfl, rfl, V⟩
          show Rn w mX12_reckonAll (d + 1) G Q 132 [(0, vr 145), (2, vi x2), (3, vi (x3 + (-1))), (4, vi (x4 + 1)), (5, vi (n 147 (998 + (2 * x4)))), (6, vi (n 147 ((998 + (2 * x4)) + 1)))] [vl y60, vi ((x3 + (-1)) - 1), vr 157] (B0, n59)
          obtain ⟨s61, V⟩ := V
          obtain ⟨s62, V⟩ := V
          refine r_last (h' := (B0, upn n59 157 ((x3 + (-1)) - 1) y60)) dX12_reckonAll_132 ob_157 s61 s62 rfl ?_
          refine r_aload_n dX12_reckonAll_133 rfl rfl ?_
          refine r_aload_n dX12_reckonAll_134 rfl rfl ?_
          refine r_getI (fi := 27) dX12_reckonAll_135 fX12_308 ob_145 (by decide) (by decide) rfl ?_
          show Rn w mX12_reckonAll (d + 1) G Q 138 [(0, vr 145), (2, vi x2), (3, vi (x3 + (-1))), (4, vi (x4 + 1)), (5, vi (n 147 (998 + (2 * x4)))), (6, vi (n 147 ((998 + (2 * x4)) + 1)))] [vi (n59 145 27), vr 145] (B0, upn n59 157 ((x3 + (-1)) - 1) y60)
          obtain ⟨V1, V2⟩ := V
          refine r_zne (tgt := 161) dX12_reckonAll_138 (by decide) (fun c63 => ?_) (fun c63 => ?_)
          · have V := V1 c63
            refine r_iconst (x := 1) dX12_reckonAll_161 rfl (by decide) ?_
            refine r_goto (tgt := 166) dX12_reckonAll_162 (by decide) ?_
            refine r_putZ (fi := 27) (h' := (B0, upn (upn n59 157 ((x3 + (-1)) - 1) y60) 145 27 1)) dX12_reckonAll_166 pX12_308 ob_145 (by decide) rfl rfl (by decide) rfl ?_
            refine r_goto (tgt := 234) dX12_reckonAll_169 (by decide) ?_
            refine r_goto (tgt := 10) dX12_reckonAll_234 (by decide) ?_
            refine r_pick [0, 1, 2, 3] (ls' := [(0, vr 145), (2, vi x2), (3, vi (x3 + (-1))), (4, vi (x4 + 1))]) rfl ?_
            exact V
          · have V := V2 c63
            refine r_aload_n dX12_reckonAll_141 rfl rfl ?_
            refine r_getR (b := 157) dX12_reckonAll_142 fX12_49 ob_145 (by decide) rfl rfl ?_
            refine r_iload_n dX12_reckonAll_145 rfl rfl ?_
            refine r_iconst (x := 1) dX12_reckonAll_146 rfl (by decide) ?_
            obtain ⟨s64, V⟩ := V
            refine r_isub dX12_reckonAll_147 s64 ?_
            obtain ⟨s65, V⟩ := V
            obtain ⟨s66, V⟩ := V
            refine r_lald dX12_reckonAll_148 ob_157 s65 s66 ?_
            refine r_ldc2 (x := -1000000000) dX12_reckonAll_149 qX12_315 (by decide) ?_
            refine r_ldc2 (x := 1000000000) dX12_reckonAll_152 qX12_317 (by decide) ?_
            refine r_callS (args := [vl ((upn n59 157 ((x3 + (-1)) - 1) y60) 157 ((x3 + (-1)) - 1)), vl (-1000000000), vl 1000000000]) dX12_reckonAll_155 kX12_82 rfl rfl (Nat.le_of_ble_eq_true rfl) cap0 (Ev.mono V ?_)
            rintro r h' ⟨x68, n67, rfl, rfl, V⟩
            show Rn w mX12_reckonAll (d + 1) G Q 158 [(0, vr 145), (2, vi x2), (3, vi (x3 + (-1))), (4, vi (x4 + 1)), (5, vi (n 147 (998 + (2 * x4)))), (6, vi (n 147 ((998 + (2 * x4)) + 1)))] [vi x68, vr 145] (B0, n67)
            have K : ∀ z70 : Int, z70 = (if x68 ≠ 0 then 0 else 1) → Rn w mX12_reckonAll (d + 1) G Q 166 [(0, vr 145), (2, vi x2), (3, vi (x3 + (-1))), (4, vi (x4 + 1))] [vi z70, vr 145] (B0, n67) := by
              intro z70 ez70
              have V := V z70 ez70
              obtain ⟨s71, V⟩ := V
              refine r_putZ (fi := 27) (h' := (B0, upn n67 145 27 z70)) dX12_reckonAll_166 pX12_308 ob_145 (by decide) rfl rfl s71 rfl ?_
              refine r_goto (tgt := 234) dX12_reckonAll_169 (by decide) ?_
              refine r_goto (tgt := 10) dX12_reckonAll_234 (by decide) ?_
              exact V
            refine r_zne (tgt := 165) dX12_reckonAll_158 (by decide) (fun c69 => ?_) (fun c69 => ?_)
            · refine r_iconst (x := 0) dX12_reckonAll_165 rfl (by decide) ?_
              refine r_pick [0, 1, 2, 3] (ls' := [(0, vr 145), (2, vi x2), (3, vi (x3 + (-1))), (4, vi (x4 + 1))]) rfl ?_
              exact K 0 (by first | rfl | (simp only [if_pos c69]))
            · refine r_iconst (x := 1) dX12_reckonAll_161 rfl (by decide) ?_
              refine r_goto (tgt := 166) dX12_reckonAll_162 (by decide) ?_
              refine r_pick [0, 1, 2, 3] (ls' := [(0, vr 145), (2, vi x2), (3, vi (x3 + (-1))), (4, vi (x4 + 1))]) rfl ?_
              exact K 1 (by first | rfl | (simp only [if_neg (show ¬ (x68 ≠ 0) from not_not_intro c69)]))
      · have V := V2 c33
        refine r_aload_n dX12_reckonAll_65 rfl rfl ?_
        refine r_getR (b := 157) dX12_reckonAll_66 fX12_49 ob_145 (by decide) rfl rfl ?_
        refine r_iload_n dX12_reckonAll_69 rfl rfl ?_
        refine r_iload dX12_reckonAll_70 rfl ?_
        obtain ⟨s73, V⟩ := V
        obtain ⟨s74, V⟩ := V
        have K : ∀ z75 : Int, z75 = (if n 147 (998 + (2 * x4)) ≠ 0 then n 156 (n 147 (998 + (2 * x4))) else n 147 ((998 + (2 * x4)) + 1)) → Rn w mX12_reckonAll (d + 1) G Q 88 [(0, vr 145), (2, vi x2), (3, vi x3), (4, vi (x4 + 1))] [vl z75, vi x3, vr 157] (B0, n) := by
          intro z75 ez75
          have V := V z75 ez75
          obtain ⟨s76, V⟩ := V
          obtain ⟨s77, V⟩ := V
          refine r_last (h' := (B0, upn n 157 x3 z75)) dX12_reckonAll_88 ob_157 s76 s77 rfl ?_
          obtain ⟨s78, V⟩ := V
          refine r_iinc (y := x3 + 1) (ls' := [(0, vr 145), (2, vi x2), (3, vi (x3 + 1)), (4, vi (x4 + 1))]) dX12_reckonAll_89 rfl rfl s78 (by decide) rfl ?_
          refine r_goto (tgt := 234) dX12_reckonAll_92 (by decide) ?_
          refine r_goto (tgt := 10) dX12_reckonAll_234 (by decide) ?_
          exact V
        refine r_zne (tgt := 81) dX12_reckonAll_72 (by decide) (fun c72 => ?_) (fun c72 => ?_)
        · refine r_aload_n dX12_reckonAll_81 rfl rfl ?_
          refine r_getR (b := 156) dX12_reckonAll_82 fX12_45 ob_145 (by decide) rfl rfl ?_
          refine r_iload dX12_reckonAll_85 rfl ?_
          refine r_lald dX12_reckonAll_87 ob_156 (s73 c72) (s74 c72) ?_
          refine r_pick [0, 1, 2, 3] (ls' := [(0, vr 145), (2, vi x2), (3, vi x3), (4, vi (x4 + 1))]) rfl ?_
          exact K (n 156 (n 147 (998 + (2 * x4)))) (by first | rfl | (simp only [if_pos c72]))
        · refine r_iload dX12_reckonAll_75 rfl ?_
          refine r_i2l dX12_reckonAll_77 ?_
          refine r_goto (tgt := 88) dX12_reckonAll_78 (by decide) ?_
          refine r_pick [0, 1, 2, 3] (ls' := [(0, vr 145), (2, vi x2), (3, vi x3), (4, vi (x4 + 1))]) rfl ?_
          exact K (n 147 ((998 + (2 * x4)) + 1)) (by first | rfl | (simp only [if_neg (show ¬ (n 147 (998 + (2 * x4)) ≠ 0) from not_not_intro c72)]))

theorem gX12_reckonAll_237 {w : WD} {d : Nat} {G : GM} {Q : Option AV → Hp → Prop} {n : NM} {x3 : Int}
    (V :
    (∀ z22 : Int, z22 = (if x3 ≤ 0 then 0 else n 157 0) → 
    Q none (B0, upn n 145 28 z22))) :
    Rn w mX12_reckonAll d G Q 237 [(0, vr 145), (3, vi x3)] [] (B0, n) := by
  refine r_aload_n dX12_reckonAll_237 rfl rfl ?_
  refine r_iload_n dX12_reckonAll_238 rfl rfl ?_
  have K : ∀ z22 : Int, z22 = (if x3 ≤ 0 then 0 else n 157 0) → Rn w mX12_reckonAll d G Q 252 [] [vl z22, vr 145] (B0, n) := by
    intro z22 ez22
    have V := V z22 ez22
    refine r_putL (fi := 28) (h' := (B0, upn n 145 28 z22)) dX12_reckonAll_252 pX12_319 ob_145 (by decide) rfl rfl rfl ?_
    exact r_ret dX12_reckonAll_255 rfl V
  refine r_zle (tgt := 251) dX12_reckonAll_239 (by decide) (fun c21 => ?_) (fun c21 => ?_)
  · refine r_lconst (x := 0) dX12_reckonAll_251 rfl (by decide) ?_
    refine r_pick [] (ls' := []) rfl ?_
    exact K 0 (by first | rfl | (simp only [if_pos c21]))
  · refine r_aload_n dX12_reckonAll_242 rfl rfl ?_
    refine r_getR (b := 157) dX12_reckonAll_243 fX12_49 ob_145 (by decide) rfl rfl ?_
    refine r_iconst (x := 0) dX12_reckonAll_246 rfl (by decide) ?_
    refine r_lald dX12_reckonAll_247 ob_157 (by decide) (by decide) ?_
    refine r_goto (tgt := 252) dX12_reckonAll_248 (by decide) ?_
    refine r_pick [] (ls' := []) rfl ?_
    exact K (n 157 0) (by first | rfl | (simp only [if_neg (Int.not_le.mpr c21)]))

theorem gX12_isSo_0 {w : WD} {d : Nat} {G : GM} {Q : Option AV → Hp → Prop} {n : NM} {x1 : Int}
    (V :
    (inI (x1 + 5)) ∧
    (0 ≤ x1 + 5) ∧
    (x1 + 5 < 1800) ∧
    (inI (x1 + 6)) ∧
    (0 ≤ x1 + 6) ∧
    (x1 + 6 < 1800) ∧
    ((n 147 (x1 + 6) ≤ n 147 (x1 + 5) →
      Rn w mX12_isSo (d + 1) G Q 59 [(0, vr 145), (1, vi x1)] [] (B0, n)) ∧
    (n 147 (x1 + 5) < n 147 (x1 + 6) →
      (inI (x1 + 5)) ∧
      (0 ≤ x1 + 5) ∧
      (x1 + 5 < 1800) ∧
      (inI (x1 + 6)) ∧
      (0 ≤ x1 + 6) ∧
      (x1 + 6 < 1800) ∧
      (Ev w d 0 0 mX12_reckonAll [vr 145, vi (n 147 (x1 + 5)), vi (n 147 (x1 + 6))] (B0, n) (fun r h' => ∃ n34 : NM, r = none ∧ h' = (B0, n34) ∧ 
        ((n34 145 27 ≠ 0 →
          Q (some (vi 0)) (B0, n34)) ∧
        (n34 145 27 = 0 →
          ((n34 145 28 ≠ 0 →
            Rn w mX12_isSo (d + 1) G Q 59 [(0, vr 145), (1, vi x1)] [] (B0, n34)) ∧
          (n34 145 28 = 0 →
            Q (some (vi 0)) (B0, n34)))))))))) :
    Rn w mX12_isSo (d + 1) G Q 0 [(0, vr 145), (1, vi x1)] [] (B0, n) := by
  refine r_aload_n dX12_isSo_0 rfl rfl ?_
  refine r_getR (b := 147) dX12_isSo_1 fX12_13 ob_145 (by decide) rfl rfl ?_
  refine r_iload_n dX12_isSo_4 rfl rfl ?_
  refine r_iconst (x := 5) dX12_isSo_5 rfl (by decide) ?_
  obtain ⟨s21, V⟩ := V
  refine r_iadd dX12_isSo_6 s21 ?_
  obtain ⟨s22, V⟩ := V
  obtain ⟨s23, V⟩ := V
  refine r_iald dX12_isSo_7 ob_147 s22 s23 ?_
  refine r_aload_n dX12_isSo_8 rfl rfl ?_
  refine r_getR (b := 147) dX12_isSo_9 fX12_13 ob_145 (by decide) rfl rfl ?_
  refine r_iload_n dX12_isSo_12 rfl rfl ?_
  refine r_bipush (x := 6) dX12_isSo_13 (by decide +kernel) (by decide) ?_
  obtain ⟨s24, V⟩ := V
  refine r_iadd dX12_isSo_15 s24 ?_
  obtain ⟨s25, V⟩ := V
  obtain ⟨s26, V⟩ := V
  refine r_iald dX12_isSo_16 ob_147 s25 s26 ?_
  obtain ⟨V1, V2⟩ := V
  refine r_jge (tgt := 59) dX12_isSo_17 (by decide) (fun c27 => ?_) (fun c27 => ?_)
  · have V := V1 c27
    exact V
  · have V := V2 c27
    refine r_aload_n dX12_isSo_20 rfl rfl ?_
    refine r_aload_n dX12_isSo_21 rfl rfl ?_
    refine r_getR (b := 147) dX12_isSo_22 fX12_13 ob_145 (by decide) rfl rfl ?_
    refine r_iload_n dX12_isSo_25 rfl rfl ?_
    refine r_iconst (x := 5) dX12_isSo_26 rfl (by decide) ?_
    obtain ⟨s28, V⟩ := V
    refine r_iadd dX12_isSo_27 s28 ?_
    obtain ⟨s29, V⟩ := V
    obtain ⟨s30, V⟩ := V
    refine r_iald dX12_isSo_28 ob_147 s29 s30 ?_
    refine r_aload_n dX12_isSo_29 rfl rfl ?_
    refine r_getR (b := 147) dX12_isSo_30 fX12_13 ob_145 (by decide) rfl rfl ?_
    refine r_iload_n dX12_isSo_33 rfl rfl ?_
    refine r_bipush (x := 6) dX12_isSo_34 (by decide +kernel) (by decide) ?_
    obtain ⟨s31, V⟩ := V
    refine r_iadd dX12_isSo_36 s31 ?_
    obtain ⟨s32, V⟩ := V
    obtain ⟨s33, V⟩ := V
    refine r_iald dX12_isSo_37 ob_147 s32 s33 ?_
    refine r_callV (args := [vi (n 147 (x1 + 5)), vi (n 147 (x1 + 6))]) dX12_isSo_38 kX12_322 ob_145 ⟨_, _, rfl⟩ (by decide) rfl rfl (Nat.le_of_ble_eq_true rfl) cap0 (Ev.mono V ?_)
    rintro r h' ⟨n34, rfl, rfl, V⟩
    show Rn w mX12_isSo (d + 1) G Q 41 [(0, vr 145), (1, vi x1)] [] (B0, n34)
    refine r_aload_n dX12_isSo_41 rfl rfl ?_
    refine r_getI (fi := 27) dX12_isSo_42 fX12_308 ob_145 (by decide) (by decide) rfl ?_
    obtain ⟨V1, V2⟩ := V
    refine r_zne (tgt := 57) dX12_isSo_45 (by decide) (fun c35 => ?_) (fun c35 => ?_)
    · have V := V1 c35
      refine r_iconst (x := 0) dX12_isSo_57 rfl (by decide) ?_
      exact r_zret dX12_isSo_58 rfl (by decide) V
    · have V := V2 c35
      refine r_aload_n dX12_isSo_48 rfl rfl ?_
      refine r_getL (fi := 28) dX12_isSo_49 fX12_319 ob_145 (by decide) rfl rfl ?_
      refine r_lconst (x := 0) dX12_isSo_52 rfl (by decide) ?_
      obtain ⟨V1, V2⟩ := V
      refine r_lne dX12_isSo_53 rfl dX12_isSo_54 (tgt := 59) (by decide) (fun c36 => ?_) (fun c36 => ?_)
      · have V := V1 c36
        exact V
      · have V := V2 c36
        refine r_iconst (x := 0) dX12_isSo_57 rfl (by decide) ?_
        exact r_zret dX12_isSo_58 rfl (by decide) V

theorem gX12_isSo_59 {w : WD} {d : Nat} {G : GM} {Q : Option AV → Hp → Prop} {n : NM} {x1 : Int}
    (V :
    (inI (x1 + 3)) ∧
    (0 ≤ x1 + 3) ∧
    (x1 + 3 < 1800) ∧
    (inI (x1 + 4)) ∧
    (0 ≤ x1 + 4) ∧
    (x1 + 4 < 1800) ∧
    (Ev w d 0 0 mX12_reckonAll [vr 145, vi (n 147 (x1 + 3)), vi (n 147 (x1 + 4))] (B0, n) (fun r h' => ∃ n27 : NM, r = none ∧ h' = (B0, n27) ∧ 
      ((n27 145 27 ≠ 0 →
        Q (some (vi 0)) (B0, upn n27 145 29 (n27 145 28))) ∧
      (n27 145 27 = 0 →
        Q (some (vi 1)) (B0, upn n27 145 29 (n27 145 28))))))) :
    Rn w mX12_isSo (d + 1) G Q 59 [(0, vr 145), (1, vi x1)] [] (B0, n) := by
  refine r_aload_n dX12_isSo_59 rfl rfl ?_
  refine r_aload_n dX12_isSo_60 rfl rfl ?_
  refine r_getR (b := 147) dX12_isSo_61 fX12_13 ob_145 (by decide) rfl rfl ?_
  refine r_iload_n dX12_isSo_64 rfl rfl ?_
  refine r_iconst (x := 3) dX12_isSo_65 rfl (by decide) ?_
  obtain ⟨s21, V⟩ := V
  refine r_iadd dX12_isSo_66 s21 ?_
  obtain ⟨s22, V⟩ := V
  obtain ⟨s23, V⟩ := V
  refine r_iald dX12_isSo_67 ob_147 s22 s23 ?_
  refine r_aload_n dX12_isSo_68 rfl rfl ?_
  refine r_getR (b := 147) dX12_isSo_69 fX12_13 ob_145 (by decide) rfl rfl ?_
  refine r_iload_n dX12_isSo_72 rfl rfl ?_
  refine r_iconst (x := 4) dX12_isSo_73 rfl (by decide) ?_
  obtain ⟨s24, V⟩ := V
  refine r_iadd dX12_isSo_74 s24 ?_
  obtain ⟨s25, V⟩ := V
  obtain ⟨s26, V⟩ := V
  refine r_iald dX12_isSo_75 ob_147 s25 s26 ?_
  refine r_callV (args := [vi (n 147 (x1 + 3)), vi (n 147 (x1 + 4))]) dX12_isSo_76 kX12_322 ob_145 ⟨_, _, rfl⟩ (by decide) rfl rfl (Nat.le_of_ble_eq_true rfl) cap0 (Ev.mono V ?_)
  rintro r h' ⟨n27, rfl, rfl, V⟩
  show Rn w mX12_isSo (d + 1) G Q 79 [(0, vr 145), (1, vi x1)] [] (B0, n27)
  refine r_aload_n dX12_isSo_79 rfl rfl ?_
  refine r_aload_n dX12_isSo_80 rfl rfl ?_
  refine r_getL (fi := 28) dX12_isSo_81 fX12_319 ob_145 (by decide) rfl rfl ?_
  refine r_putL (fi := 29) (h' := (B0, upn n27 145 29 (n27 145 28))) dX12_isSo_84 pX12_325 ob_145 (by decide) rfl rfl rfl ?_
  refine r_aload_n dX12_isSo_87 rfl rfl ?_
  refine r_getI (fi := 27) dX12_isSo_88 fX12_308 ob_145 (by decide) (by decide) rfl ?_
  show Rn w mX12_isSo (d + 1) G Q 91 [(0, vr 145), (1, vi x1)] [vi (n27 145 27)] (B0, upn n27 145 29 (n27 145 28))
  obtain ⟨V1, V2⟩ := V
  refine r_zne (tgt := 98) dX12_isSo_91 (by decide) (fun c28 => ?_) (fun c28 => ?_)
  · have V := V1 c28
    refine r_iconst (x := 0) dX12_isSo_98 rfl (by decide) ?_
    exact r_zret dX12_isSo_99 rfl (by decide) V
  · have V := V2 c28
    refine r_iconst (x := 1) dX12_isSo_94 rfl (by decide) ?_
    refine r_goto (tgt := 99) dX12_isSo_95 (by decide) ?_
    exact r_zret dX12_isSo_99 rfl (by decide) V

theorem gX12_find_0 {w : WD} {d : Nat} {G : GM} {Q : Option AV → Hp → Prop} {n : NM} {x1 x2 x3 x4 : Int}
    (V :
    Rn w mX12_find d G Q 7 [(0, vr 145), (1, vi x1), (3, vi x3), (4, vi x4), (5, vl x2), (7, vi 0)] [] (B0, n)) :
    Rn w mX12_find d G Q 0 [(0, vr 145), (1, vi x1), (2, vi x2), (3, vi x3), (4, vi x4)] [] (B0, n) := by
  refine r_iload_n dX12_find_0 rfl rfl ?_
  refine r_i2l dX12_find_1 ?_
  refine r_lstore (ls' := [(0, vr 145), (1, vi x1), (2, vi x2), (3, vi x3), (4, vi x4), (5, vl x2)]) dX12_find_2 (by decide) rfl ?_
  refine r_iconst (x := 0) dX12_find_4 rfl (by decide) ?_
  refine r_istore (ls' := [(0, vr 145), (1, vi x1), (2, vi x2), (3, vi x3), (4, vi x4), (5, vl x2), (7, vi 0)]) dX12_find_5 (by decide) rfl ?_
  refine r_pick [0, 1, 3, 4, 5, 6] (ls' := [(0, vr 145), (1, vi x1), (3, vi x3), (4, vi x4), (5, vl x2), (7, vi 0)]) rfl ?_
  exact V

theorem gX12_find_7 {w : WD} {d : Nat} {G : GM} {Q : Option AV → Hp → Prop} {n : NM} {x1 x3 x4 x5 x7 : Int}
    (V :
    ((n 147 901 ≤ x7 →
      ((x3 ≤ x5 →
        ((x5 ≤ x4 →
          (inI (x5)) ∧
          Q (some (vi x5)) (B0, n)) ∧
        (x4 < x5 →
          Q (some (vi x4)) (B0, n)))) ∧
      (x5 < x3 →
        Q (some (vi x3)) (B0, n)))) ∧
    (x7 < n 147 901 →
      (inI (8 * x7)) ∧
      (inI (902 + (8 * x7))) ∧
      (0 ≤ 902 + (8 * x7)) ∧
      (902 + (8 * x7) < 1800) ∧
      ((n 147 (902 + (8 * x7)) ≠ x1 →
        (inI (x7 + 1)) ∧
        Rn w mX12_find (d + 1) G Q 7 [(0, vr 145), (1, vi x1), (3, vi x3), (4, vi x4), (5, vl x5), (7, vi (x7 + 1))] [] (B0, n)) ∧
      (n 147 (902 + (8 * x7)) = x1 →
        (Ev w d 0 0 mX12_isSo [vr 145, vi (902 + (8 * x7))] (B0, n) (fun r h' => ∃ (x32 : Int) (n31 : NM), r = some (vi x32) ∧ h' = (B0, n31) ∧ 
          (∀ z34 : Int, z34 = (if x32 = 0 then x5 else n31 145 29) → 
          (inI (x7 + 1)) ∧
          Rn w mX12_find (d + 1) G Q 7 [(0, vr 145), (1, vi x1), (3, vi x3), (4, vi x4), (5, vl z34), (7, vi (x7 + 1))] [] (B0, n31))))))))) :
    Rn w mX12_find (d + 1) G Q 7 [(0, vr 145), (1, vi x1), (3, vi x3), (4, vi x4), (5, vl x5), (7, vi x7)] [] (B0, n) := by
  refine r_iload dX12_find_7 rfl ?_
  refine r_aload_n dX12_find_9 rfl rfl ?_
  refine r_getR (b := 147) dX12_find_10 fX12_13 ob_145 (by decide) rfl rfl ?_
  refine r_sipush (x := 901) dX12_find_13 (by decide +kernel) (by decide) ?_
  refine r_iald dX12_find_16 ob_147 (by decide) (by decide) ?_
  obtain ⟨V1, V2⟩ := V
  refine r_jge (tgt := 63) dX12_find_17 (by decide) (fun c21 => ?_) (fun c21 => ?_)
  · have V := V1 c21
    refine r_lload dX12_find_63 rfl ?_
    refine r_iload_n dX12_find_65 rfl rfl ?_
    refine r_i2l dX12_find_66 ?_
    obtain ⟨V1, V2⟩ := V
    refine r_lge dX12_find_67 rfl dX12_find_68 (tgt := 75) (by decide) (fun c22 => ?_) (fun c22 => ?_)
    · have V := V1 c22
      refine r_lload dX12_find_75 rfl ?_
      refine r_iload dX12_find_77 rfl ?_
      refine r_i2l dX12_find_79 ?_
      obtain ⟨V1, V2⟩ := V
      refine r_lle dX12_find_80 rfl dX12_find_81 (tgt := 89) (by decide) (fun c23 => ?_) (fun c23 => ?_)
      · have V := V1 c23
        refine r_lload dX12_find_89 rfl ?_
        obtain ⟨s24, V⟩ := V
        refine r_l2i dX12_find_91 s24 ?_
        exact r_iret dX12_find_92 rfl V
      · have V := V2 c23
        refine r_iload dX12_find_84 rfl ?_
        refine r_goto (tgt := 92) dX12_find_86 (by decide) ?_
        exact r_iret dX12_find_92 rfl V
    · have V := V2 c22
      refine r_iload_n dX12_find_71 rfl rfl ?_
      refine r_goto (tgt := 92) dX12_find_72 (by decide) ?_
      exact r_iret dX12_find_92 rfl V
  · have V := V2 c21
    refine r_sipush (x := 902) dX12_find_20 (by decide +kernel) (by decide) ?_
    refine r_bipush (x := 8) dX12_find_23 (by decide +kernel) (by decide) ?_
    refine r_iload dX12_find_25 rfl ?_
    obtain ⟨s25, V⟩ := V
    refine r_imul dX12_find_27 s25 ?_
    obtain ⟨s26, V⟩ := V
    refine r_iadd dX12_find_28 s26 ?_
    refine r_istore (ls' := [(0, vr 145), (1, vi x1), (3, vi x3), (4, vi x4), (5, vl x5), (7, vi x7), (8, vi (902 + (8 * x7)))]) dX12_find_29 (by decide) rfl ?_
    refine r_aload_n dX12_find_31 rfl rfl ?_
    refine r_getR (b := 147) dX12_find_32 fX12_13 ob_145 (by decide) rfl rfl ?_
    refine r_iload dX12_find_35 rfl ?_
    obtain ⟨s27, V⟩ := V
    obtain ⟨s28, V⟩ := V
    refine r_iald dX12_find_37 ob_147 s27 s28 ?_
    refine r_iload_n dX12_find_38 rfl rfl ?_
    obtain ⟨V1, V2⟩ := V
    refine r_jne (tgt := 57) dX12_find_39 (by decide) (fun c29 => ?_) (fun c29 => ?_)
    · have V := V1 c29
      obtain ⟨s30, V⟩ := V
      refine r_iinc (y := x7 + 1) (ls' := [(0, vr 145), (1, vi x1), (3, vi x3), (4, vi x4), (5, vl x5), (7, vi (x7 + 1)), (8, vi (902 + (8 * x7)))]) dX12_find_57 rfl rfl s30 (by decide) rfl ?_
      refine r_goto (tgt := 7) dX12_find_60 (by decide) ?_
      refine r_pick [0, 1, 2, 3, 4, 5] (ls' := [(0, vr 145), (1, vi x1), (3, vi x3), (4, vi x4), (5, vl x5), (7, vi (x7 + 1))]) rfl ?_
      exact V
    · have V := V2 c29
      refine r_aload_n dX12_find_42 rfl rfl ?_
      refine r_iload dX12_find_43 rfl ?_
      refine r_callV (args := [vi (902 + (8 * x7))]) dX12_find_45 kX12_328 ob_145 ⟨_, _, rfl⟩ (by decide) rfl rfl (Nat.le_of_ble_eq_true rfl) cap0 (Ev.mono V ?_)
      rintro r h' ⟨x32, n31, rfl, rfl, V⟩
      show Rn w mX12_find (d + 1) G Q 48 [(0, vr 145), (1, vi x1), (3, vi x3), (4, vi x4), (5, vl x5), (7, vi x7), (8, vi (902 + (8 * x7)))] [vi x32] (B0, n31)
      have K : ∀ z34 : Int, z34 = (if x32 = 0 then x5 else n31 145 29) → Rn w mX12_find (d + 1) G Q 57 [(0, vr 145), (1, vi x1), (3, vi x3), (4, vi x4), (5, vl z34), (7, vi x7)] [] (B0, n31) := by
        intro z34 ez34
        have V := V z34 ez34
        obtain ⟨s35, V⟩ := V
        refine r_iinc (y := x7 + 1) (ls' := [(0, vr 145), (1, vi x1), (3, vi x3), (4, vi x4), (5, vl z34), (7, vi (x7 + 1))]) dX12_find_57 rfl rfl s35 (by decide) rfl ?_
        refine r_goto (tgt := 7) dX12_find_60 (by decide) ?_
        exact V
      refine r_zeq (tgt := 57) dX12_find_48 (by decide) (fun c33 => ?_) (fun c33 => ?_)
      · refine r_pick [0, 1, 2, 3, 4, 5] (ls' := [(0, vr 145), (1, vi x1), (3, vi x3), (4, vi x4), (5, vl x5), (7, vi x7)]) rfl ?_
        exact K x5 (by first | rfl | (simp only [if_pos c33]))
      · refine r_aload_n dX12_find_51 rfl rfl ?_
        refine r_getL (fi := 29) dX12_find_52 fX12_325 ob_145 (by decide) rfl rfl ?_
        refine r_lstore (ls' := [(0, vr 145), (1, vi x1), (3, vi x3), (4, vi x4), (5, vl (n31 145 29)), (7, vi x7), (8, vi (902 + (8 * x7)))]) dX12_find_55 (by decide) rfl ?_
        refine r_pick [0, 1, 2, 3, 4, 5] (ls' := [(0, vr 145), (1, vi x1), (3, vi x3), (4, vi x4), (5, vl (n31 145 29)), (7, vi x7)]) rfl ?_
        exact K (n31 145 29) (by first | rfl | (simp only [if_neg c33]))

theorem gX12_goneOf_0 {w : WD} {d : Nat} {G : GM} {Q : Option AV → Hp → Prop} {n : NM} {x1 : Int}
    (V :
    Rn w mX12_goneOf d G Q 4 [(0, vr 145), (1, vi x1), (2, vi (-1)), (3, vi 0)] [] (B0, n)) :
    Rn w mX12_goneOf d G Q 0 [(0, vr 145), (1, vi x1)] [] (B0, n) := by
  refine r_iconst (x := -1) dX12_goneOf_0 rfl (by decide) ?_
  refine r_istore_n (ls' := [(0, vr 145), (1, vi x1), (2, vi (-1))]) dX12_goneOf_1 rfl (by decide) rfl ?_
  refine r_iconst (x := 0) dX12_goneOf_2 rfl (by decide) ?_
  refine r_istore_n (ls' := [(0, vr 145), (1, vi x1), (2, vi (-1)), (3, vi 0)]) dX12_goneOf_3 rfl (by decide) rfl ?_
  exact V

theorem gX12_goneOf_4 {w : WD} {d : Nat} {G : GM} {Q : Option AV → Hp → Prop} {n : NM} {x1 x2 x3 : Int}
    (V :
    ((n 147 0 ≤ x3 →
      ((x2 ≠ (-1) →
        (inI (x1 + 1)) ∧
        (0 ≤ x1 + 1) ∧
        (x1 + 1 < 1800) ∧
        (inI ((n 147 (x1 + 1)) - x2)) ∧
        Q (some (vi ((n 147 (x1 + 1)) - x2))) (B0, n)) ∧
      (x2 = (-1) →
        Q (some (vi 0)) (B0, n)))) ∧
    (x3 < n 147 0 →
      (inI (4 * x3)) ∧
      (inI (200 + (4 * x3))) ∧
      (inI ((200 + (4 * x3)) + 1)) ∧
      (0 ≤ (200 + (4 * x3)) + 1) ∧
      ((200 + (4 * x3)) + 1 < 1800) ∧
      (n 147 ((200 + (4 * x3)) + 1) ≠ 0 → inI (x1 + 2)) ∧
      (n 147 ((200 + (4 * x3)) + 1) ≠ 0 → 0 ≤ x1 + 2) ∧
      (n 147 ((200 + (4 * x3)) + 1) ≠ 0 → x1 + 2 < 1800) ∧
      (n 147 ((200 + (4 * x3)) + 1) ≠ 0 → inI (23 - (n 147 (x1 + 2)))) ∧
      (n 147 ((200 + (4 * x3)) + 1) = 0 → inI (x1 + 2)) ∧
      (n 147 ((200 + (4 * x3)) + 1) = 0 → 0 ≤ x1 + 2) ∧
      (n 147 ((200 + (4 * x3)) + 1) = 0 → x1 + 2 < 1800) ∧
      (∀ z40 : Int, z40 = (if n 147 ((200 + (4 * x3)) + 1) ≠ 0 then 23 - (n 147 (x1 + 2)) else n 147 (x1 + 2)) → 
      (inI ((200 + (4 * x3)) + 2)) ∧
      (0 ≤ (200 + (4 * x3)) + 2) ∧
      ((200 + (4 * x3)) + 2 < 1800) ∧
      (inI ((200 + (4 * x3)) + 3)) ∧
      (0 ≤ (200 + (4 * x3)) + 3) ∧
      ((200 + (4 * x3)) + 3 < 1800) ∧
      (inI (z40 * (n 147 ((200 + (4 * x3)) + 3)))) ∧
      (inI ((n 147 ((200 + (4 * x3)) + 2)) + (z40 * (n 147 ((200 + (4 * x3)) + 3))))) ∧
      (0 ≤ 200 + (4 * x3)) ∧
      (200 + (4 * x3) < 1800) ∧
      (0 ≤ x1) ∧
      (x1 < 1800) ∧
      (n 147 (200 + (4 * x3)) = n 147 x1 → inI (x1 + 1)) ∧
      (n 147 (200 + (4 * x3)) = n 147 x1 → 0 ≤ x1 + 1) ∧
      (n 147 (200 + (4 * x3)) = n 147 x1 → x1 + 1 < 1800) ∧
      (∀ z59 : Int, z59 = (if n 147 (200 + (4 * x3)) ≠ n 147 x1 then x2 else (if n 147 (x1 + 1) < (n 147 ((200 + (4 * x3)) + 2)) + (z40 * (n 147 ((200 + (4 * x3)) + 3))) then x2 else (if (n 147 ((200 + (4 * x3)) + 2)) + (z40 * (n 147 ((200 + (4 * x3)) + 3))) ≤ x2 then x2 else (n 147 ((200 + (4 * x3)) + 2)) + (z40 * (n 147 ((200 + (4 * x3)) + 3)))))) → 
      (inI (x3 + 1)) ∧
      Rn w mX12_goneOf d G Q 4 [(0, vr 145), (1, vi x1), (2, vi z59), (3, vi (x3 + 1))] [] (B0, n)))))) :
    Rn w mX12_goneOf d G Q 4 [(0, vr 145), (1, vi x1), (2, vi x2), (3, vi x3)] [] (B0, n) := by
  refine r_iload_n dX12_goneOf_4 rfl rfl ?_
  refine r_aload_n dX12_goneOf_5 rfl rfl ?_
  refine r_getR (b := 147) dX12_goneOf_6 fX12_13 ob_145 (by decide) rfl rfl ?_
  refine r_iconst (x := 0) dX12_goneOf_9 rfl (by decide) ?_
  refine r_iald dX12_goneOf_10 ob_147 (by decide) (by decide) ?_
  obtain ⟨V1, V2⟩ := V
  refine r_jge (tgt := 131) dX12_goneOf_11 (by decide) (fun c21 => ?_) (fun c21 => ?_)
  · have V := V1 c21
    refine r_iload_n dX12_goneOf_131 rfl rfl ?_
    refine r_iconst (x := -1) dX12_goneOf_132 rfl (by decide) ?_
    obtain ⟨V1, V2⟩ := V
    refine r_jne (tgt := 140) dX12_goneOf_133 (by decide) (fun c22 => ?_) (fun c22 => ?_)
    · have V := V1 c22
      refine r_aload_n dX12_goneOf_140 rfl rfl ?_
      refine r_getR (b := 147) dX12_goneOf_141 fX12_13 ob_145 (by decide) rfl rfl ?_
      refine r_iload_n dX12_goneOf_144 rfl rfl ?_
      refine r_iconst (x := 1) dX12_goneOf_145 rfl (by decide) ?_
      obtain ⟨s23, V⟩ := V
      refine r_iadd dX12_goneOf_146 s23 ?_
      obtain ⟨s24, V⟩ := V
      obtain ⟨s25, V⟩ := V
      refine r_iald dX12_goneOf_147 ob_147 s24 s25 ?_
      refine r_iload_n dX12_goneOf_148 rfl rfl ?_
      obtain ⟨s26, V⟩ := V
      refine r_isub dX12_goneOf_149 s26 ?_
      exact r_iret dX12_goneOf_150 rfl V
    · have V := V2 c22
      refine r_iconst (x := 0) dX12_goneOf_136 rfl (by decide) ?_
      refine r_goto (tgt := 150) dX12_goneOf_137 (by decide) ?_
      exact r_iret dX12_goneOf_150 rfl V
  · have V := V2 c21
    refine r_sipush (x := 200) dX12_goneOf_14 (by decide +kernel) (by decide) ?_
    refine r_iconst (x := 4) dX12_goneOf_17 rfl (by decide) ?_
    refine r_iload_n dX12_goneOf_18 rfl rfl ?_
    obtain ⟨s27, V⟩ := V
    refine r_imul dX12_goneOf_19 s27 ?_
    obtain ⟨s28, V⟩ := V
    refine r_iadd dX12_goneOf_20 s28 ?_
    refine r_istore (ls' := [(0, vr 145), (1, vi x1), (2, vi x2), (3, vi x3), (4, vi (200 + (4 * x3)))]) dX12_goneOf_21 (by decide) rfl ?_
    refine r_aload_n dX12_goneOf_23 rfl rfl ?_
    refine r_getR (b := 147) dX12_goneOf_24 fX12_13 ob_145 (by decide) rfl rfl ?_
    refine r_iload dX12_goneOf_27 rfl ?_
    refine r_iconst (x := 1) dX12_goneOf_29 rfl (by decide) ?_
    obtain ⟨s29, V⟩ := V
    refine r_iadd dX12_goneOf_30 s29 ?_
    obtain ⟨s30, V⟩ := V
    obtain ⟨s31, V⟩ := V
    refine r_iald dX12_goneOf_31 ob_147 s30 s31 ?_
    obtain ⟨s33, V⟩ := V
    obtain ⟨s34, V⟩ := V
    obtain ⟨s35, V⟩ := V
    obtain ⟨s36, V⟩ := V
    obtain ⟨s37, V⟩ := V
    obtain ⟨s38, V⟩ := V
    obtain ⟨s39, V⟩ := V
    have K : ∀ z40 : Int, z40 = (if n 147 ((200 + (4 * x3)) + 1) ≠ 0 then 23 - (n 147 (x1 + 2)) else n 147 (x1 + 2)) → Rn w mX12_goneOf d G Q 57 [(0, vr 145), (1, vi x1), (2, vi x2), (3, vi x3), (4, vi (200 + (4 * x3)))] [vi z40] (B0, n) := by
      intro z40 ez40
      have V := V z40 ez40
      refine r_istore (ls' := [(0, vr 145), (1, vi x1), (2, vi x2), (3, vi x3), (4, vi (200 + (4 * x3))), (5, vi z40)]) dX12_goneOf_57 (by decide) rfl ?_
      refine r_aload_n dX12_goneOf_59 rfl rfl ?_
      refine r_getR (b := 147) dX12_goneOf_60 fX12_13 ob_145 (by decide) rfl rfl ?_
      refine r_iload dX12_goneOf_63 rfl ?_
      refine r_iconst (x := 2) dX12_goneOf_65 rfl (by decide) ?_
      obtain ⟨s41, V⟩ := V
      refine r_iadd dX12_goneOf_66 s41 ?_
      obtain ⟨s42, V⟩ := V
      obtain ⟨s43, V⟩ := V
      refine r_iald dX12_goneOf_67 ob_147 s42 s43 ?_
      refine r_iload dX12_goneOf_68 rfl ?_
      refine r_aload_n dX12_goneOf_70 rfl rfl ?_
      refine r_getR (b := 147) dX12_goneOf_71 fX12_13 ob_145 (by decide) rfl rfl ?_
      refine r_iload dX12_goneOf_74 rfl ?_
      refine r_iconst (x := 3) dX12_goneOf_76 rfl (by decide) ?_
      obtain ⟨s44, V⟩ := V
      refine r_iadd dX12_goneOf_77 s44 ?_
      obtain ⟨s45, V⟩ := V
      obtain ⟨s46, V⟩ := V
      refine r_iald dX12_goneOf_78 ob_147 s45 s46 ?_
      obtain ⟨s47, V⟩ := V
      refine r_imul dX12_goneOf_79 s47 ?_
      obtain ⟨s48, V⟩ := V
      refine r_iadd dX12_goneOf_80 s48 ?_
      refine r_istore (ls' := [(0, vr 145), (1, vi x1), (2, vi x2), (3, vi x3), (4, vi (200 + (4 * x3))), (5, vi z40), (6, vi ((n 147 ((200 + (4 * x3)) + 2)) + (z40 * (n 147 ((200 + (4 * x3)) + 3)))))]) dX12_goneOf_81 (by decide) rfl ?_
      refine r_aload_n dX12_goneOf_83 rfl rfl ?_
      refine r_getR (b := 147) dX12_goneOf_84 fX12_13 ob_145 (by decide) rfl rfl ?_
      refine r_iload dX12_goneOf_87 rfl ?_
      obtain ⟨s49, V⟩ := V
      obtain ⟨s50, V⟩ := V
      refine r_iald dX12_goneOf_89 ob_147 s49 s50 ?_
      refine r_aload_n dX12_goneOf_90 rfl rfl ?_
      refine r_getR (b := 147) dX12_goneOf_91 fX12_13 ob_145 (by decide) rfl rfl ?_
      refine r_iload_n dX12_goneOf_94 rfl rfl ?_
      obtain ⟨s51, V⟩ := V
      obtain ⟨s52, V⟩ := V
      refine r_iald dX12_goneOf_95 ob_147 s51 s52 ?_
      obtain ⟨s54, V⟩ := V
      obtain ⟨s55, V⟩ := V
      obtain ⟨s56, V⟩ := V
      have K : ∀ z59 : Int, z59 = (if n 147 (200 + (4 * x3)) ≠ n 147 x1 then x2 else (if n 147 (x1 + 1) < (n 147 ((200 + (4 * x3)) + 2)) + (z40 * (n 147 ((200 + (4 * x3)) + 3))) then x2 else (if (n 147 ((200 + (4 * x3)) + 2)) + (z40 * (n 147 ((200 + (4 * x3)) + 3))) ≤ x2 then x2 else (n 147 ((200 + (4 * x3)) + 2)) + (z40 * (n 147 ((200 + (4 * x3)) + 3)))))) → Rn w mX12_goneOf d G Q 124 [(0, vr 145), (1, vi x1), (3, vi x3)] [vi z59] (B0, n) := by
        intro z59 ez59
        have V := V z59 ez59
        refine r_istore_n (ls' := [(0, vr 145), (1, vi x1), (2, vi z59), (3, vi x3)]) dX12_goneOf_124 rfl (by decide) rfl ?_
        obtain ⟨s60, V⟩ := V
        refine r_iinc (y := x3 + 1) (ls' := [(0, vr 145), (1, vi x1), (2, vi z59), (3, vi (x3 + 1))]) dX12_goneOf_125 rfl rfl s60 (by decide) rfl ?_
        refine r_goto (tgt := 4) dX12_goneOf_128 (by decide) ?_
        exact V
      refine r_jne (tgt := 123) dX12_goneOf_96 (by decide) (fun c53 => ?_) (fun c53 => ?_)
      · refine r_iload_n dX12_goneOf_123 rfl rfl ?_
        refine r_pick [0, 1, 3] (ls' := [(0, vr 145), (1, vi x1), (3, vi x3)]) rfl ?_
        exact K x2 (by first | rfl | (simp only [if_pos c53]))
      · refine r_iload dX12_goneOf_99 rfl ?_
        refine r_aload_n dX12_goneOf_101 rfl rfl ?_
        refine r_getR (b := 147) dX12_goneOf_102 fX12_13 ob_145 (by decide) rfl rfl ?_
        refine r_iload_n dX12_goneOf_105 rfl rfl ?_
        refine r_iconst (x := 1) dX12_goneOf_106 rfl (by decide) ?_
        refine r_iadd dX12_goneOf_107 (s54 c53) ?_
        refine r_iald dX12_goneOf_108 ob_147 (s55 c53) (s56 c53) ?_
        refine r_jgt (tgt := 123) dX12_goneOf_109 (by decide) (fun c57 => ?_) (fun c57 => ?_)
        · refine r_iload_n dX12_goneOf_123 rfl rfl ?_
          refine r_pick [0, 1, 3] (ls' := [(0, vr 145), (1, vi x1), (3, vi x3)]) rfl ?_
          exact K x2 (by first | rfl | (simp only [if_neg (show ¬ (n 147 (200 + (4 * x3)) ≠ n 147 x1) from not_not_intro c53), if_pos c57]))
        · refine r_iload dX12_goneOf_112 rfl ?_
          refine r_iload_n dX12_goneOf_114 rfl rfl ?_
          refine r_jle (tgt := 123) dX12_goneOf_115 (by decide) (fun c58 => ?_) (fun c58 => ?_)
          · refine r_iload_n dX12_goneOf_123 rfl rfl ?_
            refine r_pick [0, 1, 3] (ls' := [(0, vr 145), (1, vi x1), (3, vi x3)]) rfl ?_
            exact K x2 (by first | rfl | (simp only [if_neg (show ¬ (n 147 (200 + (4 * x3)) ≠ n 147 x1) from not_not_intro c53), if_neg (Int.not_lt.mpr c57), if_pos c58]))
          · refine r_iload dX12_goneOf_118 rfl ?_
            refine r_goto (tgt := 124) dX12_goneOf_120 (by decide) ?_
            refine r_pick [0, 1, 3] (ls' := [(0, vr 145), (1, vi x1), (3, vi x3)]) rfl ?_
            exact K ((n 147 ((200 + (4 * x3)) + 2)) + (z40 * (n 147 ((200 + (4 * x3)) + 3)))) (by first | rfl | (simp only [if_neg (show ¬ (n 147 (200 + (4 * x3)) ≠ n 147 x1) from not_not_intro c53), if_neg (Int.not_lt.mpr c57), if_neg (Int.not_le.mpr c58)]))
    refine r_zne (tgt := 46) dX12_goneOf_32 (by decide) (fun c32 => ?_) (fun c32 => ?_)
    · refine r_bipush (x := 23) dX12_goneOf_46 (by decide +kernel) (by decide) ?_
      refine r_aload_n dX12_goneOf_48 rfl rfl ?_
      refine r_getR (b := 147) dX12_goneOf_49 fX12_13 ob_145 (by decide) rfl rfl ?_
      refine r_iload_n dX12_goneOf_52 rfl rfl ?_
      refine r_iconst (x := 2) dX12_goneOf_53 rfl (by decide) ?_
      refine r_iadd dX12_goneOf_54 (s33 c32) ?_
      refine r_iald dX12_goneOf_55 ob_147 (s34 c32) (s35 c32) ?_
      refine r_isub dX12_goneOf_56 (s36 c32) ?_
      exact K (23 - (n 147 (x1 + 2))) (by first | rfl | (simp only [if_pos c32]))
    · refine r_aload_n dX12_goneOf_35 rfl rfl ?_
      refine r_getR (b := 147) dX12_goneOf_36 fX12_13 ob_145 (by decide) rfl rfl ?_
      refine r_iload_n dX12_goneOf_39 rfl rfl ?_
      refine r_iconst (x := 2) dX12_goneOf_40 rfl (by decide) ?_
      refine r_iadd dX12_goneOf_41 (s37 c32) ?_
      refine r_iald dX12_goneOf_42 ob_147 (s38 c32) (s39 c32) ?_
      refine r_goto (tgt := 57) dX12_goneOf_43 (by decide) ?_
      exact K (n 147 (x1 + 2)) (by first | rfl | (simp only [if_neg (show ¬ (n 147 ((200 + (4 * x3)) + 1) ≠ 0) from not_not_intro c32)]))

theorem gX12_isBeast_0 {w : WD} {d : Nat} {G : GM} {Q : Option AV → Hp → Prop} {n : NM} {x1 : Int}
    (V :
    Rn w mX12_isBeast d G Q 4 [(0, vr 145), (1, vi x1), (2, vi 0), (3, vi 0)] [] (B0, n)) :
    Rn w mX12_isBeast d G Q 0 [(0, vr 145), (1, vi x1)] [] (B0, n) := by
  refine r_iconst (x := 0) dX12_isBeast_0 rfl (by decide) ?_
  refine r_istore_n (ls' := [(0, vr 145), (1, vi x1), (2, vi 0)]) dX12_isBeast_1 rfl (by decide) rfl ?_
  refine r_iconst (x := 0) dX12_isBeast_2 rfl (by decide) ?_
  refine r_istore_n (ls' := [(0, vr 145), (1, vi x1), (2, vi 0), (3, vi 0)]) dX12_isBeast_3 rfl (by decide) rfl ?_
  exact V

theorem gX12_isBeast_4 {w : WD} {d : Nat} {G : GM} {Q : Option AV → Hp → Prop} {n : NM} {x1 x2 x3 : Int}
    (V :
    ((n 147 1 ≤ x3 →
      (x2 = 0 ∨ x2 = 1) ∧
      Q (some (vi x2)) (B0, n)) ∧
    (x3 < n 147 1 →
      (inI (4 * x3)) ∧
      (inI (250 + (4 * x3))) ∧
      ((x2 ≠ 0 →
        (inI (x3 + 1)) ∧
        Rn w mX12_isBeast (d + 1) G Q 4 [(0, vr 145), (1, vi x1), (2, vi 1), (3, vi (x3 + 1))] [] (B0, n)) ∧
      (x2 = 0 →
        (0 ≤ 250 + (4 * x3)) ∧
        (250 + (4 * x3) < 1800) ∧
        (0 ≤ x1) ∧
        (x1 < 1800) ∧
        ((n 147 (250 + (4 * x3)) ≠ n 147 x1 →
          (inI (x3 + 1)) ∧
          Rn w mX12_isBeast (d + 1) G Q 4 [(0, vr 145), (1, vi x1), (2, vi 0), (3, vi (x3 + 1))] [] (B0, n)) ∧
        (n 147 (250 + (4 * x3)) = n 147 x1 →
          (inI (x1 + 2)) ∧
          (0 ≤ x1 + 2) ∧
          (x1 + 2 < 1800) ∧
          (inI ((250 + (4 * x3)) + 1)) ∧
          (0 ≤ (250 + (4 * x3)) + 1) ∧
          ((250 + (4 * x3)) + 1 < 1800) ∧
          (inI ((n 147 (x1 + 2)) - (n 147 ((250 + (4 * x3)) + 1)))) ∧
          (Ev w d 0 0 mX12_in [vl ((n 147 (x1 + 2)) - (n 147 ((250 + (4 * x3)) + 1))), vl (-1), vl 1] (B0, n) (fun r h' => ∃ (x41 : Int) (n40 : NM), r = some (vi x41) ∧ h' = (B0, n40) ∧ 
            ((x41 = 0 →
              (inI (x3 + 1)) ∧
              Rn w mX12_isBeast (d + 1) G Q 4 [(0, vr 145), (1, vi x1), (2, vi 0), (3, vi (x3 + 1))] [] (B0, n40)) ∧
            (x41 ≠ 0 →
              (inI (x1 + 1)) ∧
              (0 ≤ x1 + 1) ∧
              (x1 + 1 < 1800) ∧
              (inI ((250 + (4 * x3)) + 2)) ∧
              (0 ≤ (250 + (4 * x3)) + 2) ∧
              ((250 + (4 * x3)) + 2 < 1800) ∧
              (inI ((250 + (4 * x3)) + 3)) ∧
              (0 ≤ (250 + (4 * x3)) + 3) ∧
              ((250 + (4 * x3)) + 3 < 1800) ∧
              (Ev w d 0 0 mX12_in [vl (n40 147 (x1 + 1)), vl (n40 147 ((250 + (4 * x3)) + 2)), vl (n40 147 ((250 + (4 * x3)) + 3))] (B0, n40) (fun r h' => ∃ (x54 : Int) (n53 : NM), r = some (vi x54) ∧ h' = (B0, n53) ∧ 
                (∀ z56 : Int, z56 = (if x54 = 0 then 0 else 1) → 
                (inI (x3 + 1)) ∧
                Rn w mX12_isBeast (d + 1) G Q 4 [(0, vr 145), (1, vi x1), (2, vi z56), (3, vi (x3 + 1))] [] (B0, n53))))))))))))))) :
    Rn w mX12_isBeast (d + 1) G Q 4 [(0, vr 145), (1, vi x1), (2, vi x2), (3, vi x3)] [] (B0, n) := by
  refine r_iload_n dX12_isBeast_4 rfl rfl ?_
  refine r_aload_n dX12_isBeast_5 rfl rfl ?_
  refine r_getR (b := 147) dX12_isBeast_6 fX12_13 ob_145 (by decide) rfl rfl ?_
  refine r_iconst (x := 1) dX12_isBeast_9 rfl (by decide) ?_
  refine r_iald dX12_isBeast_10 ob_147 (by decide) (by decide) ?_
  obtain ⟨V1, V2⟩ := V
  refine r_jge (tgt := 119) dX12_isBeast_11 (by decide) (fun c21 => ?_) (fun c21 => ?_)
  · have V := V1 c21
    refine r_iload_n dX12_isBeast_119 rfl rfl ?_
    obtain ⟨s22, V⟩ := V
    exact r_zret dX12_isBeast_120 rfl s22 V
  · have V := V2 c21
    refine r_sipush (x := 250) dX12_isBeast_14 (by decide +kernel) (by decide) ?_
    refine r_iconst (x := 4) dX12_isBeast_17 rfl (by decide) ?_
    refine r_iload_n dX12_isBeast_18 rfl rfl ?_
    obtain ⟨s23, V⟩ := V
    refine r_imul dX12_isBeast_19 s23 ?_
    obtain ⟨s24, V⟩ := V
    refine r_iadd dX12_isBeast_20 s24 ?_
    refine r_istore (ls' := [(0, vr 145), (1, vi x1), (2, vi x2), (3, vi x3), (4, vi (250 + (4 * x3)))]) dX12_isBeast_21 (by decide) rfl ?_
    refine r_iload_n dX12_isBeast_23 rfl rfl ?_
    obtain ⟨V1, V2⟩ := V
    refine r_zne (tgt := 107) dX12_isBeast_24 (by decide) (fun c25 => ?_) (fun c25 => ?_)
    · have V := V1 c25
      refine r_iconst (x := 1) dX12_isBeast_107 rfl (by decide) ?_
      refine r_goto (tgt := 112) dX12_isBeast_108 (by decide) ?_
      refine r_istore_n (ls' := [(0, vr 145), (1, vi x1), (2, vi 1), (3, vi x3), (4, vi (250 + (4 * x3)))]) dX12_isBeast_112 rfl (by decide) rfl ?_
      obtain ⟨s26, V⟩ := V
      refine r_iinc (y := x3 + 1) (ls' := [(0, vr 145), (1, vi x1), (2, vi 1), (3, vi (x3 + 1)), (4, vi (250 + (4 * x3)))]) dX12_isBeast_113 rfl rfl s26 (by decide) rfl ?_
      refine r_goto (tgt := 4) dX12_isBeast_116 (by decide) ?_
      refine r_pick [0, 1, 2, 3] (ls' := [(0, vr 145), (1, vi x1), (2, vi 1), (3, vi (x3 + 1))]) rfl ?_
      exact V
    · have V := V2 c25
      refine r_aload_n dX12_isBeast_27 rfl rfl ?_
      refine r_getR (b := 147) dX12_isBeast_28 fX12_13 ob_145 (by decide) rfl rfl ?_
      refine r_iload dX12_isBeast_31 rfl ?_
      obtain ⟨s27, V⟩ := V
      obtain ⟨s28, V⟩ := V
      refine r_iald dX12_isBeast_33 ob_147 s27 s28 ?_
      refine r_aload_n dX12_isBeast_34 rfl rfl ?_
      refine r_getR (b := 147) dX12_isBeast_35 fX12_13 ob_145 (by decide) rfl rfl ?_
      refine r_iload_n dX12_isBeast_38 rfl rfl ?_
      obtain ⟨s29, V⟩ := V
      obtain ⟨s30, V⟩ := V
      refine r_iald dX12_isBeast_39 ob_147 s29 s30 ?_
      obtain ⟨V1, V2⟩ := V
      refine r_jne (tgt := 111) dX12_isBeast_40 (by decide) (fun c31 => ?_) (fun c31 => ?_)
      · have V := V1 c31
        refine r_iconst (x := 0) dX12_isBeast_111 rfl (by decide) ?_
        refine r_istore_n (ls' := [(0, vr 145), (1, vi x1), (2, vi 0), (3, vi x3), (4, vi (250 + (4 * x3)))]) dX12_isBeast_112 rfl (by decide) rfl ?_
        obtain ⟨s32, V⟩ := V
        refine r_iinc (y := x3 + 1) (ls' := [(0, vr 145), (1, vi x1), (2, vi 0), (3, vi (x3 + 1)), (4, vi (250 + (4 * x3)))]) dX12_isBeast_113 rfl rfl s32 (by decide) rfl ?_
        refine r_goto (tgt := 4) dX12_isBeast_116 (by decide) ?_
        refine r_pick [0, 1, 2, 3] (ls' := [(0, vr 145), (1, vi x1), (2, vi 0), (3, vi (x3 + 1))]) rfl ?_
        exact V
      · have V := V2 c31
        refine r_aload_n dX12_isBeast_43 rfl rfl ?_
        refine r_getR (b := 147) dX12_isBeast_44 fX12_13 ob_145 (by decide) rfl rfl ?_
        refine r_iload_n dX12_isBeast_47 rfl rfl ?_
        refine r_iconst (x := 2) dX12_isBeast_48 rfl (by decide) ?_
        obtain ⟨s33, V⟩ := V
        refine r_iadd dX12_isBeast_49 s33 ?_
        obtain ⟨s34, V⟩ := V
        obtain ⟨s35, V⟩ := V
        refine r_iald dX12_isBeast_50 ob_147 s34 s35 ?_
        refine r_aload_n dX12_isBeast_51 rfl rfl ?_
        refine r_getR (b := 147) dX12_isBeast_52 fX12_13 ob_145 (by decide) rfl rfl ?_
        refine r_iload dX12_isBeast_55 rfl ?_
        refine r_iconst (x := 1) dX12_isBeast_57 rfl (by decide) ?_
        obtain ⟨s36, V⟩ := V
        refine r_iadd dX12_isBeast_58 s36 ?_
        obtain ⟨s37, V⟩ := V
        obtain ⟨s38, V⟩ := V
        refine r_iald dX12_isBeast_59 ob_147 s37 s38 ?_
        obtain ⟨s39, V⟩ := V
        refine r_isub dX12_isBeast_60 s39 ?_
        refine r_i2l dX12_isBeast_61 ?_
        refine r_ldc2 (x := -1) dX12_isBeast_62 qX12_174 (by decide) ?_
        refine r_lconst (x := 1) dX12_isBeast_65 rfl (by decide) ?_
        refine r_callS (args := [vl ((n 147 (x1 + 2)) - (n 147 ((250 + (4 * x3)) + 1))), vl (-1), vl 1]) dX12_isBeast_66 kX12_82 rfl rfl (Nat.le_of_ble_eq_true rfl) cap0 (Ev.mono V ?_)
        rintro r h' ⟨x41, n40, rfl, rfl, V⟩
        show Rn w mX12_isBeast (d + 1) G Q 69 [(0, vr 145), (1, vi x1), (2, vi x2), (3, vi x3), (4, vi (250 + (4 * x3)))] [vi x41] (B0, n40)
        obtain ⟨V1, V2⟩ := V
        refine r_zeq (tgt := 111) dX12_isBeast_69 (by decide) (fun c42 => ?_) (fun c42 => ?_)
        · have V := V1 c42
          refine r_iconst (x := 0) dX12_isBeast_111 rfl (by decide) ?_
          refine r_istore_n (ls' := [(0, vr 145), (1, vi x1), (2, vi 0), (3, vi x3), (4, vi (250 + (4 * x3)))]) dX12_isBeast_112 rfl (by decide) rfl ?_
          obtain ⟨s43, V⟩ := V
          refine r_iinc (y := x3 + 1) (ls' := [(0, vr 145), (1, vi x1), (2, vi 0), (3, vi (x3 + 1)), (4, vi (250 + (4 * x3)))]) dX12_isBeast_113 rfl rfl s43 (by decide) rfl ?_
          refine r_goto (tgt := 4) dX12_isBeast_116 (by decide) ?_
          refine r_pick [0, 1, 2, 3] (ls' := [(0, vr 145), (1, vi x1), (2, vi 0), (3, vi (x3 + 1))]) rfl ?_
          exact V
        · have V := V2 c42
          refine r_aload_n dX12_isBeast_72 rfl rfl ?_
          refine r_getR (b := 147) dX12_isBeast_73 fX12_13 ob_145 (by decide) rfl rfl ?_
          refine r_iload_n dX12_isBeast_76 rfl rfl ?_
          refine r_iconst (x := 1) dX12_isBeast_77 rfl (by decide) ?_
          obtain ⟨s44, V⟩ := V
          refine r_iadd dX12_isBeast_78 s44 ?_
          obtain ⟨s45, V⟩ := V
          obtain ⟨s46, V⟩ := V
          refine r_iald dX12_isBeast_79 ob_147 s45 s46 ?_
          refine r_i2l dX12_isBeast_80 ?_
          refine r_aload_n dX12_isBeast_81 rfl rfl ?_
          refine r_getR (b := 147) dX12_isBeast_82 fX12_13 ob_145 (by decide) rfl rfl ?_
          refine r_iload dX12_isBeast_85 rfl ?_
          refine r_iconst (x := 2) dX12_isBeast_87 rfl (by decide) ?_
          obtain ⟨s47, V⟩ := V
          refine r_iadd dX12_isBeast_88 s47 ?_
          obtain ⟨s48, V⟩ := V
          obtain ⟨s49, V⟩ := V
          refine r_iald dX12_isBeast_89 ob_147 s48 s49 ?_
          refine r_i2l dX12_isBeast_90 ?_
          refine r_aload_n dX12_isBeast_91 rfl rfl ?_
          refine r_getR (b := 147) dX12_isBeast_92 fX12_13 ob_145 (by decide) rfl rfl ?_
          refine r_iload dX12_isBeast_95 rfl ?_
          refine r_iconst (x := 3) dX12_isBeast_97 rfl (by decide) ?_
          obtain ⟨s50, V⟩ := V
          refine r_iadd dX12_isBeast_98 s50 ?_
          obtain ⟨s51, V⟩ := V
          obtain ⟨s52, V⟩ := V
          refine r_iald dX12_isBeast_99 ob_147 s51 s52 ?_
          refine r_i2l dX12_isBeast_100 ?_
          refine r_callS (args := [vl (n40 147 (x1 + 1)), vl (n40 147 ((250 + (4 * x3)) + 2)), vl (n40 147 ((250 + (4 * x3)) + 3))]) dX12_isBeast_101 kX12_82 rfl rfl (Nat.le_of_ble_eq_true rfl) cap0 (Ev.mono V ?_)
          rintro r h' ⟨x54, n53, rfl, rfl, V⟩
          show Rn w mX12_isBeast (d + 1) G Q 104 [(0, vr 145), (1, vi x1), (2, vi x2), (3, vi x3), (4, vi (250 + (4 * x3)))] [vi x54] (B0, n53)
          have K : ∀ z56 : Int, z56 = (if x54 = 0 then 0 else 1) → Rn w mX12_isBeast (d + 1) G Q 112 [(0, vr 145), (1, vi x1), (3, vi x3)] [vi z56] (B0, n53) := by
            intro z56 ez56
            have V := V z56 ez56
            refine r_istore_n (ls' := [(0, vr 145), (1, vi x1), (2, vi z56), (3, vi x3)]) dX12_isBeast_112 rfl (by decide) rfl ?_
            obtain ⟨s57, V⟩ := V
            refine r_iinc (y := x3 + 1) (ls' := [(0, vr 145), (1, vi x1), (2, vi z56), (3, vi (x3 + 1))]) dX12_isBeast_113 rfl rfl s57 (by decide) rfl ?_
            refine r_goto (tgt := 4) dX12_isBeast_116 (by decide) ?_
            exact V
          refine r_zeq (tgt := 111) dX12_isBeast_104 (by decide) (fun c55 => ?_) (fun c55 => ?_)
          · refine r_iconst (x := 0) dX12_isBeast_111 rfl (by decide) ?_
            refine r_pick [0, 1, 3] (ls' := [(0, vr 145), (1, vi x1), (3, vi x3)]) rfl ?_
            exact K 0 (by first | rfl | (simp only [if_pos c55]))
          · refine r_iconst (x := 1) dX12_isBeast_107 rfl (by decide) ?_
            refine r_goto (tgt := 112) dX12_isBeast_108 (by decide) ?_
            refine r_pick [0, 1, 3] (ls' := [(0, vr 145), (1, vi x1), (3, vi x3)]) rfl ?_
            exact K 1 (by first | rfl | (simp only [if_neg c55]))

theorem gX12_isLog_0 {w : WD} {d : Nat} {G : GM} {Q : Option AV → Hp → Prop} {n : NM} {x1 : Int}
    (V :
    Rn w mX12_isLog d G Q 4 [(0, vr 145), (1, vi x1), (2, vi 0), (3, vi 0)] [] (B0, n)) :
    Rn w mX12_isLog d G Q 0 [(0, vr 145), (1, vi x1)] [] (B0, n) := by
  refine r_iconst (x := 0) dX12_isLog_0 rfl (by decide) ?_
  refine r_istore_n (ls' := [(0, vr 145), (1, vi x1), (2, vi 0)]) dX12_isLog_1 rfl (by decide) rfl ?_
  refine r_iconst (x := 0) dX12_isLog_2 rfl (by decide) ?_
  refine r_istore_n (ls' := [(0, vr 145), (1, vi x1), (2, vi 0), (3, vi 0)]) dX12_isLog_3 rfl (by decide) rfl ?_
  exact V

theorem gX12_isLog_4 {w : WD} {d : Nat} {G : GM} {Q : Option AV → Hp → Prop} {n : NM} {x1 x2 x3 : Int}
    (V :
    ((n 147 2 ≤ x3 →
      (x2 = 0 ∨ x2 = 1) ∧
      Q (some (vi x2)) (B0, n)) ∧
    (x3 < n 147 2 →
      (x2 = 0 → inI (2 * x3)) ∧
      (x2 = 0 → inI (300 + (2 * x3))) ∧
      (x2 = 0 → 0 ≤ 300 + (2 * x3)) ∧
      (x2 = 0 → 300 + (2 * x3) < 1800) ∧
      (x2 = 0 → 0 ≤ x1) ∧
      (x2 = 0 → x1 < 1800) ∧
      (x2 = 0 → n 147 (300 + (2 * x3)) = n 147 x1 → inI (2 * x3)) ∧
      (x2 = 0 → n 147 (300 + (2 * x3)) = n 147 x1 → inI (300 + (2 * x3))) ∧
      (x2 = 0 → n 147 (300 + (2 * x3)) = n 147 x1 → inI ((300 + (2 * x3)) + 1)) ∧
      (x2 = 0 → n 147 (300 + (2 * x3)) = n 147 x1 → 0 ≤ (300 + (2 * x3)) + 1) ∧
      (x2 = 0 → n 147 (300 + (2 * x3)) = n 147 x1 → (300 + (2 * x3)) + 1 < 1800) ∧
      (x2 = 0 → n 147 (300 + (2 * x3)) = n 147 x1 → inI (x1 + 2)) ∧
      (x2 = 0 → n 147 (300 + (2 * x3)) = n 147 x1 → 0 ≤ x1 + 2) ∧
      (x2 = 0 → n 147 (300 + (2 * x3)) = n 147 x1 → x1 + 2 < 1800) ∧
      (∀ z40 : Int, z40 = (if x2 ≠ 0 then 1 else (if n 147 (300 + (2 * x3)) ≠ n 147 x1 then 0 else (if n 147 ((300 + (2 * x3)) + 1) ≠ n 147 (x1 + 2) then 0 else 1))) → 
      (inI (x3 + 1)) ∧
      Rn w mX12_isLog d G Q 4 [(0, vr 145), (1, vi x1), (2, vi z40), (3, vi (x3 + 1))] [] (B0, n))))) :
    Rn w mX12_isLog d G Q 4 [(0, vr 145), (1, vi x1), (2, vi x2), (3, vi x3)] [] (B0, n) := by
  refine r_iload_n dX12_isLog_4 rfl rfl ?_
  refine r_aload_n dX12_isLog_5 rfl rfl ?_
  refine r_getR (b := 147) dX12_isLog_6 fX12_13 ob_145 (by decide) rfl rfl ?_
  refine r_iconst (x := 2) dX12_isLog_9 rfl (by decide) ?_
  refine r_iald dX12_isLog_10 ob_147 (by decide) (by decide) ?_
  obtain ⟨V1, V2⟩ := V
  refine r_jge (tgt := 76) dX12_isLog_11 (by decide) (fun c21 => ?_) (fun c21 => ?_)
  · have V := V1 c21
    refine r_iload_n dX12_isLog_76 rfl rfl ?_
    obtain ⟨s22, V⟩ := V
    exact r_zret dX12_isLog_77 rfl s22 V
  · have V := V2 c21
    refine r_iload_n dX12_isLog_14 rfl rfl ?_
    obtain ⟨s24, V⟩ := V
    obtain ⟨s25, V⟩ := V
    obtain ⟨s26, V⟩ := V
    obtain ⟨s27, V⟩ := V
    obtain ⟨s28, V⟩ := V
    obtain ⟨s29, V⟩ := V
    obtain ⟨s31, V⟩ := V
    obtain ⟨s32, V⟩ := V
    obtain ⟨s33, V⟩ := V
    obtain ⟨s34, V⟩ := V
    obtain ⟨s35, V⟩ := V
    obtain ⟨s36, V⟩ := V
    obtain ⟨s37, V⟩ := V
    obtain ⟨s38, V⟩ := V
    have K : ∀ z40 : Int, z40 = (if x2 ≠ 0 then 1 else (if n 147 (300 + (2 * x3)) ≠ n 147 x1 then 0 else (if n 147 ((300 + (2 * x3)) + 1) ≠ n 147 (x1 + 2) then 0 else 1))) → Rn w mX12_isLog d G Q 69 [(0, vr 145), (1, vi x1), (3, vi x3)] [vi z40] (B0, n) := by
      intro z40 ez40
      have V := V z40 ez40
      refine r_istore_n (ls' := [(0, vr 145), (1, vi x1), (2, vi z40), (3, vi x3)]) dX12_isLog_69 rfl (by decide) rfl ?_
      obtain ⟨s41, V⟩ := V
      refine r_iinc (y := x3 + 1) (ls' := [(0, vr 145), (1, vi x1), (2, vi z40), (3, vi (x3 + 1))]) dX12_isLog_70 rfl rfl s41 (by decide) rfl ?_
      refine r_goto (tgt := 4) dX12_isLog_73 (by decide) ?_
      exact V
    refine r_zne (tgt := 64) dX12_isLog_15 (by decide) (fun c23 => ?_) (fun c23 => ?_)
    · refine r_iconst (x := 1) dX12_isLog_64 rfl (by decide) ?_
      refine r_goto (tgt := 69) dX12_isLog_65 (by decide) ?_
      refine r_pick [0, 1, 3] (ls' := [(0, vr 145), (1, vi x1), (3, vi x3)]) rfl ?_
      exact K 1 (by first | rfl | (simp only [if_pos c23]))
    · refine r_aload_n dX12_isLog_18 rfl rfl ?_
      refine r_getR (b := 147) dX12_isLog_19 fX12_13 ob_145 (by decide) rfl rfl ?_
      refine r_sipush (x := 300) dX12_isLog_22 (by decide +kernel) (by decide) ?_
      refine r_iconst (x := 2) dX12_isLog_25 rfl (by decide) ?_
      refine r_iload_n dX12_isLog_26 rfl rfl ?_
      refine r_imul dX12_isLog_27 (s24 c23) ?_
      refine r_iadd dX12_isLog_28 (s25 c23) ?_
      refine r_iald dX12_isLog_29 ob_147 (s26 c23) (s27 c23) ?_
      refine r_aload_n dX12_isLog_30 rfl rfl ?_
      refine r_getR (b := 147) dX12_isLog_31 fX12_13 ob_145 (by decide) rfl rfl ?_
      refine r_iload_n dX12_isLog_34 rfl rfl ?_
      refine r_iald dX12_isLog_35 ob_147 (s28 c23) (s29 c23) ?_
      refine r_jne (tgt := 68) dX12_isLog_36 (by decide) (fun c30 => ?_) (fun c30 => ?_)
      · refine r_iconst (x := 0) dX12_isLog_68 rfl (by decide) ?_
        refine r_pick [0, 1, 3] (ls' := [(0, vr 145), (1, vi x1), (3, vi x3)]) rfl ?_
        exact K 0 (by first | rfl | (simp only [if_neg (show ¬ (x2 ≠ 0) from not_not_intro c23), if_pos c30]))
      · refine r_aload_n dX12_isLog_39 rfl rfl ?_
        refine r_getR (b := 147) dX12_isLog_40 fX12_13 ob_145 (by decide) rfl rfl ?_
        refine r_sipush (x := 300) dX12_isLog_43 (by decide +kernel) (by decide) ?_
        refine r_iconst (x := 2) dX12_isLog_46 rfl (by decide) ?_
        refine r_iload_n dX12_isLog_47 rfl rfl ?_
        refine r_imul dX12_isLog_48 (s31 c23 c30) ?_
        refine r_iadd dX12_isLog_49 (s32 c23 c30) ?_
        refine r_iconst (x := 1) dX12_isLog_50 rfl (by decide) ?_
        refine r_iadd dX12_isLog_51 (s33 c23 c30) ?_
        refine r_iald dX12_isLog_52 ob_147 (s34 c23 c30) (s35 c23 c30) ?_
        refine r_aload_n dX12_isLog_53 rfl rfl ?_
        refine r_getR (b := 147) dX12_isLog_54 fX12_13 ob_145 (by decide) rfl rfl ?_
        refine r_iload_n dX12_isLog_57 rfl rfl ?_
        refine r_iconst (x := 2) dX12_isLog_58 rfl (by decide) ?_
        refine r_iadd dX12_isLog_59 (s36 c23 c30) ?_
        refine r_iald dX12_isLog_60 ob_147 (s37 c23 c30) (s38 c23 c30) ?_
        refine r_jne (tgt := 68) dX12_isLog_61 (by decide) (fun c39 => ?_) (fun c39 => ?_)
        · refine r_iconst (x := 0) dX12_isLog_68 rfl (by decide) ?_
          refine r_pick [0, 1, 3] (ls' := [(0, vr 145), (1, vi x1), (3, vi x3)]) rfl ?_
          exact K 0 (by first | rfl | (simp only [if_neg (show ¬ (x2 ≠ 0) from not_not_intro c23), if_neg (show ¬ (n 147 (300 + (2 * x3)) ≠ n 147 x1) from not_not_intro c30), if_pos c39]))
        · refine r_iconst (x := 1) dX12_isLog_64 rfl (by decide) ?_
          refine r_goto (tgt := 69) dX12_isLog_65 (by decide) ?_
          refine r_pick [0, 1, 3] (ls' := [(0, vr 145), (1, vi x1), (3, vi x3)]) rfl ?_
          exact K 1 (by first | rfl | (simp only [if_neg (show ¬ (x2 ≠ 0) from not_not_intro c23), if_neg (show ¬ (n 147 (300 + (2 * x3)) ≠ n 147 x1) from not_not_intro c30), if_neg (show ¬ (n 147 ((300 + (2 * x3)) + 1) ≠ n 147 (x1 + 2)) from not_not_intro c39)]))

theorem gX12_isThere_0 {w : WD} {d : Nat} {G : GM} {Q : Option AV → Hp → Prop} {n : NM} {x1 x2 : Int}
    (V :
    (x2 = 0 →
      (Ev w d 0 0 mX12_goneOf [vr 145, vi x1] (B0, n) (fun r h' => ∃ (x22 : Int) (n21 : NM), r = some (vi x22) ∧ h' = (B0, n21) ∧ 
        (Ev w d 0 0 mX12_in [vl x22, vl 1, vl 60] (B0, n21) (fun r h' => ∃ (x24 : Int) (n23 : NM), r = some (vi x24) ∧ h' = (B0, n23) ∧ 
          (x24 = 0 ∨ x24 = 1) ∧
          Q (some (vi x24)) (B0, n23)))))) ∧
    (x2 = 1 →
      (Ev w d 0 0 mX12_isBeast [vr 145, vi x1] (B0, n) (fun r h' => ∃ (x27 : Int) (n26 : NM), r = some (vi x27) ∧ h' = (B0, n26) ∧ 
        (x27 = 0 ∨ x27 = 1) ∧
        Q (some (vi x27)) (B0, n26)))) ∧
    (x2 = 2 →
      (Ev w d 0 0 mX12_isLog [vr 145, vi x1] (B0, n) (fun r h' => ∃ (x30 : Int) (n29 : NM), r = some (vi x30) ∧ h' = (B0, n29) ∧ 
        (x30 = 0 ∨ x30 = 1) ∧
        Q (some (vi x30)) (B0, n29)))) ∧
    (x2 = 3 →
      (0 ≤ x1) ∧
      (x1 < 1800) ∧
      (inI (3 * (n 147 x1))) ∧
      (inI (20 + (3 * (n 147 x1)))) ∧
      (inI ((20 + (3 * (n 147 x1))) + 1)) ∧
      (0 ≤ (20 + (3 * (n 147 x1))) + 1) ∧
      ((20 + (3 * (n 147 x1))) + 1 < 1800) ∧
      ((n 147 ((20 + (3 * (n 147 x1))) + 1) ≤ 0 →
        Q (some (vi 0)) (B0, n)) ∧
      (0 < n 147 ((20 + (3 * (n 147 x1))) + 1) →
        Q (some (vi 1)) (B0, n)))) ∧
    (¬ x2 = 0 → ¬ x2 = 1 → ¬ x2 = 2 → ¬ x2 = 3 →
      Q (some (vi 1)) (B0, n))) :
    Rn w mX12_isThere (d + 1) G Q 0 [(0, vr 145), (1, vi x1), (2, vi x2)] [] (B0, n) := by
  refine r_iload_n dX12_isThere_0 rfl rfl ?_
  obtain ⟨V0, V1, V2, V3, VD⟩ := V
  by_cases c0 : x2 = 0
  · have V := V0 c0
    refine r_tableIn (k := 0) (tgt := 32) dX12_isThere_1 c0 (by decide) (by decide) rfl (by decide) ?_
    refine r_aload_n dX12_isThere_32 rfl rfl ?_
    refine r_iload_n dX12_isThere_33 rfl rfl ?_
    refine r_callV (args := [vi x1]) dX12_isThere_34 kX12_331 ob_145 ⟨_, _, rfl⟩ (by decide) rfl rfl (Nat.le_of_ble_eq_true rfl) cap0 (Ev.mono V ?_)
    rintro r h' ⟨x22, n21, rfl, rfl, V⟩
    show Rn w mX12_isThere (d + 1) G Q 37 [(0, vr 145), (1, vi x1), (2, vi x2)] [vi x22] (B0, n21)
    refine r_i2l dX12_isThere_37 ?_
    refine r_lconst (x := 1) dX12_isThere_38 rfl (by decide) ?_
    refine r_ldc2 (x := 60) dX12_isThere_39 qX12_334 (by decide) ?_
    refine r_callS (args := [vl x22, vl 1, vl 60]) dX12_isThere_42 kX12_82 rfl rfl (Nat.le_of_ble_eq_true rfl) cap0 (Ev.mono V ?_)
    rintro r h' ⟨x24, n23, rfl, rfl, V⟩
    show Rn w mX12_isThere (d + 1) G Q 45 [(0, vr 145), (1, vi x1), (2, vi x2)] [vi x24] (B0, n23)
    obtain ⟨s25, V⟩ := V
    exact r_zret dX12_isThere_45 rfl s25 V
  by_cases c1 : x2 = 1
  · have V := V1 c1
    refine r_tableIn (k := 1) (tgt := 46) dX12_isThere_1 c1 (by decide) (by decide) rfl (by decide) ?_
    refine r_aload_n dX12_isThere_46 rfl rfl ?_
    refine r_iload_n dX12_isThere_47 rfl rfl ?_
    refine r_callV (args := [vi x1]) dX12_isThere_48 kX12_336 ob_145 ⟨_, _, rfl⟩ (by decide) rfl rfl (Nat.le_of_ble_eq_true rfl) cap0 (Ev.mono V ?_)
    rintro r h' ⟨x27, n26, rfl, rfl, V⟩
    show Rn w mX12_isThere (d + 1) G Q 51 [(0, vr 145), (1, vi x1), (2, vi x2)] [vi x27] (B0, n26)
    obtain ⟨s28, V⟩ := V
    exact r_zret dX12_isThere_51 rfl s28 V
  by_cases c2 : x2 = 2
  · have V := V2 c2
    refine r_tableIn (k := 2) (tgt := 52) dX12_isThere_1 c2 (by decide) (by decide) rfl (by decide) ?_
    refine r_aload_n dX12_isThere_52 rfl rfl ?_
    refine r_iload_n dX12_isThere_53 rfl rfl ?_
    refine r_callV (args := [vi x1]) dX12_isThere_54 kX12_339 ob_145 ⟨_, _, rfl⟩ (by decide) rfl rfl (Nat.le_of_ble_eq_true rfl) cap0 (Ev.mono V ?_)
    rintro r h' ⟨x30, n29, rfl, rfl, V⟩
    show Rn w mX12_isThere (d + 1) G Q 57 [(0, vr 145), (1, vi x1), (2, vi x2)] [vi x30] (B0, n29)
    obtain ⟨s31, V⟩ := V
    exact r_zret dX12_isThere_57 rfl s31 V
  by_cases c3 : x2 = 3
  · have V := V3 c3
    refine r_tableIn (k := 3) (tgt := 58) dX12_isThere_1 c3 (by decide) (by decide) rfl (by decide) ?_
    refine r_aload_n dX12_isThere_58 rfl rfl ?_
    refine r_getR (b := 147) dX12_isThere_59 fX12_13 ob_145 (by decide) rfl rfl ?_
    refine r_bipush (x := 20) dX12_isThere_62 (by decide +kernel) (by decide) ?_
    refine r_iconst (x := 3) dX12_isThere_64 rfl (by decide) ?_
    refine r_aload_n dX12_isThere_65 rfl rfl ?_
    refine r_getR (b := 147) dX12_isThere_66 fX12_13 ob_145 (by decide) rfl rfl ?_
    refine r_iload_n dX12_isThere_69 rfl rfl ?_
    obtain ⟨s32, V⟩ := V
    obtain ⟨s33, V⟩ := V
    refine r_iald dX12_isThere_70 ob_147 s32 s33 ?_
    obtain ⟨s34, V⟩ := V
    refine r_imul dX12_isThere_71 s34 ?_
    obtain ⟨s35, V⟩ := V
    refine r_iadd dX12_isThere_72 s35 ?_
    refine r_iconst (x := 1) dX12_isThere_73 rfl (by decide) ?_
    obtain ⟨s36, V⟩ := V
    refine r_iadd dX12_isThere_74 s36 ?_
    obtain ⟨s37, V⟩ := V
    obtain ⟨s38, V⟩ := V
    refine r_iald dX12_isThere_75 ob_147 s37 s38 ?_
    obtain ⟨V1, V2⟩ := V
    refine r_zle (tgt := 83) dX12_isThere_76 (by decide) (fun c39 => ?_) (fun c39 => ?_)
    · have V := V1 c39
      refine r_iconst (x := 0) dX12_isThere_83 rfl (by decide) ?_
      exact r_zret dX12_isThere_84 rfl (by decide) V
    · have V := V2 c39
      refine r_iconst (x := 1) dX12_isThere_79 rfl (by decide) ?_
      refine r_goto (tgt := 84) dX12_isThere_80 (by decide) ?_
      exact r_zret dX12_isThere_84 rfl (by decide) V
  have V := VD c0 c1 c2 c3
  refine r_tableOut (tgt := 85) dX12_isThere_1 (by omega) (by decide) ?_
  refine r_iconst (x := 1) dX12_isThere_85 rfl (by decide) ?_
  exact r_zret dX12_isThere_86 rfl (by decide) V

theorem gX12_ask_0 {w : WD} {d : Nat} {G : GM} {Q : Option AV → Hp → Prop} {n : NM} {x1 : Int}
    (V :
    (inI (x1 + 4)) ∧
    (0 ≤ x1 + 4) ∧
    (x1 + 4 < 1800) ∧
    (inI (x1 + 5)) ∧
    (0 ≤ x1 + 5) ∧
    (x1 + 5 < 1800) ∧
    (0 ≤ x1) ∧
    (x1 < 1800) ∧
    (inI (3 * (n 147 x1))) ∧
    (inI (20 + (3 * (n 147 x1)))) ∧
    (0 ≤ 20 + (3 * (n 147 x1))) ∧
    (20 + (3 * (n 147 x1)) < 1800) ∧
    (0 ≤ x1) ∧
    (x1 < 1800) ∧
    (inI (3 * (n 147 x1))) ∧
    (inI (20 + (3 * (n 147 x1)))) ∧
    (inI ((20 + (3 * (n 147 x1))) + 1)) ∧
    (0 ≤ (20 + (3 * (n 147 x1))) + 1) ∧
    ((20 + (3 * (n 147 x1))) + 1 < 1800) ∧
    (0 ≤ x1) ∧
    (x1 < 1800) ∧
    (inI (3 * (n 147 x1))) ∧
    (inI (20 + (3 * (n 147 x1)))) ∧
    (inI ((20 + (3 * (n 147 x1))) + 2)) ∧
    (0 ≤ (20 + (3 * (n 147 x1))) + 2) ∧
    ((20 + (3 * (n 147 x1))) + 2 < 1800) ∧
    (Ev w d 0 0 mX12_goneOf [vr 145, vi x1] (B0, upn (upn (upn (upn (upn n 156 1 (n 147 (x1 + 4))) 156 2 (n 147 (x1 + 5))) 156 3 (n 147 (20 + (3 * (n 147 x1))))) 156 4 (n 147 ((20 + (3 * (n 147 x1))) + 1))) 156 5 (n 147 ((20 + (3 * (n 147 x1))) + 2))) (fun r h' => ∃ (x48 : Int) (n47 : NM), r = some (vi x48) ∧ h' = (B0, n47) ∧ 
      (inI (x1 + 2)) ∧
      (0 ≤ x1 + 2) ∧
      (x1 + 2 < 1800) ∧
      (inI (x1 + 1)) ∧
      (0 ≤ x1 + 1) ∧
      (x1 + 1 < 1800) ∧
      (inI (x1 + 6)) ∧
      (0 ≤ x1 + 6) ∧
      (x1 + 6 < 1800) ∧
      (0 ≤ x1) ∧
      (x1 < 1800) ∧
      (inI ((n47 147 (x1 + 6)) - (n47 147 x1))) ∧
      Q none (B0, upn (upn (upn (upn n47 156 6 x48) 156 7 (n47 147 (x1 + 2))) 156 8 (n47 147 (x1 + 1))) 156 9 ((n47 147 (x1 + 6)) - (n47 147 x1)))))) :
    Rn w mX12_ask (d + 1) G Q 0 [(0, vr 145), (1, vi x1)] [] (B0, n) := by
  refine r_aload_n dX12_ask_0 rfl rfl ?_
  refine r_getR (b := 156) dX12_ask_1 fX12_45 ob_145 (by decide) rfl rfl ?_
  refine r_iconst (x := 1) dX12_ask_4 rfl (by decide) ?_
  refine r_aload_n dX12_ask_5 rfl rfl ?_
  refine r_getR (b := 147) dX12_ask_6 fX12_13 ob_145 (by decide) rfl rfl ?_
  refine r_iload_n dX12_ask_9 rfl rfl ?_
  refine r_iconst (x := 4) dX12_ask_10 rfl (by decide) ?_
  obtain ⟨s21, V⟩ := V
  refine r_iadd dX12_ask_11 s21 ?_
  obtain ⟨s22, V⟩ := V
  obtain ⟨s23, V⟩ := V
  refine r_iald dX12_ask_12 ob_147 s22 s23 ?_
  refine r_i2l dX12_ask_13 ?_
  refine r_last (h' := (B0, upn n 156 1 (n 147 (x1 + 4)))) dX12_ask_14 ob_156 (by decide) (by decide) rfl ?_
  refine r_aload_n dX12_ask_15 rfl rfl ?_
  refine r_getR (b := 156) dX12_ask_16 fX12_45 ob_145 (by decide) rfl rfl ?_
  refine r_iconst (x := 2) dX12_ask_19 rfl (by decide) ?_
  refine r_aload_n dX12_ask_20 rfl rfl ?_
  refine r_getR (b := 147) dX12_ask_21 fX12_13 ob_145 (by decide) rfl rfl ?_
  refine r_iload_n dX12_ask_24 rfl rfl ?_
  refine r_iconst (x := 5) dX12_ask_25 rfl (by decide) ?_
  obtain ⟨s24, V⟩ := V
  refine r_iadd dX12_ask_26 s24 ?_
  obtain ⟨s25, V⟩ := V
  obtain ⟨s26, V⟩ := V
  refine r_iald dX12_ask_27 ob_147 s25 s26 ?_
  show Rn w mX12_ask (d + 1) G Q 28 [(0, vr 145), (1, vi x1)] [vi (n 147 (x1 + 5)), vi 2, vr 156] (B0, upn n 156 1 (n 147 (x1 + 4)))
  refine r_i2l dX12_ask_28 ?_
  refine r_last (h' := (B0, upn (upn n 156 1 (n 147 (x1 + 4))) 156 2 (n 147 (x1 + 5)))) dX12_ask_29 ob_156 (by decide) (by decide) rfl ?_
  refine r_aload_n dX12_ask_30 rfl rfl ?_
  refine r_getR (b := 156) dX12_ask_31 fX12_45 ob_145 (by decide) rfl rfl ?_
  refine r_iconst (x := 3) dX12_ask_34 rfl (by decide) ?_
  refine r_aload_n dX12_ask_35 rfl rfl ?_
  refine r_getR (b := 147) dX12_ask_36 fX12_13 ob_145 (by decide) rfl rfl ?_
  refine r_bipush (x := 20) dX12_ask_39 (by decide +kernel) (by decide) ?_
  refine r_iconst (x := 3) dX12_ask_41 rfl (by decide) ?_
  refine r_aload_n dX12_ask_42 rfl rfl ?_
  refine r_getR (b := 147) dX12_ask_43 fX12_13 ob_145 (by decide) rfl rfl ?_
  refine r_iload_n dX12_ask_46 rfl rfl ?_
  obtain ⟨s27, V⟩ := V
  obtain ⟨s28, V⟩ := V
  refine r_iald dX12_ask_47 ob_147 s27 s28 ?_
  show Rn w mX12_ask (d + 1) G Q 48 [(0, vr 145), (1, vi x1)] [vi (n 147 x1), vi 3, vi 20, vr 147, vi 3, vr 156] (B0, upn (upn n 156 1 (n 147 (x1 + 4))) 156 2 (n 147 (x1 + 5)))
  obtain ⟨s29, V⟩ := V
  refine r_imul dX12_ask_48 s29 ?_
  obtain ⟨s30, V⟩ := V
  refine r_iadd dX12_ask_49 s30 ?_
  obtain ⟨s31, V⟩ := V
  obtain ⟨s32, V⟩ := V
  refine r_iald dX12_ask_50 ob_147 s31 s32 ?_
  show Rn w mX12_ask (d + 1) G Q 51 [(0, vr 145), (1, vi x1)] [vi (n 147 (20 + (3 * (n 147 x1)))), vi 3, vr 156] (B0, upn (upn n 156 1 (n 147 (x1 + 4))) 156 2 (n 147 (x1 + 5)))
  refine r_i2l dX12_ask_51 ?_
  refine r_last (h' := (B0, upn (upn (upn n 156 1 (n 147 (x1 + 4))) 156 2 (n 147 (x1 + 5))) 156 3 (n 147 (20 + (3 * (n 147 x1)))))) dX12_ask_52 ob_156 (by decide) (by decide) rfl ?_
  refine r_aload_n dX12_ask_53 rfl rfl ?_
  refine r_getR (b := 156) dX12_ask_54 fX12_45 ob_145 (by decide) rfl rfl ?_
  refine r_iconst (x := 4) dX12_ask_57 rfl (by decide) ?_
  refine r_aload_n dX12_ask_58 rfl rfl ?_
  refine r_getR (b := 147) dX12_ask_59 fX12_13 ob_145 (by decide) rfl rfl ?_
  refine r_bipush (x := 20) dX12_ask_62 (by decide +kernel) (by decide) ?_
  refine r_iconst (x := 3) dX12_ask_64 rfl (by decide) ?_
  refine r_aload_n dX12_ask_65 rfl rfl ?_
  refine r_getR (b := 147) dX12_ask_66 fX12_13 ob_145 (by decide) rfl rfl ?_
  refine r_iload_n dX12_ask_69 rfl rfl ?_
  obtain ⟨s33, V⟩ := V
  obtain ⟨s34, V⟩ := V
  refine r_iald dX12_ask_70 ob_147 s33 s34 ?_
  show Rn w mX12_ask (d + 1) G Q 71 [(0, vr 145), (1, vi x1)] [vi (n 147 x1), vi 3, vi 20, vr 147, vi 4, vr 156] (B0, upn (upn (upn n 156 1 (n 147 (x1 + 4))) 156 2 (n 147 (x1 + 5))) 156 3 (n 147 (20 + (3 * (n 147 x1)))))
  obtain ⟨s35, V⟩ := V
  refine r_imul dX12_ask_71 s35 ?_
  obtain ⟨s36, V⟩ := V
  refine r_iadd dX12_ask_72 s36 ?_
  refine r_iconst (x := 1) dX12_ask_73 rfl (by decide) ?_
  obtain ⟨s37, V⟩ := V
  refine r_iadd dX12_ask_74 s37 ?_
  obtain ⟨s38, V⟩ := V
  obtain ⟨s39, V⟩ := V
  refine r_iald dX12_ask_75 ob_147 s38 s39 ?_
  show Rn w mX12_ask (d + 1) G Q 76 [(0, vr 145), (1, vi x1)] [vi (n 147 ((20 + (3 * (n 147 x1))) + 1)), vi 4, vr 156] (B0, upn (upn (upn n 156 1 (n 147 (x1 + 4))) 156 2 (n 147 (x1 + 5))) 156 3 (n 147 (20 + (3 * (n 147 x1)))))
  refine r_i2l dX12_ask_76 ?_
  refine r_last (h' := (B0, upn (upn (upn (upn n 156 1 (n 147 (x1 + 4))) 156 2 (n 147 (x1 + 5))) 156 3 (n 147 (20 + (3 * (n 147 x1))))) 156 4 (n 147 ((20 + (3 * (n 147 x1))) + 1)))) dX12_ask_77 ob_156 (by decide) (by decide) rfl ?_
  refine r_aload_n dX12_ask_78 rfl rfl ?_
  refine r_getR (b := 156) dX12_ask_79 fX12_45 ob_145 (by decide) rfl rfl ?_
  refine r_iconst (x := 5) dX12_ask_82 rfl (by decide) ?_
  refine r_aload_n dX12_ask_83 rfl rfl ?_
  refine r_getR (b := 147) dX12_ask_84 fX12_13 ob_145 (by decide) rfl rfl ?_
  refine r_bipush (x := 20) dX12_ask_87 (by decide +kernel) (by decide) ?_
  refine r_iconst (x := 3) dX12_ask_89 rfl (by decide) ?_
  refine r_aload_n dX12_ask_90 rfl rfl ?_
  refine r_getR (b := 147) dX12_ask_91 fX12_13 ob_145 (by decide) rfl rfl ?_
  refine r_iload_n dX12_ask_94 rfl rfl ?_
  obtain ⟨s40, V⟩ := V
  obtain ⟨s41, V⟩ := V
  refine r_iald dX12_ask_95 ob_147 s40 s41 ?_
  show Rn w mX12_ask (d + 1) G Q 96 [(0, vr 145), (1, vi x1)] [vi (n 147 x1), vi 3, vi 20, vr 147, vi 5, vr 156] (B0, upn (upn (upn (upn n 156 1 (n 147 (x1 + 4))) 156 2 (n 147 (x1 + 5))) 156 3 (n 147 (20 + (3 * (n 147 x1))))) 156 4 (n 147 ((20 + (3 * (n 147 x1))) + 1)))
  obtain ⟨s42, V⟩ := V
  refine r_imul dX12_ask_96 s42 ?_
  obtain ⟨s43, V⟩ := V
  refine r_iadd dX12_ask_97 s43 ?_
  refine r_iconst (x := 2) dX12_ask_98 rfl (by decide) ?_
  obtain ⟨s44, V⟩ := V
  refine r_iadd dX12_ask_99 s44 ?_
  obtain ⟨s45, V⟩ := V
  obtain ⟨s46, V⟩ := V
  refine r_iald dX12_ask_100 ob_147 s45 s46 ?_
  show Rn w mX12_ask (d + 1) G Q 101 [(0, vr 145), (1, vi x1)] [vi (n 147 ((20 + (3 * (n 147 x1))) + 2)), vi 5, vr 156] (B0, upn (upn (upn (upn n 156 1 (n 147 (x1 + 4))) 156 2 (n 147 (x1 + 5))) 156 3 (n 147 (20 + (3 * (n 147 x1))))) 156 4 (n 147 ((20 + (3 * (n 147 x1))) + 1)))
  refine r_i2l dX12_ask_101 ?_
  refine r_last (h' := (B0, upn (upn (upn (upn (upn n 156 1 (n 147 (x1 + 4))) 156 2 (n 147 (x1 + 5))) 156 3 (n 147 (20 + (3 * (n 147 x1))))) 156 4 (n 147 ((20 + (3 * (n 147 x1))) + 1))) 156 5 (n 147 ((20 + (3 * (n 147 x1))) + 2)))) dX12_ask_102 ob_156 (by decide) (by decide) rfl ?_
  refine r_aload_n dX12_ask_103 rfl rfl ?_
  refine r_getR (b := 156) dX12_ask_104 fX12_45 ob_145 (by decide) rfl rfl ?_
  refine r_bipush (x := 6) dX12_ask_107 (by decide +kernel) (by decide) ?_
  refine r_aload_n dX12_ask_109 rfl rfl ?_
  refine r_iload_n dX12_ask_110 rfl rfl ?_
  refine r_callV (args := [vi x1]) dX12_ask_111 kX12_331 ob_145 ⟨_, _, rfl⟩ (by decide) rfl rfl (Nat.le_of_ble_eq_true rfl) cap0 (Ev.mono V ?_)
  rintro r h' ⟨x48, n47, rfl, rfl, V⟩
  show Rn w mX12_ask (d + 1) G Q 114 [(0, vr 145), (1, vi x1)] [vi x48, vi 6, vr 156] (B0, n47)
  refine r_i2l dX12_ask_114 ?_
  refine r_last (h' := (B0, upn n47 156 6 x48)) dX12_ask_115 ob_156 (by decide) (by decide) rfl ?_
  refine r_aload_n dX12_ask_116 rfl rfl ?_
  refine r_getR (b := 156) dX12_ask_117 fX12_45 ob_145 (by decide) rfl rfl ?_
  refine r_bipush (x := 7) dX12_ask_120 (by decide +kernel) (by decide) ?_
  refine r_aload_n dX12_ask_122 rfl rfl ?_
  refine r_getR (b := 147) dX12_ask_123 fX12_13 ob_145 (by decide) rfl rfl ?_
  refine r_iload_n dX12_ask_126 rfl rfl ?_
  refine r_iconst (x := 2) dX12_ask_127 rfl (by decide) ?_
  obtain ⟨s49, V⟩ := V
  refine r_iadd dX12_ask_128 s49 ?_
  obtain ⟨s50, V⟩ := V
  obtain ⟨s51, V⟩ := V
  refine r_iald dX12_ask_129 ob_147 s50 s51 ?_
  show Rn w mX12_ask (d + 1) G Q 130 [(0, vr 145), (1, vi x1)] [vi (n47 147 (x1 + 2)), vi 7, vr 156] (B0, upn n47 156 6 x48)
  refine r_i2l dX12_ask_130 ?_
  refine r_last (h' := (B0, upn (upn n47 156 6 x48) 156 7 (n47 147 (x1 + 2)))) dX12_ask_131 ob_156 (by decide) (by decide) rfl ?_
  refine r_aload_n dX12_ask_132 rfl rfl ?_
  refine r_getR (b := 156) dX12_ask_133 fX12_45 ob_145 (by decide) rfl rfl ?_
  refine r_bipush (x := 8) dX12_ask_136 (by decide +kernel) (by decide) ?_
  refine r_aload_n dX12_ask_138 rfl rfl ?_
  refine r_getR (b := 147) dX12_ask_139 fX12_13 ob_145 (by decide) rfl rfl ?_
  refine r_iload_n dX12_ask_142 rfl rfl ?_
  refine r_iconst (x := 1) dX12_ask_143 rfl (by decide) ?_
  obtain ⟨s52, V⟩ := V
  refine r_iadd dX12_ask_144 s52 ?_
  obtain ⟨s53, V⟩ := V
  obtain ⟨s54, V⟩ := V
  refine r_iald dX12_ask_145 ob_147 s53 s54 ?_
  show Rn w mX12_ask (d + 1) G Q 146 [(0, vr 145), (1, vi x1)] [vi (n47 147 (x1 + 1)), vi 8, vr 156] (B0, upn (upn n47 156 6 x48) 156 7 (n47 147 (x1 + 2)))
  refine r_i2l dX12_ask_146 ?_
  refine r_last (h' := (B0, upn (upn (upn n47 156 6 x48) 156 7 (n47 147 (x1 + 2))) 156 8 (n47 147 (x1 + 1)))) dX12_ask_147 ob_156 (by decide) (by decide) rfl ?_
  refine r_aload_n dX12_ask_148 rfl rfl ?_
  refine r_getR (b := 156) dX12_ask_149 fX12_45 ob_145 (by decide) rfl rfl ?_
  refine r_bipush (x := 9) dX12_ask_152 (by decide +kernel) (by decide) ?_
  refine r_aload_n dX12_ask_154 rfl rfl ?_
  refine r_getR (b := 147) dX12_ask_155 fX12_13 ob_145 (by decide) rfl rfl ?_
  refine r_iload_n dX12_ask_158 rfl rfl ?_
  refine r_bipush (x := 6) dX12_ask_159 (by decide +kernel) (by decide) ?_
  obtain ⟨s55, V⟩ := V
  refine r_iadd dX12_ask_161 s55 ?_
  obtain ⟨s56, V⟩ := V
  obtain ⟨s57, V⟩ := V
  refine r_iald dX12_ask_162 ob_147 s56 s57 ?_
  show Rn w mX12_ask (d + 1) G Q 163 [(0, vr 145), (1, vi x1)] [vi (n47 147 (x1 + 6)), vi 9, vr 156] (B0, upn (upn (upn n47 156 6 x48) 156 7 (n47 147 (x1 + 2))) 156 8 (n47 147 (x1 + 1)))
  refine r_aload_n dX12_ask_163 rfl rfl ?_
  refine r_getR (b := 147) dX12_ask_164 fX12_13 ob_145 (by decide) rfl rfl ?_
  refine r_iload_n dX12_ask_167 rfl rfl ?_
  obtain ⟨s58, V⟩ := V
  obtain ⟨s59, V⟩ := V
  refine r_iald dX12_ask_168 ob_147 s58 s59 ?_
  show Rn w mX12_ask (d + 1) G Q 169 [(0, vr 145), (1, vi x1)] [vi (n47 147 x1), vi (n47 147 (x1 + 6)), vi 9, vr 156] (B0, upn (upn (upn n47 156 6 x48) 156 7 (n47 147 (x1 + 2))) 156 8 (n47 147 (x1 + 1)))
  obtain ⟨s60, V⟩ := V
  refine r_isub dX12_ask_169 s60 ?_
  refine r_i2l dX12_ask_170 ?_
  refine r_last (h' := (B0, upn (upn (upn (upn n47 156 6 x48) 156 7 (n47 147 (x1 + 2))) 156 8 (n47 147 (x1 + 1))) 156 9 ((n47 147 (x1 + 6)) - (n47 147 x1)))) dX12_ask_171 ob_156 (by decide) (by decide) rfl ?_
  exact r_ret dX12_ask_172 rfl V

theorem gX12_weightOf_0 {w : WD} {d : Nat} {G : GM} {Q : Option AV → Hp → Prop} {n : NM} {x1 x2 : Int}
    (V :
    (Ev w d 0 0 mX12_isThere [vr 145, vi x1, vi x2] (B0, n) (fun r h' => ∃ (x22 : Int) (n21 : NM), r = some (vi x22) ∧ h' = (B0, n21) ∧ 
      ((x22 ≠ 0 →
        (Ev w d 0 0 mX12_ask [vr 145, vi x1] (B0, n21) (fun r h' => ∃ n24 : NM, r = none ∧ h' = (B0, n24) ∧ 
          (Ev w d 0 0 mX12_find [vr 145, vi x2, vi 0, vi 0, vi 1000] (B0, n24) (fun r h' => ∃ (x26 : Int) (n25 : NM), r = some (vi x26) ∧ h' = (B0, n25) ∧ 
            Q (some (vi x26)) (B0, n25)))))) ∧
      (x22 = 0 →
        Q (some (vi 0)) (B0, n21)))))) :
    Rn w mX12_weightOf (d + 1) G Q 0 [(0, vr 145), (1, vi x1), (2, vi x2)] [] (B0, n) := by
  refine r_aload_n dX12_weightOf_0 rfl rfl ?_
  refine r_iload_n dX12_weightOf_1 rfl rfl ?_
  refine r_iload_n dX12_weightOf_2 rfl rfl ?_
  refine r_callV (args := [vi x1, vi x2]) dX12_weightOf_3 kX12_342 ob_145 ⟨_, _, rfl⟩ (by decide) rfl rfl (Nat.le_of_ble_eq_true rfl) cap0 (Ev.mono V ?_)
  rintro r h' ⟨x22, n21, rfl, rfl, V⟩
  show Rn w mX12_weightOf (d + 1) G Q 6 [(0, vr 145), (1, vi x1), (2, vi x2)] [vi x22] (B0, n21)
  obtain ⟨V1, V2⟩ := V
  refine r_zne (tgt := 11) dX12_weightOf_6 (by decide) (fun c23 => ?_) (fun c23 => ?_)
  · have V := V1 c23
    refine r_aload_n dX12_weightOf_11 rfl rfl ?_
    refine r_iload_n dX12_weightOf_12 rfl rfl ?_
    refine r_callV (args := [vi x1]) dX12_weightOf_13 kX12_345 ob_145 ⟨_, _, rfl⟩ (by decide) rfl rfl (Nat.le_of_ble_eq_true rfl) cap0 (Ev.mono V ?_)
    rintro r h' ⟨n24, rfl, rfl, V⟩
    show Rn w mX12_weightOf (d + 1) G Q 16 [(0, vr 145), (1, vi x1), (2, vi x2)] [] (B0, n24)
    refine r_aload_n dX12_weightOf_16 rfl rfl ?_
    refine r_iload_n dX12_weightOf_17 rfl rfl ?_
    refine r_iconst (x := 0) dX12_weightOf_18 rfl (by decide) ?_
    refine r_iconst (x := 0) dX12_weightOf_19 rfl (by decide) ?_
    refine r_sipush (x := 1000) dX12_weightOf_20 (by decide +kernel) (by decide) ?_
    refine r_callV (args := [vi x2, vi 0, vi 0, vi 1000]) dX12_weightOf_23 kX12_348 ob_145 ⟨_, _, rfl⟩ (by decide) rfl rfl (Nat.le_of_ble_eq_true rfl) cap0 (Ev.mono V ?_)
    rintro r h' ⟨x26, n25, rfl, rfl, V⟩
    show Rn w mX12_weightOf (d + 1) G Q 26 [(0, vr 145), (1, vi x1), (2, vi x2)] [vi x26] (B0, n25)
    exact r_iret dX12_weightOf_26 rfl V
  · have V := V2 c23
    refine r_iconst (x := 0) dX12_weightOf_9 rfl (by decide) ?_
    exact r_iret dX12_weightOf_10 rfl V

theorem gX12_weights_0 {w : WD} {d : Nat} {G : GM} {Q : Option AV → Hp → Prop} {n : NM} {x1 : Int}
    (V :
    Rn w mX12_weights d G Q 4 [(0, vr 145), (1, vi x1), (2, vi 0), (3, vi 0)] [] (B0, n)) :
    Rn w mX12_weights d G Q 0 [(0, vr 145), (1, vi x1)] [] (B0, n) := by
  refine r_iconst (x := 0) dX12_weights_0 rfl (by decide) ?_
  refine r_istore_n (ls' := [(0, vr 145), (1, vi x1), (2, vi 0)]) dX12_weights_1 rfl (by decide) rfl ?_
  refine r_iconst (x := 0) dX12_weights_2 rfl (by decide) ?_
  refine r_istore_n (ls' := [(0, vr 145), (1, vi x1), (2, vi 0), (3, vi 0)]) dX12_weights_3 rfl (by decide) rfl ?_
  exact V

theorem gX12_weights_4 {w : WD} {d : Nat} {G : GM} {Q : Option AV → Hp → Prop} {n : NM} {x1 x2 x3 : Int}
    (V :
    ((5 ≤ x3 →
      Q (some (vi x2)) (B0, n)) ∧
    (x3 < 5 →
      (Ev w d 0 0 mX12_weightOf [vr 145, vi x1, vi x3] (B0, n) (fun r h' => ∃ (x23 : Int) (n22 : NM), r = some (vi x23) ∧ h' = (B0, n22) ∧ 
        (inI (x2 + x23)) ∧
        (inI (x3 + 1)) ∧
        Rn w mX12_weights (d + 1) G Q 4 [(0, vr 145), (1, vi x1), (2, vi (x2 + x23)), (3, vi (x3 + 1))] [] (B0, n22)))))) :
    Rn w mX12_weights (d + 1) G Q 4 [(0, vr 145), (1, vi x1), (2, vi x2), (3, vi x3)] [] (B0, n) := by
  refine r_iload_n dX12_weights_4 rfl rfl ?_
  refine r_iconst (x := 5) dX12_weights_5 rfl (by decide) ?_
  obtain ⟨V1, V2⟩ := V
  refine r_jge (tgt := 24) dX12_weights_6 (by decide) (fun c21 => ?_) (fun c21 => ?_)
  · have V := V1 c21
    refine r_iload_n dX12_weights_24 rfl rfl ?_
    exact r_iret dX12_weights_25 rfl V
  · have V := V2 c21
    refine r_iload_n dX12_weights_9 rfl rfl ?_
    refine r_aload_n dX12_weights_10 rfl rfl ?_
    refine r_iload_n dX12_weights_11 rfl rfl ?_
    refine r_iload_n dX12_weights_12 rfl rfl ?_
    refine r_callV (args := [vi x1, vi x3]) dX12_weights_13 kX12_352 ob_145 ⟨_, _, rfl⟩ (by decide) rfl rfl (Nat.le_of_ble_eq_true rfl) cap0 (Ev.mono V ?_)
    rintro r h' ⟨x23, n22, rfl, rfl, V⟩
    show Rn w mX12_weights (d + 1) G Q 16 [(0, vr 145), (1, vi x1), (2, vi x2), (3, vi x3)] [vi x23, vi x2] (B0, n22)
    obtain ⟨s24, V⟩ := V
    refine r_iadd dX12_weights_16 s24 ?_
    refine r_istore_n (ls' := [(0, vr 145), (1, vi x1), (2, vi (x2 + x23)), (3, vi x3)]) dX12_weights_17 rfl (by decide) rfl ?_
    obtain ⟨s25, V⟩ := V
    refine r_iinc (y := x3 + 1) (ls' := [(0, vr 145), (1, vi x1), (2, vi (x2 + x23)), (3, vi (x3 + 1))]) dX12_weights_18 rfl rfl s25 (by decide) rfl ?_
    refine r_goto (tgt := 4) dX12_weights_21 (by decide) ?_
    exact V

theorem gX12_growOf_0 {w : WD} {d : Nat} {G : GM} {Q : Option AV → Hp → Prop} {n : NM} {x1 : Int}
    (V :
    (Ev w d 0 0 mX12_ask [vr 145, vi x1] (B0, n) (fun r h' => ∃ n21 : NM, r = none ∧ h' = (B0, n21) ∧ 
      (Ev w d 0 0 mX12_find [vr 145, vi 5, vi 100, vi 1, vi 1000] (B0, n21) (fun r h' => ∃ (x23 : Int) (n22 : NM), r = some (vi x23) ∧ h' = (B0, n22) ∧ 
        Q (some (vi x23)) (B0, n22)))))) :
    Rn w mX12_growOf (d + 1) G Q 0 [(0, vr 145), (1, vi x1)] [] (B0, n) := by
  refine r_aload_n dX12_growOf_0 rfl rfl ?_
  refine r_iload_n dX12_growOf_1 rfl rfl ?_
  refine r_callV (args := [vi x1]) dX12_growOf_2 kX12_345 ob_145 ⟨_, _, rfl⟩ (by decide) rfl rfl (Nat.le_of_ble_eq_true rfl) cap0 (Ev.mono V ?_)
  rintro r h' ⟨n21, rfl, rfl, V⟩
  show Rn w mX12_growOf (d + 1) G Q 5 [(0, vr 145), (1, vi x1)] [] (B0, n21)
  refine r_aload_n dX12_growOf_5 rfl rfl ?_
  refine r_iconst (x := 5) dX12_growOf_6 rfl (by decide) ?_
  refine r_bipush (x := 100) dX12_growOf_7 (by decide +kernel) (by decide) ?_
  refine r_iconst (x := 1) dX12_growOf_9 rfl (by decide) ?_
  refine r_sipush (x := 1000) dX12_growOf_10 (by decide +kernel) (by decide) ?_
  refine r_callV (args := [vi 5, vi 100, vi 1, vi 1000]) dX12_growOf_13 kX12_348 ob_145 ⟨_, _, rfl⟩ (by decide) rfl rfl (Nat.le_of_ble_eq_true rfl) cap0 (Ev.mono V ?_)
  rintro r h' ⟨x23, n22, rfl, rfl, V⟩
  show Rn w mX12_growOf (d + 1) G Q 16 [(0, vr 145), (1, vi x1)] [vi x23] (B0, n22)
  exact r_iret dX12_growOf_16 rfl V

theorem gX12_sightAt_0 {w : WD} {d : Nat} {G : GM} {Q : Option AV → Hp → Prop} {n : NM} {x0 : Int}
    (V :
    (inI (7 * x0)) ∧
    (inI (420 + (7 * x0))) ∧
    Q (some (vi (420 + (7 * x0)))) (B0, n)) :
    Rn w mX12_sightAt d G Q 0 [(0, vi x0)] [] (B0, n) := by
  refine r_sipush (x := 420) dX12_sightAt_0 (by decide +kernel) (by decide) ?_
  refine r_bipush (x := 7) dX12_sightAt_3 (by decide +kernel) (by decide) ?_
  refine r_iload_n dX12_sightAt_5 rfl rfl ?_
  obtain ⟨s21, V⟩ := V
  refine r_imul dX12_sightAt_6 s21 ?_
  obtain ⟨s22, V⟩ := V
  refine r_iadd dX12_sightAt_7 s22 ?_
  exact r_iret dX12_sightAt_8 rfl V

theorem gX12_of_0 {w : WD} {d : Nat} {G : GM} {Q : Option AV → Hp → Prop} {n : NM} {x1 x2 : Int}
    (V :
    (Ev w d 0 0 mX12_is [vr 145, vi 5, vi x1] (B0, upn n 145 0 0) (fun r h' => ∃ (x22 : Int) (n21 : NM), r = some (vi x22) ∧ h' = (B0, n21) ∧ 
      ((x22 = 0 →
        Q (some (vi (-1))) (B0, n21)) ∧
      (x22 ≠ 0 →
        (Ev w d 0 0 mX12_in [vl x2, vl 0, vl 8] (B0, n21) (fun r h' => ∃ (x25 : Int) (n24 : NM), r = some (vi x25) ∧ h' = (B0, n24) ∧ 
          ((x25 ≠ 0 →
            (Ev w d 0 0 mX12_sightAt [vi x1] (B0, n24) (fun r h' => ∃ (x28 : Int) (n27 : NM), r = some (vi x28) ∧ h' = (B0, n27) ∧ 
              ((x2 ≠ 7 →
                ((x2 ≠ 8 →
                  (inI (x28 + x2)) ∧
                  (0 ≤ x28 + x2) ∧
                  (x28 + x2 < 1800) ∧
                  Q (some (vi (n27 147 (x28 + x2)))) (B0, n27)) ∧
                (x2 = 8 →
                  (Ev w d 0 0 mX12_growOf [vr 145, vi x28] (B0, n27) (fun r h' => ∃ (x35 : Int) (n34 : NM), r = some (vi x35) ∧ h' = (B0, n34) ∧ 
                    Q (some (vi x35)) (B0, n34)))))) ∧
              (x2 = 7 →
                (Ev w d 0 0 mX12_goneOf [vr 145, vi x28] (B0, n27) (fun r h' => ∃ (x37 : Int) (n36 : NM), r = some (vi x37) ∧ h' = (B0, n36) ∧ 
                  Q (some (vi x37)) (B0, n36)))))))) ∧
          (x25 = 0 →
            Q (some (vi (-1))) (B0, n24)))))))))) :
    Rn w mX12_of (d + 1) G Q 0 [(0, vr 145), (1, vi x1), (2, vi x2)] [] (B0, n) := by
  refine r_aload_n dX12_of_0 rfl rfl ?_
  refine r_iconst (x := 0) dX12_of_1 rfl (by decide) ?_
  refine r_putI (fi := 0) (h' := (B0, upn n 145 0 0)) dX12_of_2 pX12_76 ob_145 (by decide) rfl rfl rfl ?_
  refine r_aload_n dX12_of_5 rfl rfl ?_
  refine r_iconst (x := 5) dX12_of_6 rfl (by decide) ?_
  refine r_iload_n dX12_of_7 rfl rfl ?_
  refine r_callV (args := [vi 5, vi x1]) dX12_of_8 kX12_122 ob_145 ⟨_, _, rfl⟩ (by decide) rfl rfl (Nat.le_of_ble_eq_true rfl) cap0 (Ev.mono V ?_)
  rintro r h' ⟨x22, n21, rfl, rfl, V⟩
  show Rn w mX12_of (d + 1) G Q 11 [(0, vr 145), (1, vi x1), (2, vi x2)] [vi x22] (B0, n21)
  obtain ⟨V1, V2⟩ := V
  refine r_zeq (tgt := 26) dX12_of_11 (by decide) (fun c23 => ?_) (fun c23 => ?_)
  · have V := V1 c23
    refine r_iconst (x := -1) dX12_of_26 rfl (by decide) ?_
    exact r_iret dX12_of_27 rfl V
  · have V := V2 c23
    refine r_iload_n dX12_of_14 rfl rfl ?_
    refine r_i2l dX12_of_15 ?_
    refine r_lconst (x := 0) dX12_of_16 rfl (by decide) ?_
    refine r_ldc2 (x := 8) dX12_of_17 qX12_356 (by decide) ?_
    refine r_callS (args := [vl x2, vl 0, vl 8]) dX12_of_20 kX12_82 rfl rfl (Nat.le_of_ble_eq_true rfl) cap0 (Ev.mono V ?_)
    rintro r h' ⟨x25, n24, rfl, rfl, V⟩
    show Rn w mX12_of (d + 1) G Q 23 [(0, vr 145), (1, vi x1), (2, vi x2)] [vi x25] (B0, n24)
    obtain ⟨V1, V2⟩ := V
    refine r_zne (tgt := 28) dX12_of_23 (by decide) (fun c26 => ?_) (fun c26 => ?_)
    · have V := V1 c26
      refine r_iload_n dX12_of_28 rfl rfl ?_
      refine r_callS (args := [vi x1]) dX12_of_29 kX12_358 rfl rfl (Nat.le_of_ble_eq_true rfl) cap0 (Ev.mono V ?_)
      rintro r h' ⟨x28, n27, rfl, rfl, V⟩
      show Rn w mX12_of (d + 1) G Q 32 [(0, vr 145), (1, vi x1), (2, vi x2)] [vi x28] (B0, n27)
      refine r_istore_n (ls' := [(0, vr 145), (1, vi x1), (2, vi x2), (3, vi x28)]) dX12_of_32 rfl (by decide) rfl ?_
      refine r_iload_n dX12_of_33 rfl rfl ?_
      refine r_bipush (x := 7) dX12_of_34 (by decide +kernel) (by decide) ?_
      obtain ⟨V1, V2⟩ := V
      refine r_jne (tgt := 47) dX12_of_36 (by decide) (fun c29 => ?_) (fun c29 => ?_)
      · have V := V1 c29
        refine r_iload_n dX12_of_47 rfl rfl ?_
        refine r_bipush (x := 8) dX12_of_48 (by decide +kernel) (by decide) ?_
        obtain ⟨V1, V2⟩ := V
        refine r_jne (tgt := 61) dX12_of_50 (by decide) (fun c30 => ?_) (fun c30 => ?_)
        · have V := V1 c30
          refine r_aload_n dX12_of_61 rfl rfl ?_
          refine r_getR (b := 147) dX12_of_62 fX12_13 ob_145 (by decide) rfl rfl ?_
          refine r_iload_n dX12_of_65 rfl rfl ?_
          refine r_iload_n dX12_of_66 rfl rfl ?_
          obtain ⟨s31, V⟩ := V
          refine r_iadd dX12_of_67 s31 ?_
          obtain ⟨s32, V⟩ := V
          obtain ⟨s33, V⟩ := V
          refine r_iald dX12_of_68 ob_147 s32 s33 ?_
          exact r_iret dX12_of_69 rfl V
        · have V := V2 c30
          refine r_aload_n dX12_of_53 rfl rfl ?_
          refine r_iload_n dX12_of_54 rfl rfl ?_
          refine r_callV (args := [vi x28]) dX12_of_55 kX12_361 ob_145 ⟨_, _, rfl⟩ (by decide) rfl rfl (Nat.le_of_ble_eq_true rfl) cap0 (Ev.mono V ?_)
          rintro r h' ⟨x35, n34, rfl, rfl, V⟩
          show Rn w mX12_of (d + 1) G Q 58 [(0, vr 145), (1, vi x1), (2, vi x2), (3, vi x28)] [vi x35] (B0, n34)
          refine r_goto (tgt := 69) dX12_of_58 (by decide) ?_
          exact r_iret dX12_of_69 rfl V
      · have V := V2 c29
        refine r_aload_n dX12_of_39 rfl rfl ?_
        refine r_iload_n dX12_of_40 rfl rfl ?_
        refine r_callV (args := [vi x28]) dX12_of_41 kX12_331 ob_145 ⟨_, _, rfl⟩ (by decide) rfl rfl (Nat.le_of_ble_eq_true rfl) cap0 (Ev.mono V ?_)
        rintro r h' ⟨x37, n36, rfl, rfl, V⟩
        show Rn w mX12_of (d + 1) G Q 44 [(0, vr 145), (1, vi x1), (2, vi x2), (3, vi x28)] [vi x37] (B0, n36)
        refine r_goto (tgt := 69) dX12_of_44 (by decide) ?_
        exact r_iret dX12_of_69 rfl V
    · have V := V2 c26
      refine r_iconst (x := -1) dX12_of_26 rfl (by decide) ?_
      exact r_iret dX12_of_27 rfl V

theorem gX12_there_0 {w : WD} {d : Nat} {G : GM} {Q : Option AV → Hp → Prop} {n : NM} {x1 : Int}
    (V :
    (Ev w d 0 0 mX12_is [vr 145, vi 5, vi x1] (B0, upn n 145 0 0) (fun r h' => ∃ (x22 : Int) (n21 : NM), r = some (vi x22) ∧ h' = (B0, n21) ∧ 
      ((x22 ≠ 0 →
        Rn w mX12_there (d + 1) G Q 20 [(0, vr 145), (1, vi x1), (2, vi 0), (3, vi 0)] [] (B0, n21)) ∧
      (x22 = 0 →
        Q (some (vi (-1))) (B0, n21)))))) :
    Rn w mX12_there (d + 1) G Q 0 [(0, vr 145), (1, vi x1)] [] (B0, n) := by
  refine r_aload_n dX12_there_0 rfl rfl ?_
  refine r_iconst (x := 0) dX12_there_1 rfl (by decide) ?_
  refine r_putI (fi := 0) (h' := (B0, upn n 145 0 0)) dX12_there_2 pX12_76 ob_145 (by decide) rfl rfl rfl ?_
  refine r_aload_n dX12_there_5 rfl rfl ?_
  refine r_iconst (x := 5) dX12_there_6 rfl (by decide) ?_
  refine r_iload_n dX12_there_7 rfl rfl ?_
  refine r_callV (args := [vi 5, vi x1]) dX12_there_8 kX12_122 ob_145 ⟨_, _, rfl⟩ (by decide) rfl rfl (Nat.le_of_ble_eq_true rfl) cap0 (Ev.mono V ?_)
  rintro r h' ⟨x22, n21, rfl, rfl, V⟩
  show Rn w mX12_there (d + 1) G Q 11 [(0, vr 145), (1, vi x1)] [vi x22] (B0, n21)
  obtain ⟨V1, V2⟩ := V
  refine r_zne (tgt := 16) dX12_there_11 (by decide) (fun c23 => ?_) (fun c23 => ?_)
  · have V := V1 c23
    refine r_iconst (x := 0) dX12_there_16 rfl (by decide) ?_
    refine r_istore_n (ls' := [(0, vr 145), (1, vi x1), (2, vi 0)]) dX12_there_17 rfl (by decide) rfl ?_
    refine r_iconst (x := 0) dX12_there_18 rfl (by decide) ?_
    refine r_istore_n (ls' := [(0, vr 145), (1, vi x1), (2, vi 0), (3, vi 0)]) dX12_there_19 rfl (by decide) rfl ?_
    exact V
  · have V := V2 c23
    refine r_iconst (x := -1) dX12_there_14 rfl (by decide) ?_
    exact r_iret dX12_there_15 rfl V

theorem gX12_there_20 {w : WD} {d : Nat} {G : GM} {Q : Option AV → Hp → Prop} {n : NM} {x1 x2 x3 : Int}
    (V :
    ((5 ≤ x3 →
      Q (some (vi x2)) (B0, n)) ∧
    (x3 < 5 →
      (Ev w d 0 0 mX12_sightAt [vi x1] (B0, n) (fun r h' => ∃ (x23 : Int) (n22 : NM), r = some (vi x23) ∧ h' = (B0, n22) ∧ 
        (Ev w d 0 0 mX12_isThere [vr 145, vi x23, vi x3] (B0, n22) (fun r h' => ∃ (x25 : Int) (n24 : NM), r = some (vi x25) ∧ h' = (B0, n24) ∧ 
          ((x25 = 0 →
            (inI (x3 + 1)) ∧
            Rn w mX12_there (d + 1) G Q 20 [(0, vr 145), (1, vi x1), (2, vi (ior x2 0)), (3, vi (x3 + 1))] [] (B0, n24)) ∧
          (x25 ≠ 0 →
            (∃ k28 : Nat, x3 = (k28 : Int) ∧ k28 < 32 ∧
            (inI (1 * ((2 ^ k28 : Nat) : Int))) ∧
            (inI (x3 + 1)) ∧
            Rn w mX12_there (d + 1) G Q 20 [(0, vr 145), (1, vi x1), (2, vi (ior x2 (1 * ((2 ^ k28 : Nat) : Int)))), (3, vi (x3 + 1))] [] (B0, n24))))))))))) :
    Rn w mX12_there (d + 1) G Q 20 [(0, vr 145), (1, vi x1), (2, vi x2), (3, vi x3)] [] (B0, n) := by
  refine r_iload_n dX12_there_20 rfl rfl ?_
  refine r_iconst (x := 5) dX12_there_21 rfl (by decide) ?_
  obtain ⟨V1, V2⟩ := V
  refine r_jge (tgt := 53) dX12_there_22 (by decide) (fun c21 => ?_) (fun c21 => ?_)
  · have V := V1 c21
    refine r_iload_n dX12_there_53 rfl rfl ?_
    exact r_iret dX12_there_54 rfl V
  · have V := V2 c21
    refine r_iload_n dX12_there_25 rfl rfl ?_
    refine r_aload_n dX12_there_26 rfl rfl ?_
    refine r_iload_n dX12_there_27 rfl rfl ?_
    refine r_callS (args := [vi x1]) dX12_there_28 kX12_358 rfl rfl (Nat.le_of_ble_eq_true rfl) cap0 (Ev.mono V ?_)
    rintro r h' ⟨x23, n22, rfl, rfl, V⟩
    show Rn w mX12_there (d + 1) G Q 31 [(0, vr 145), (1, vi x1), (2, vi x2), (3, vi x3)] [vi x23, vr 145, vi x2] (B0, n22)
    refine r_iload_n dX12_there_31 rfl rfl ?_
    refine r_callV (args := [vi x23, vi x3]) dX12_there_32 kX12_342 ob_145 ⟨_, _, rfl⟩ (by decide) rfl rfl (Nat.le_of_ble_eq_true rfl) cap0 (Ev.mono V ?_)
    rintro r h' ⟨x25, n24, rfl, rfl, V⟩
    show Rn w mX12_there (d + 1) G Q 35 [(0, vr 145), (1, vi x1), (2, vi x2), (3, vi x3)] [vi x25, vi x2] (B0, n24)
    obtain ⟨V1, V2⟩ := V
    refine r_zeq (tgt := 44) dX12_there_35 (by decide) (fun c26 => ?_) (fun c26 => ?_)
    · have V := V1 c26
      refine r_iconst (x := 0) dX12_there_44 rfl (by decide) ?_
      refine r_ior dX12_there_45 ?_
      refine r_istore_n (ls' := [(0, vr 145), (1, vi x1), (2, vi (ior x2 0)), (3, vi x3)]) dX12_there_46 rfl (by decide) rfl ?_
      obtain ⟨s27, V⟩ := V
      refine r_iinc (y := x3 + 1) (ls' := [(0, vr 145), (1, vi x1), (2, vi (ior x2 0)), (3, vi (x3 + 1))]) dX12_there_47 rfl rfl s27 (by decide) rfl ?_
      refine r_goto (tgt := 20) dX12_there_50 (by decide) ?_
      exact V
    · have V := V2 c26
      refine r_iconst (x := 1) dX12_there_38 rfl (by decide) ?_
      refine r_iload_n dX12_there_39 rfl rfl ?_
      obtain ⟨k28, hk28, lk28, V⟩ := V
      obtain ⟨s29, V⟩ := V
      refine r_ishl (n := k28) dX12_there_40 hk28 lk28 s29 ?_
      refine r_goto (tgt := 45) dX12_there_41 (by decide) ?_
      refine r_ior dX12_there_45 ?_
      refine r_istore_n (ls' := [(0, vr 145), (1, vi x1), (2, vi (ior x2 (1 * ((2 ^ k28 : Nat) : Int)))), (3, vi x3)]) dX12_there_46 rfl (by decide) rfl ?_
      obtain ⟨s30, V⟩ := V
      refine r_iinc (y := x3 + 1) (ls' := [(0, vr 145), (1, vi x1), (2, vi (ior x2 (1 * ((2 ^ k28 : Nat) : Int)))), (3, vi (x3 + 1))]) dX12_there_47 rfl rfl s30 (by decide) rfl ?_
      refine r_goto (tgt := 20) dX12_there_50 (by decide) ?_
      exact V

theorem gX12_odds_0 {w : WD} {d : Nat} {G : GM} {Q : Option AV → Hp → Prop} {n : NM} {x1 x2 x3 : Int}
    (V :
    (Ev w d 0 0 mX12_is [vr 145, vi 5, vi x1] (B0, upn n 145 0 0) (fun r h' => ∃ (x22 : Int) (n21 : NM), r = some (vi x22) ∧ h' = (B0, n21) ∧ 
      ((x22 = 0 →
        Q (some (vi (-1))) (B0, n21)) ∧
      (x22 ≠ 0 →
        (Ev w d 0 0 mX12_in [vl x2, vl 0, vl 4] (B0, n21) (fun r h' => ∃ (x25 : Int) (n24 : NM), r = some (vi x25) ∧ h' = (B0, n24) ∧ 
          ((x25 = 0 →
            Q (some (vi (-1))) (B0, n24)) ∧
          (x25 ≠ 0 →
            (Ev w d 0 0 mX12_in [vl x3, vl 0, vl 1] (B0, n24) (fun r h' => ∃ (x28 : Int) (n27 : NM), r = some (vi x28) ∧ h' = (B0, n27) ∧ 
              ((x28 ≠ 0 →
                (Ev w d 0 0 mX12_sightAt [vi x1] (B0, n27) (fun r h' => ∃ (x31 : Int) (n30 : NM), r = some (vi x31) ∧ h' = (B0, n30) ∧ 
                  (Ev w d 0 0 mX12_weights [vr 145, vi x31] (B0, n30) (fun r h' => ∃ (x33 : Int) (n32 : NM), r = some (vi x33) ∧ h' = (B0, n32) ∧ 
                    (Ev w d 0 0 mX12_sightAt [vi x1] (B0, n32) (fun r h' => ∃ (x35 : Int) (n34 : NM), r = some (vi x35) ∧ h' = (B0, n34) ∧ 
                      (Ev w d 0 0 mX12_weightOf [vr 145, vi x35, vi x2] (B0, n34) (fun r h' => ∃ (x37 : Int) (n36 : NM), r = some (vi x37) ∧ h' = (B0, n36) ∧ 
                        ((x33 ≠ 0 →
                          Rn w mX12_odds (d + 1) G Q 74 [(3, vi x3), (4, vi x33), (5, vi x37), (6, vi x33), (7, vi x37)] [] (B0, n36)) ∧
                        (x33 = 0 →
                          Q (some (vi (-1))) (B0, n36)))))))))))) ∧
              (x28 = 0 →
                Q (some (vi (-1))) (B0, n27)))))))))))))) :
    Rn w mX12_odds (d + 1) G Q 0 [(0, vr 145), (1, vi x1), (2, vi x2), (3, vi x3)] [] (B0, n) := by
  refine r_aload_n dX12_odds_0 rfl rfl ?_
  refine r_iconst (x := 0) dX12_odds_1 rfl (by decide) ?_
  refine r_putI (fi := 0) (h' := (B0, upn n 145 0 0)) dX12_odds_2 pX12_76 ob_145 (by decide) rfl rfl rfl ?_
  refine r_aload_n dX12_odds_5 rfl rfl ?_
  refine r_iconst (x := 5) dX12_odds_6 rfl (by decide) ?_
  refine r_iload_n dX12_odds_7 rfl rfl ?_
  refine r_callV (args := [vi 5, vi x1]) dX12_odds_8 kX12_122 ob_145 ⟨_, _, rfl⟩ (by decide) rfl rfl (Nat.le_of_ble_eq_true rfl) cap0 (Ev.mono V ?_)
  rintro r h' ⟨x22, n21, rfl, rfl, V⟩
  show Rn w mX12_odds (d + 1) G Q 11 [(0, vr 145), (1, vi x1), (2, vi x2), (3, vi x3)] [vi x22] (B0, n21)
  obtain ⟨V1, V2⟩ := V
  refine r_zeq (tgt := 36) dX12_odds_11 (by decide) (fun c23 => ?_) (fun c23 => ?_)
  · have V := V1 c23
    refine r_iconst (x := -1) dX12_odds_36 rfl (by decide) ?_
    exact r_iret dX12_odds_37 rfl V
  · have V := V2 c23
    refine r_iload_n dX12_odds_14 rfl rfl ?_
    refine r_i2l dX12_odds_15 ?_
    refine r_lconst (x := 0) dX12_odds_16 rfl (by decide) ?_
    refine r_ldc2 (x := 4) dX12_odds_17 qX12_364 (by decide) ?_
    refine r_callS (args := [vl x2, vl 0, vl 4]) dX12_odds_20 kX12_82 rfl rfl (Nat.le_of_ble_eq_true rfl) cap0 (Ev.mono V ?_)
    rintro r h' ⟨x25, n24, rfl, rfl, V⟩
    show Rn w mX12_odds (d + 1) G Q 23 [(0, vr 145), (1, vi x1), (2, vi x2), (3, vi x3)] [vi x25] (B0, n24)
    obtain ⟨V1, V2⟩ := V
    refine r_zeq (tgt := 36) dX12_odds_23 (by decide) (fun c26 => ?_) (fun c26 => ?_)
    · have V := V1 c26
      refine r_iconst (x := -1) dX12_odds_36 rfl (by decide) ?_
      exact r_iret dX12_odds_37 rfl V
    · have V := V2 c26
      refine r_iload_n dX12_odds_26 rfl rfl ?_
      refine r_i2l dX12_odds_27 ?_
      refine r_lconst (x := 0) dX12_odds_28 rfl (by decide) ?_
      refine r_lconst (x := 1) dX12_odds_29 rfl (by decide) ?_
      refine r_callS (args := [vl x3, vl 0, vl 1]) dX12_odds_30 kX12_82 rfl rfl (Nat.le_of_ble_eq_true rfl) cap0 (Ev.mono V ?_)
      rintro r h' ⟨x28, n27, rfl, rfl, V⟩
      show Rn w mX12_odds (d + 1) G Q 33 [(0, vr 145), (1, vi x1), (2, vi x2), (3, vi x3)] [vi x28] (B0, n27)
      obtain ⟨V1, V2⟩ := V
      refine r_zne (tgt := 38) dX12_odds_33 (by decide) (fun c29 => ?_) (fun c29 => ?_)
      · have V := V1 c29
        refine r_aload_n dX12_odds_38 rfl rfl ?_
        refine r_iload_n dX12_odds_39 rfl rfl ?_
        refine r_callS (args := [vi x1]) dX12_odds_40 kX12_358 rfl rfl (Nat.le_of_ble_eq_true rfl) cap0 (Ev.mono V ?_)
        rintro r h' ⟨x31, n30, rfl, rfl, V⟩
        show Rn w mX12_odds (d + 1) G Q 43 [(0, vr 145), (1, vi x1), (2, vi x2), (3, vi x3)] [vi x31, vr 145] (B0, n30)
        refine r_callV (args := [vi x31]) dX12_odds_43 kX12_366 ob_145 ⟨_, _, rfl⟩ (by decide) rfl rfl (Nat.le_of_ble_eq_true rfl) cap0 (Ev.mono V ?_)
        rintro r h' ⟨x33, n32, rfl, rfl, V⟩
        show Rn w mX12_odds (d + 1) G Q 46 [(0, vr 145), (1, vi x1), (2, vi x2), (3, vi x3)] [vi x33] (B0, n32)
        refine r_istore (ls' := [(0, vr 145), (1, vi x1), (2, vi x2), (3, vi x3), (4, vi x33)]) dX12_odds_46 (by decide) rfl ?_
        refine r_aload_n dX12_odds_48 rfl rfl ?_
        refine r_iload_n dX12_odds_49 rfl rfl ?_
        refine r_callS (args := [vi x1]) dX12_odds_50 kX12_358 rfl rfl (Nat.le_of_ble_eq_true rfl) cap0 (Ev.mono V ?_)
        rintro r h' ⟨x35, n34, rfl, rfl, V⟩
        show Rn w mX12_odds (d + 1) G Q 53 [(0, vr 145), (1, vi x1), (2, vi x2), (3, vi x3), (4, vi x33)] [vi x35, vr 145] (B0, n34)
        refine r_iload_n dX12_odds_53 rfl rfl ?_
        refine r_callV (args := [vi x35, vi x2]) dX12_odds_54 kX12_352 ob_145 ⟨_, _, rfl⟩ (by decide) rfl rfl (Nat.le_of_ble_eq_true rfl) cap0 (Ev.mono V ?_)
        rintro r h' ⟨x37, n36, rfl, rfl, V⟩
        show Rn w mX12_odds (d + 1) G Q 57 [(0, vr 145), (1, vi x1), (2, vi x2), (3, vi x3), (4, vi x33)] [vi x37] (B0, n36)
        refine r_istore (ls' := [(0, vr 145), (1, vi x1), (2, vi x2), (3, vi x3), (4, vi x33), (5, vi x37)]) dX12_odds_57 (by decide) rfl ?_
        refine r_iload dX12_odds_59 rfl ?_
        obtain ⟨V1, V2⟩ := V
        refine r_zne (tgt := 66) dX12_odds_61 (by decide) (fun c38 => ?_) (fun c38 => ?_)
        · have V := V1 c38
          refine r_iload dX12_odds_66 rfl ?_
          refine r_istore (ls' := [(0, vr 145), (1, vi x1), (2, vi x2), (3, vi x3), (4, vi x33), (5, vi x37), (6, vi x33)]) dX12_odds_68 (by decide) rfl ?_
          refine r_iload dX12_odds_70 rfl ?_
          refine r_istore (ls' := [(0, vr 145), (1, vi x1), (2, vi x2), (3, vi x3), (4, vi x33), (5, vi x37), (6, vi x33), (7, vi x37)]) dX12_odds_72 (by decide) rfl ?_
          refine r_pick [3, 4, 5, 6, 7] (ls' := [(3, vi x3), (4, vi x33), (5, vi x37), (6, vi x33), (7, vi x37)]) rfl ?_
          exact V
        · have V := V2 c38
          refine r_iconst (x := -1) dX12_odds_64 rfl (by decide) ?_
          exact r_iret dX12_odds_65 rfl V
      · have V := V2 c29
        refine r_iconst (x := -1) dX12_odds_36 rfl (by decide) ?_
        exact r_iret dX12_odds_37 rfl V

theorem gX12_odds_74 {w : WD} {d : Nat} {G : GM} {Q : Option AV → Hp → Prop} {n : NM} {x3 x4 x5 x6 x7 : Int}
    (V :
    ((x7 ≤ 0 →
      ((x3 ≠ 0 →
        (0 ≤ x4) ∧
        (0 < x6) ∧
        Q (some (vi (x4 / x6))) (B0, n)) ∧
      (x3 = 0 →
        (0 ≤ x5) ∧
        (0 < x6) ∧
        Q (some (vi (x5 / x6))) (B0, n)))) ∧
    (0 < x7 →
      (0 ≤ x6) ∧
      (0 < x7) ∧
      Rn w mX12_odds d G Q 74 [(3, vi x3), (4, vi x4), (5, vi x5), (6, vi x7), (7, vi (x6 % x7))] [] (B0, n)))) :
    Rn w mX12_odds d G Q 74 [(3, vi x3), (4, vi x4), (5, vi x5), (6, vi x6), (7, vi x7)] [] (B0, n) := by
  refine r_iload dX12_odds_74 rfl ?_
  obtain ⟨V1, V2⟩ := V
  refine r_zle (tgt := 97) dX12_odds_76 (by decide) (fun c21 => ?_) (fun c21 => ?_)
  · have V := V1 c21
    refine r_iload_n dX12_odds_97 rfl rfl ?_
    obtain ⟨V1, V2⟩ := V
    refine r_zne (tgt := 109) dX12_odds_98 (by decide) (fun c22 => ?_) (fun c22 => ?_)
    · have V := V1 c22
      refine r_iload dX12_odds_109 rfl ?_
      refine r_iload dX12_odds_111 rfl ?_
      obtain ⟨s23, V⟩ := V
      obtain ⟨s24, V⟩ := V
      refine r_idiv dX12_odds_113 s23 s24 ?_
      exact r_iret dX12_odds_114 rfl V
    · have V := V2 c22
      refine r_iload dX12_odds_101 rfl ?_
      refine r_iload dX12_odds_103 rfl ?_
      obtain ⟨s25, V⟩ := V
      obtain ⟨s26, V⟩ := V
      refine r_idiv dX12_odds_105 s25 s26 ?_
      refine r_goto (tgt := 114) dX12_odds_106 (by decide) ?_
      exact r_iret dX12_odds_114 rfl V
  · have V := V2 c21
    refine r_iload dX12_odds_79 rfl ?_
    refine r_iload dX12_odds_81 rfl ?_
    obtain ⟨s27, V⟩ := V
    obtain ⟨s28, V⟩ := V
    refine r_irem dX12_odds_83 s27 s28 ?_
    refine r_istore (ls' := [(3, vi x3), (4, vi x4), (5, vi x5), (6, vi x6), (7, vi x7), (8, vi (x6 % x7))]) dX12_odds_84 (by decide) rfl ?_
    refine r_iload dX12_odds_86 rfl ?_
    refine r_istore (ls' := [(3, vi x3), (4, vi x4), (5, vi x5), (6, vi x7), (7, vi x7), (8, vi (x6 % x7))]) dX12_odds_88 (by decide) rfl ?_
    refine r_iload dX12_odds_90 rfl ?_
    refine r_istore (ls' := [(3, vi x3), (4, vi x4), (5, vi x5), (6, vi x7), (7, vi (x6 % x7)), (8, vi (x6 % x7))]) dX12_odds_92 (by decide) rfl ?_
    refine r_goto (tgt := 74) dX12_odds_94 (by decide) ?_
    refine r_pick [0, 1, 2, 3, 4] (ls' := [(3, vi x3), (4, vi x4), (5, vi x5), (6, vi x7), (7, vi (x6 % x7))]) rfl ?_
    exact V

theorem gX12_unknown_0 {w : WD} {d : Nat} {G : GM} {Q : Option AV → Hp → Prop} {n : NM} {x1 x2 : Int}
    (V :
    (Ev w d 0 0 mX12_in [vl x1, vl 0, vl 1] (B0, upn n 145 0 0) (fun r h' => ∃ (x22 : Int) (n21 : NM), r = some (vi x22) ∧ h' = (B0, n21) ∧ 
      ((x22 ≠ 0 →
        Rn w mX12_unknown (d + 1) G Q 25 [(0, vr 145), (1, vi x1), (2, vi x2), (3, vi 0), (4, vi (-1)), (5, vi 0)] [] (B0, n21)) ∧
      (x22 = 0 →
        Q (some (vi (-1))) (B0, n21)))))) :
    Rn w mX12_unknown (d + 1) G Q 0 [(0, vr 145), (1, vi x1), (2, vi x2)] [] (B0, n) := by
  refine r_aload_n dX12_unknown_0 rfl rfl ?_
  refine r_iconst (x := 0) dX12_unknown_1 rfl (by decide) ?_
  refine r_putI (fi := 0) (h' := (B0, upn n 145 0 0)) dX12_unknown_2 pX12_76 ob_145 (by decide) rfl rfl rfl ?_
  refine r_iload_n dX12_unknown_5 rfl rfl ?_
  refine r_i2l dX12_unknown_6 ?_
  refine r_lconst (x := 0) dX12_unknown_7 rfl (by decide) ?_
  refine r_lconst (x := 1) dX12_unknown_8 rfl (by decide) ?_
  refine r_callS (args := [vl x1, vl 0, vl 1]) dX12_unknown_9 kX12_82 rfl rfl (Nat.le_of_ble_eq_true rfl) cap0 (Ev.mono V ?_)
  rintro r h' ⟨x22, n21, rfl, rfl, V⟩
  show Rn w mX12_unknown (d + 1) G Q 12 [(0, vr 145), (1, vi x1), (2, vi x2)] [vi x22] (B0, n21)
  obtain ⟨V1, V2⟩ := V
  refine r_zne (tgt := 17) dX12_unknown_12 (by decide) (fun c23 => ?_) (fun c23 => ?_)
  · have V := V1 c23
    refine r_iconst (x := 0) dX12_unknown_17 rfl (by decide) ?_
    refine r_istore_n (ls' := [(0, vr 145), (1, vi x1), (2, vi x2), (3, vi 0)]) dX12_unknown_18 rfl (by decide) rfl ?_
    refine r_iconst (x := -1) dX12_unknown_19 rfl (by decide) ?_
    refine r_istore (ls' := [(0, vr 145), (1, vi x1), (2, vi x2), (3, vi 0), (4, vi (-1))]) dX12_unknown_20 (by decide) rfl ?_
    refine r_iconst (x := 0) dX12_unknown_22 rfl (by decide) ?_
    refine r_istore (ls' := [(0, vr 145), (1, vi x1), (2, vi x2), (3, vi 0), (4, vi (-1)), (5, vi 0)]) dX12_unknown_23 (by decide) rfl ?_
    exact V
  · have V := V2 c23
    refine r_iconst (x := -1) dX12_unknown_15 rfl (by decide) ?_
    exact r_iret dX12_unknown_16 rfl V

theorem gX12_unknown_25 {w : WD} {d : Nat} {G : GM} {Q : Option AV → Hp → Prop} {n : NM} {x1 x2 x3 x4 x5 : Int}
    (V :
    ((n 147 5 ≤ x5 →
      ((x1 ≠ 0 →
        Q (some (vi x4)) (B0, n)) ∧
      (x1 = 0 →
        Q (some (vi x3)) (B0, n)))) ∧
    (x5 < n 147 5 →
      (Ev w d 0 0 mX12_sightAt [vi x5] (B0, n) (fun r h' => ∃ (x24 : Int) (n23 : NM), r = some (vi x24) ∧ h' = (B0, n23) ∧ 
        (Ev w d 0 0 mX12_weights [vr 145, vi x24] (B0, n23) (fun r h' => ∃ (x26 : Int) (n25 : NM), r = some (vi x26) ∧ h' = (B0, n25) ∧ 
          (x26 = 0 → x3 ≠ x2 → inI (x3 + 1)) ∧
          (x26 = 0 → x3 = x2 → inI (x3 + 1)) ∧
          (∀ z31 z32 : Int, z31 = (if x26 ≠ 0 then x3 else x3 + 1) → z32 = (if x26 ≠ 0 then x4 else (if x3 ≠ x2 then x4 else x5)) → 
          (inI (x5 + 1)) ∧
          Rn w mX12_unknown (d + 1) G Q 25 [(0, vr 145), (1, vi x1), (2, vi x2), (3, vi z31), (4, vi z32), (5, vi (x5 + 1))] [] (B0, n25))))))))) :
    Rn w mX12_unknown (d + 1) G Q 25 [(0, vr 145), (1, vi x1), (2, vi x2), (3, vi x3), (4, vi x4), (5, vi x5)] [] (B0, n) := by
  refine r_iload dX12_unknown_25 rfl ?_
  refine r_aload_n dX12_unknown_27 rfl rfl ?_
  refine r_getR (b := 147) dX12_unknown_28 fX12_13 ob_145 (by decide) rfl rfl ?_
  refine r_iconst (x := 5) dX12_unknown_31 rfl (by decide) ?_
  refine r_iald dX12_unknown_32 ob_147 (by decide) (by decide) ?_
  obtain ⟨V1, V2⟩ := V
  refine r_jge (tgt := 71) dX12_unknown_33 (by decide) (fun c21 => ?_) (fun c21 => ?_)
  · have V := V1 c21
    refine r_iload_n dX12_unknown_71 rfl rfl ?_
    obtain ⟨V1, V2⟩ := V
    refine r_zne (tgt := 79) dX12_unknown_72 (by decide) (fun c22 => ?_) (fun c22 => ?_)
    · have V := V1 c22
      refine r_iload dX12_unknown_79 rfl ?_
      exact r_iret dX12_unknown_81 rfl V
    · have V := V2 c22
      refine r_iload_n dX12_unknown_75 rfl rfl ?_
      refine r_goto (tgt := 81) dX12_unknown_76 (by decide) ?_
      exact r_iret dX12_unknown_81 rfl V
  · have V := V2 c21
    refine r_aload_n dX12_unknown_36 rfl rfl ?_
    refine r_iload dX12_unknown_37 rfl ?_
    refine r_callS (args := [vi x5]) dX12_unknown_39 kX12_358 rfl rfl (Nat.le_of_ble_eq_true rfl) cap0 (Ev.mono V ?_)
    rintro r h' ⟨x24, n23, rfl, rfl, V⟩
    show Rn w mX12_unknown (d + 1) G Q 42 [(0, vr 145), (1, vi x1), (2, vi x2), (3, vi x3), (4, vi x4), (5, vi x5)] [vi x24, vr 145] (B0, n23)
    refine r_callV (args := [vi x24]) dX12_unknown_42 kX12_366 ob_145 ⟨_, _, rfl⟩ (by decide) rfl rfl (Nat.le_of_ble_eq_true rfl) cap0 (Ev.mono V ?_)
    rintro r h' ⟨x26, n25, rfl, rfl, V⟩
    show Rn w mX12_unknown (d + 1) G Q 45 [(0, vr 145), (1, vi x1), (2, vi x2), (3, vi x3), (4, vi x4), (5, vi x5)] [vi x26] (B0, n25)
    obtain ⟨s29, V⟩ := V
    obtain ⟨s30, V⟩ := V
    have K : ∀ z31 z32 : Int, z31 = (if x26 ≠ 0 then x3 else x3 + 1) → z32 = (if x26 ≠ 0 then x4 else (if x3 ≠ x2 then x4 else x5)) → Rn w mX12_unknown (d + 1) G Q 65 [(0, vr 145), (1, vi x1), (2, vi x2), (3, vi z31), (4, vi z32), (5, vi x5)] [] (B0, n25) := by
      intro z31 z32 ez31 ez32
      have V := V z31 z32 ez31 ez32
      obtain ⟨s33, V⟩ := V
      refine r_iinc (y := x5 + 1) (ls' := [(0, vr 145), (1, vi x1), (2, vi x2), (3, vi z31), (4, vi z32), (5, vi (x5 + 1))]) dX12_unknown_65 rfl rfl s33 (by decide) rfl ?_
      refine r_goto (tgt := 25) dX12_unknown_68 (by decide) ?_
      exact V
    refine r_zne (tgt := 65) dX12_unknown_45 (by decide) (fun c27 => ?_) (fun c27 => ?_)
    · exact K x3 x4 (by first | rfl | (simp only [if_pos c27])) (by first | rfl | (simp only [if_pos c27]))
    · refine r_iload_n dX12_unknown_48 rfl rfl ?_
      refine r_iload_n dX12_unknown_49 rfl rfl ?_
      refine r_jne (tgt := 58) dX12_unknown_50 (by decide) (fun c28 => ?_) (fun c28 => ?_)
      · refine r_iload dX12_unknown_58 rfl ?_
        refine r_istore (ls' := [(0, vr 145), (1, vi x1), (2, vi x2), (3, vi x3), (4, vi x4), (5, vi x5)]) dX12_unknown_60 (by decide) rfl ?_
        refine r_iinc (y := x3 + 1) (ls' := [(0, vr 145), (1, vi x1), (2, vi x2), (3, vi (x3 + 1)), (4, vi x4), (5, vi x5)]) dX12_unknown_62 rfl rfl (s29 c27 c28) (by decide) rfl ?_
        exact K (x3 + 1) x4 (by first | rfl | (simp only [if_neg (show ¬ (x26 ≠ 0) from not_not_intro c27), if_pos c28])) (by first | rfl | (simp only [if_neg (show ¬ (x26 ≠ 0) from not_not_intro c27), if_pos c28]))
      · refine r_iload dX12_unknown_53 rfl ?_
        refine r_goto (tgt := 60) dX12_unknown_55 (by decide) ?_
        refine r_istore (ls' := [(0, vr 145), (1, vi x1), (2, vi x2), (3, vi x3), (4, vi x5), (5, vi x5)]) dX12_unknown_60 (by decide) rfl ?_
        refine r_iinc (y := x3 + 1) (ls' := [(0, vr 145), (1, vi x1), (2, vi x2), (3, vi (x3 + 1)), (4, vi x5), (5, vi x5)]) dX12_unknown_62 rfl rfl (s30 c27 c28) (by decide) rfl ?_
        exact K (x3 + 1) x5 (by first | rfl | (simp only [if_neg (show ¬ (x26 ≠ 0) from not_not_intro c27), if_neg (show ¬ (x3 ≠ x2) from not_not_intro c28)])) (by first | rfl | (simp only [if_neg (show ¬ (x26 ≠ 0) from not_not_intro c27), if_neg (show ¬ (x3 ≠ x2) from not_not_intro c28)]))

theorem gX12_span_0 {w : WD} {d : Nat} {G : GM} {Q : Option AV → Hp → Prop} {n : NM} {x1 x2 : Int}
    (V :
    (Ev w d 0 0 mX12_is [vr 145, vi 5, vi x1] (B0, upn n 145 0 0) (fun r h' => ∃ (x22 : Int) (n21 : NM), r = some (vi x22) ∧ h' = (B0, n21) ∧ 
      ((x22 = 0 →
        Q (some (vi (-1))) (B0, n21)) ∧
      (x22 ≠ 0 →
        (Ev w d 0 0 mX12_in [vl x2, vl 0, vl 1] (B0, n21) (fun r h' => ∃ (x25 : Int) (n24 : NM), r = some (vi x25) ∧ h' = (B0, n24) ∧ 
          ((x25 ≠ 0 →
            (Ev w d 0 0 mX12_sightAt [vi x1] (B0, n24) (fun r h' => ∃ (x28 : Int) (n27 : NM), r = some (vi x28) ∧ h' = (B0, n27) ∧ 
              Rn w mX12_span (d + 1) G Q 37 [(0, vr 145), (2, vi x2), (3, vi x28), (4, vi 0), (5, vi 0)] [] (B0, n27)))) ∧
          (x25 = 0 →
            Q (some (vi (-1))) (B0, n24)))))))))) :
    Rn w mX12_span (d + 1) G Q 0 [(0, vr 145), (1, vi x1), (2, vi x2)] [] (B0, n) := by
  refine r_aload_n dX12_span_0 rfl rfl ?_
  refine r_iconst (x := 0) dX12_span_1 rfl (by decide) ?_
  refine r_putI (fi := 0) (h' := (B0, upn n 145 0 0)) dX12_span_2 pX12_76 ob_145 (by decide) rfl rfl rfl ?_
  refine r_aload_n dX12_span_5 rfl rfl ?_
  refine r_iconst (x := 5) dX12_span_6 rfl (by decide) ?_
  refine r_iload_n dX12_span_7 rfl rfl ?_
  refine r_callV (args := [vi 5, vi x1]) dX12_span_8 kX12_122 ob_145 ⟨_, _, rfl⟩ (by decide) rfl rfl (Nat.le_of_ble_eq_true rfl) cap0 (Ev.mono V ?_)
  rintro r h' ⟨x22, n21, rfl, rfl, V⟩
  show Rn w mX12_span (d + 1) G Q 11 [(0, vr 145), (1, vi x1), (2, vi x2)] [vi x22] (B0, n21)
  obtain ⟨V1, V2⟩ := V
  refine r_zeq (tgt := 24) dX12_span_11 (by decide) (fun c23 => ?_) (fun c23 => ?_)
  · have V := V1 c23
    refine r_iconst (x := -1) dX12_span_24 rfl (by decide) ?_
    exact r_iret dX12_span_25 rfl V
  · have V := V2 c23
    refine r_iload_n dX12_span_14 rfl rfl ?_
    refine r_i2l dX12_span_15 ?_
    refine r_lconst (x := 0) dX12_span_16 rfl (by decide) ?_
    refine r_lconst (x := 1) dX12_span_17 rfl (by decide) ?_
    refine r_callS (args := [vl x2, vl 0, vl 1]) dX12_span_18 kX12_82 rfl rfl (Nat.le_of_ble_eq_true rfl) cap0 (Ev.mono V ?_)
    rintro r h' ⟨x25, n24, rfl, rfl, V⟩
    show Rn w mX12_span (d + 1) G Q 21 [(0, vr 145), (1, vi x1), (2, vi x2)] [vi x25] (B0, n24)
    obtain ⟨V1, V2⟩ := V
    refine r_zne (tgt := 26) dX12_span_21 (by decide) (fun c26 => ?_) (fun c26 => ?_)
    · have V := V1 c26
      refine r_iload_n dX12_span_26 rfl rfl ?_
      refine r_callS (args := [vi x1]) dX12_span_27 kX12_358 rfl rfl (Nat.le_of_ble_eq_true rfl) cap0 (Ev.mono V ?_)
      rintro r h' ⟨x28, n27, rfl, rfl, V⟩
      show Rn w mX12_span (d + 1) G Q 30 [(0, vr 145), (1, vi x1), (2, vi x2)] [vi x28] (B0, n27)
      refine r_istore_n (ls' := [(0, vr 145), (1, vi x1), (2, vi x2), (3, vi x28)]) dX12_span_30 rfl (by decide) rfl ?_
      refine r_iconst (x := 0) dX12_span_31 rfl (by decide) ?_
      refine r_istore (ls' := [(0, vr 145), (1, vi x1), (2, vi x2), (3, vi x28), (4, vi 0)]) dX12_span_32 (by decide) rfl ?_
      refine r_iconst (x := 0) dX12_span_34 rfl (by decide) ?_
      refine r_istore (ls' := [(0, vr 145), (1, vi x1), (2, vi x2), (3, vi x28), (4, vi 0), (5, vi 0)]) dX12_span_35 (by decide) rfl ?_
      refine r_pick [0, 2, 3, 4, 5] (ls' := [(0, vr 145), (2, vi x2), (3, vi x28), (4, vi 0), (5, vi 0)]) rfl ?_
      exact V
    · have V := V2 c26
      refine r_iconst (x := -1) dX12_span_24 rfl (by decide) ?_
      exact r_iret dX12_span_25 rfl V

theorem gX12_span_37 {w : WD} {d : Nat} {G : GM} {Q : Option AV → Hp → Prop} {n : NM} {x2 x3 x4 x5 : Int}
    (V :
    ((n 147 4 ≤ x5 →
      (Ev w d 0 0 mX12_growOf [vr 145, vi x3] (B0, n) (fun r h' => ∃ (x23 : Int) (n22 : NM), r = some (vi x23) ∧ h' = (B0, n22) ∧ 
        Rn w mX12_span (d + 1) G Q 104 [(0, vr 145), (2, vi x2), (3, vi x3), (4, vi x4), (5, vi x23), (6, vi (-1)), (7, vi (-1)), (8, vi 0)] [] (B0, n22)))) ∧
    (x5 < n 147 4 →
      (inI (3 * x5)) ∧
      (inI (350 + (3 * x5))) ∧
      (0 ≤ 350 + (3 * x5)) ∧
      (350 + (3 * x5) < 1800) ∧
      (inI (x3 + 3)) ∧
      (0 ≤ x3 + 3) ∧
      (x3 + 3 < 1800) ∧
      (∀ z32 : Int, z32 = (if n 147 (350 + (3 * x5)) ≠ n 147 (x3 + 3) then 0 else 1) → 
      (inI (x4 + z32)) ∧
      (inI (x5 + 1)) ∧
      Rn w mX12_span (d + 1) G Q 37 [(0, vr 145), (2, vi x2), (3, vi x3), (4, vi (x4 + z32)), (5, vi (x5 + 1))] [] (B0, n))))) :
    Rn w mX12_span (d + 1) G Q 37 [(0, vr 145), (2, vi x2), (3, vi x3), (4, vi x4), (5, vi x5)] [] (B0, n) := by
  refine r_iload dX12_span_37 rfl ?_
  refine r_aload_n dX12_span_39 rfl rfl ?_
  refine r_getR (b := 147) dX12_span_40 fX12_13 ob_145 (by decide) rfl rfl ?_
  refine r_iconst (x := 4) dX12_span_43 rfl (by decide) ?_
  refine r_iald dX12_span_44 ob_147 (by decide) (by decide) ?_
  obtain ⟨V1, V2⟩ := V
  refine r_jge (tgt := 88) dX12_span_45 (by decide) (fun c21 => ?_) (fun c21 => ?_)
  · have V := V1 c21
    refine r_aload_n dX12_span_88 rfl rfl ?_
    refine r_iload_n dX12_span_89 rfl rfl ?_
    refine r_callV (args := [vi x3]) dX12_span_90 kX12_361 ob_145 ⟨_, _, rfl⟩ (by decide) rfl rfl (Nat.le_of_ble_eq_true rfl) cap0 (Ev.mono V ?_)
    rintro r h' ⟨x23, n22, rfl, rfl, V⟩
    show Rn w mX12_span (d + 1) G Q 93 [(0, vr 145), (2, vi x2), (3, vi x3), (4, vi x4), (5, vi x5)] [vi x23] (B0, n22)
    refine r_istore (ls' := [(0, vr 145), (2, vi x2), (3, vi x3), (4, vi x4), (5, vi x23)]) dX12_span_93 (by decide) rfl ?_
    refine r_iconst (x := -1) dX12_span_95 rfl (by decide) ?_
    refine r_istore (ls' := [(0, vr 145), (2, vi x2), (3, vi x3), (4, vi x4), (5, vi x23), (6, vi (-1))]) dX12_span_96 (by decide) rfl ?_
    refine r_iconst (x := -1) dX12_span_98 rfl (by decide) ?_
    refine r_istore (ls' := [(0, vr 145), (2, vi x2), (3, vi x3), (4, vi x4), (5, vi x23), (6, vi (-1)), (7, vi (-1))]) dX12_span_99 (by decide) rfl ?_
    refine r_iconst (x := 0) dX12_span_101 rfl (by decide) ?_
    refine r_istore (ls' := [(0, vr 145), (2, vi x2), (3, vi x3), (4, vi x4), (5, vi x23), (6, vi (-1)), (7, vi (-1)), (8, vi 0)]) dX12_span_102 (by decide) rfl ?_
    exact V
  · have V := V2 c21
    refine r_iload dX12_span_48 rfl ?_
    refine r_aload_n dX12_span_50 rfl rfl ?_
    refine r_getR (b := 147) dX12_span_51 fX12_13 ob_145 (by decide) rfl rfl ?_
    refine r_sipush (x := 350) dX12_span_54 (by decide +kernel) (by decide) ?_
    refine r_iconst (x := 3) dX12_span_57 rfl (by decide) ?_
    refine r_iload dX12_span_58 rfl ?_
    obtain ⟨s24, V⟩ := V
    refine r_imul dX12_span_60 s24 ?_
    obtain ⟨s25, V⟩ := V
    refine r_iadd dX12_span_61 s25 ?_
    obtain ⟨s26, V⟩ := V
    obtain ⟨s27, V⟩ := V
    refine r_iald dX12_span_62 ob_147 s26 s27 ?_
    refine r_aload_n dX12_span_63 rfl rfl ?_
    refine r_getR (b := 147) dX12_span_64 fX12_13 ob_145 (by decide) rfl rfl ?_
    refine r_iload_n dX12_span_67 rfl rfl ?_
    refine r_iconst (x := 3) dX12_span_68 rfl (by decide) ?_
    obtain ⟨s28, V⟩ := V
    refine r_iadd dX12_span_69 s28 ?_
    obtain ⟨s29, V⟩ := V
    obtain ⟨s30, V⟩ := V
    refine r_iald dX12_span_70 ob_147 s29 s30 ?_
    have K : ∀ z32 : Int, z32 = (if n 147 (350 + (3 * x5)) ≠ n 147 (x3 + 3) then 0 else 1) → Rn w mX12_span (d + 1) G Q 79 [(0, vr 145), (2, vi x2), (3, vi x3), (5, vi x5)] [vi z32, vi x4] (B0, n) := by
      intro z32 ez32
      have V := V z32 ez32
      obtain ⟨s33, V⟩ := V
      refine r_iadd dX12_span_79 s33 ?_
      refine r_istore (ls' := [(0, vr 145), (2, vi x2), (3, vi x3), (4, vi (x4 + z32)), (5, vi x5)]) dX12_span_80 (by decide) rfl ?_
      obtain ⟨s34, V⟩ := V
      refine r_iinc (y := x5 + 1) (ls' := [(0, vr 145), (2, vi x2), (3, vi x3), (4, vi (x4 + z32)), (5, vi (x5 + 1))]) dX12_span_82 rfl rfl s34 (by decide) rfl ?_
      refine r_goto (tgt := 37) dX12_span_85 (by decide) ?_
      exact V
    refine r_jne (tgt := 78) dX12_span_71 (by decide) (fun c31 => ?_) (fun c31 => ?_)
    · refine r_iconst (x := 0) dX12_span_78 rfl (by decide) ?_
      refine r_pick [0, 1, 2, 4] (ls' := [(0, vr 145), (2, vi x2), (3, vi x3), (5, vi x5)]) rfl ?_
      exact K 0 (by first | rfl | (simp only [if_pos c31]))
    · refine r_iconst (x := 1) dX12_span_74 rfl (by decide) ?_
      refine r_goto (tgt := 79) dX12_span_75 (by decide) ?_
      refine r_pick [0, 1, 2, 4] (ls' := [(0, vr 145), (2, vi x2), (3, vi x3), (5, vi x5)]) rfl ?_
      exact K 1 (by first | rfl | (simp only [if_neg (show ¬ (n 147 (350 + (3 * x5)) ≠ n 147 (x3 + 3)) from not_not_intro c31)]))

theorem gX12_span_104 {w : WD} {d : Nat} {G : GM} {Q : Option AV → Hp → Prop} {n : NM} {x2 x3 x4 x5 x6 x7 x8 : Int}
    (V :
    ((n 147 4 ≤ x8 →
      ((x6 ≠ (-1) →
        ((x2 ≠ 0 →
          Q (some (vi x7)) (B0, n)) ∧
        (x2 = 0 →
          Q (some (vi x6)) (B0, n)))) ∧
      (x6 = (-1) →
        (inI (x3 + 5)) ∧
        (0 ≤ x3 + 5) ∧
        (x3 + 5 < 1800) ∧
        (inI ((n 147 (x3 + 5)) * 100)) ∧
        (0 ≤ (n 147 (x3 + 5)) * 100) ∧
        (0 < x5) ∧
        Q (some (vi (((n 147 (x3 + 5)) * 100) / x5))) (B0, n)))) ∧
    (x8 < n 147 4 →
      ((x4 = 0 →
        Rn w mX12_span d G Q 144 [(0, vr 145), (2, vi x2), (3, vi x3), (4, vi x4), (5, vi x5), (6, vi x6), (7, vi x7), (8, vi x8)] [] (B0, n)) ∧
      (x4 ≠ 0 →
        (inI (3 * x8)) ∧
        (inI (350 + (3 * x8))) ∧
        (0 ≤ 350 + (3 * x8)) ∧
        (350 + (3 * x8) < 1800) ∧
        (inI (x3 + 3)) ∧
        (0 ≤ x3 + 3) ∧
        (x3 + 3 < 1800) ∧
        (n 147 (350 + (3 * x8)) = n 147 (x3 + 3) → inI (x3 + 5)) ∧
        (n 147 (350 + (3 * x8)) = n 147 (x3 + 3) → 0 ≤ x3 + 5) ∧
        (n 147 (350 + (3 * x8)) = n 147 (x3 + 3) → x3 + 5 < 1800) ∧
        (n 147 (350 + (3 * x8)) = n 147 (x3 + 3) → inI ((n 147 (x3 + 5)) * 100)) ∧
        (n 147 (350 + (3 * x8)) = n 147 (x3 + 3) → inI (3 * x8)) ∧
        (n 147 (350 + (3 * x8)) = n 147 (x3 + 3) → inI (350 + (3 * x8))) ∧
        (n 147 (350 + (3 * x8)) = n 147 (x3 + 3) → inI ((350 + (3 * x8)) + 1)) ∧
        (n 147 (350 + (3 * x8)) = n 147 (x3 + 3) → 0 ≤ (350 + (3 * x8)) + 1) ∧
        (n 147 (350 + (3 * x8)) = n 147 (x3 + 3) → (350 + (3 * x8)) + 1 < 1800) ∧
        (n 147 (350 + (3 * x8)) = n 147 (x3 + 3) → inI (((n 147 (x3 + 5)) * 100) * (n 147 ((350 + (3 * x8)) + 1)))) ∧
        (n 147 (350 + (3 * x8)) = n 147 (x3 + 3) → inI (3 * x8)) ∧
        (n 147 (350 + (3 * x8)) = n 147 (x3 + 3) → inI (350 + (3 * x8))) ∧
        (n 147 (350 + (3 * x8)) = n 147 (x3 + 3) → inI ((350 + (3 * x8)) + 2)) ∧
        (n 147 (350 + (3 * x8)) = n 147 (x3 + 3) → 0 ≤ (350 + (3 * x8)) + 2) ∧
        (n 147 (350 + (3 * x8)) = n 147 (x3 + 3) → (350 + (3 * x8)) + 2 < 1800) ∧
        (n 147 (350 + (3 * x8)) = n 147 (x3 + 3) → inI (x5 * (n 147 ((350 + (3 * x8)) + 2)))) ∧
        (n 147 (350 + (3 * x8)) = n 147 (x3 + 3) → 0 ≤ ((n 147 (x3 + 5)) * 100) * (n 147 ((350 + (3 * x8)) + 1))) ∧
        (n 147 (350 + (3 * x8)) = n 147 (x3 + 3) → 0 < x5 * (n 147 ((350 + (3 * x8)) + 2))) ∧
        (∀ z62 z63 : Int, z62 = (if n 147 (350 + (3 * x8)) ≠ n 147 (x3 + 3) then x6 else (if x6 = (-1) then (((n 147 (x3 + 5)) * 100) * (n 147 ((350 + (3 * x8)) + 1))) / (x5 * (n 147 ((350 + (3 * x8)) + 2))) else (if x6 ≤ (((n 147 (x3 + 5)) * 100) * (n 147 ((350 + (3 * x8)) + 1))) / (x5 * (n 147 ((350 + (3 * x8)) + 2))) then x6 else (((n 147 (x3 + 5)) * 100) * (n 147 ((350 + (3 * x8)) + 1))) / (x5 * (n 147 ((350 + (3 * x8)) + 2)))))) → z63 = (if n 147 (350 + (3 * x8)) ≠ n 147 (x3 + 3) then x7 else (if x6 = (-1) then (if (((n 147 (x3 + 5)) * 100) * (n 147 ((350 + (3 * x8)) + 1))) / (x5 * (n 147 ((350 + (3 * x8)) + 2))) ≤ x7 then x7 else (((n 147 (x3 + 5)) * 100) * (n 147 ((350 + (3 * x8)) + 1))) / (x5 * (n 147 ((350 + (3 * x8)) + 2)))) else (if x6 ≤ (((n 147 (x3 + 5)) * 100) * (n 147 ((350 + (3 * x8)) + 1))) / (x5 * (n 147 ((350 + (3 * x8)) + 2))) then (if (((n 147 (x3 + 5)) * 100) * (n 147 ((350 + (3 * x8)) + 1))) / (x5 * (n 147 ((350 + (3 * x8)) + 2))) ≤ x7 then x7 else (((n 147 (x3 + 5)) * 100) * (n 147 ((350 + (3 * x8)) + 1))) / (x5 * (n 147 ((350 + (3 * x8)) + 2)))) else (if (((n 147 (x3 + 5)) * 100) * (n 147 ((350 + (3 * x8)) + 1))) / (x5 * (n 147 ((350 + (3 * x8)) + 2))) ≤ x7 then x7 else (((n 147 (x3 + 5)) * 100) * (n 147 ((350 + (3 * x8)) + 1))) / (x5 * (n 147 ((350 + (3 * x8)) + 2))))))) → 
        (inI (x8 + 1)) ∧
        Rn w mX12_span d G Q 104 [(0, vr 145), (2, vi x2), (3, vi x3), (4, vi x4), (5, vi x5), (6, vi z62), (7, vi z63), (8, vi (x8 + 1))] [] (B0, n))))))) :
    Rn w mX12_span d G Q 104 [(0, vr 145), (2, vi x2), (3, vi x3), (4, vi x4), (5, vi x5), (6, vi x6), (7, vi x7), (8, vi x8)] [] (B0, n) := by
  refine r_iload dX12_span_104 rfl ?_
  refine r_aload_n dX12_span_106 rfl rfl ?_
  refine r_getR (b := 147) dX12_span_107 fX12_13 ob_145 (by decide) rfl rfl ?_
  refine r_iconst (x := 4) dX12_span_110 rfl (by decide) ?_
  refine r_iald dX12_span_111 ob_147 (by decide) (by decide) ?_
  obtain ⟨V1, V2⟩ := V
  refine r_jge (tgt := 236) dX12_span_112 (by decide) (fun c21 => ?_) (fun c21 => ?_)
  · have V := V1 c21
    refine r_iload dX12_span_236 rfl ?_
    refine r_iconst (x := -1) dX12_span_238 rfl (by decide) ?_
    obtain ⟨V1, V2⟩ := V
    refine r_jne (tgt := 259) dX12_span_239 (by decide) (fun c22 => ?_) (fun c22 => ?_)
    · have V := V1 c22
      refine r_iload_n dX12_span_259 rfl rfl ?_
      obtain ⟨V1, V2⟩ := V
      refine r_zne (tgt := 268) dX12_span_260 (by decide) (fun c23 => ?_) (fun c23 => ?_)
      · have V := V1 c23
        refine r_iload dX12_span_268 rfl ?_
        exact r_iret dX12_span_270 rfl V
      · have V := V2 c23
        refine r_iload dX12_span_263 rfl ?_
        refine r_goto (tgt := 270) dX12_span_265 (by decide) ?_
        exact r_iret dX12_span_270 rfl V
    · have V := V2 c22
      refine r_aload_n dX12_span_242 rfl rfl ?_
      refine r_getR (b := 147) dX12_span_243 fX12_13 ob_145 (by decide) rfl rfl ?_
      refine r_iload_n dX12_span_246 rfl rfl ?_
      refine r_iconst (x := 5) dX12_span_247 rfl (by decide) ?_
      obtain ⟨s24, V⟩ := V
      refine r_iadd dX12_span_248 s24 ?_
      obtain ⟨s25, V⟩ := V
      obtain ⟨s26, V⟩ := V
      refine r_iald dX12_span_249 ob_147 s25 s26 ?_
      refine r_bipush (x := 100) dX12_span_250 (by decide +kernel) (by decide) ?_
      obtain ⟨s27, V⟩ := V
      refine r_imul dX12_span_252 s27 ?_
      refine r_iload dX12_span_253 rfl ?_
      obtain ⟨s28, V⟩ := V
      obtain ⟨s29, V⟩ := V
      refine r_idiv dX12_span_255 s28 s29 ?_
      refine r_goto (tgt := 270) dX12_span_256 (by decide) ?_
      exact r_iret dX12_span_270 rfl V
  · have V := V2 c21
    refine r_iload dX12_span_115 rfl ?_
    obtain ⟨V1, V2⟩ := V
    refine r_zeq (tgt := 144) dX12_span_117 (by decide) (fun c30 => ?_) (fun c30 => ?_)
    · have V := V1 c30
      exact V
    · have V := V2 c30
      refine r_aload_n dX12_span_120 rfl rfl ?_
      refine r_getR (b := 147) dX12_span_121 fX12_13 ob_145 (by decide) rfl rfl ?_
      refine r_sipush (x := 350) dX12_span_124 (by decide +kernel) (by decide) ?_
      refine r_iconst (x := 3) dX12_span_127 rfl (by decide) ?_
      refine r_iload dX12_span_128 rfl ?_
      obtain ⟨s31, V⟩ := V
      refine r_imul dX12_span_130 s31 ?_
      obtain ⟨s32, V⟩ := V
      refine r_iadd dX12_span_131 s32 ?_
      obtain ⟨s33, V⟩ := V
      obtain ⟨s34, V⟩ := V
      refine r_iald dX12_span_132 ob_147 s33 s34 ?_
      refine r_aload_n dX12_span_133 rfl rfl ?_
      refine r_getR (b := 147) dX12_span_134 fX12_13 ob_145 (by decide) rfl rfl ?_
      refine r_iload_n dX12_span_137 rfl rfl ?_
      refine r_iconst (x := 3) dX12_span_138 rfl (by decide) ?_
      obtain ⟨s35, V⟩ := V
      refine r_iadd dX12_span_139 s35 ?_
      obtain ⟨s36, V⟩ := V
      obtain ⟨s37, V⟩ := V
      refine r_iald dX12_span_140 ob_147 s36 s37 ?_
      obtain ⟨s39, V⟩ := V
      obtain ⟨s40, V⟩ := V
      obtain ⟨s41, V⟩ := V
      obtain ⟨s42, V⟩ := V
      obtain ⟨s43, V⟩ := V
      obtain ⟨s44, V⟩ := V
      obtain ⟨s45, V⟩ := V
      obtain ⟨s46, V⟩ := V
      obtain ⟨s47, V⟩ := V
      obtain ⟨s48, V⟩ := V
      obtain ⟨s49, V⟩ := V
      obtain ⟨s50, V⟩ := V
      obtain ⟨s51, V⟩ := V
      obtain ⟨s52, V⟩ := V
      obtain ⟨s53, V⟩ := V
      obtain ⟨s54, V⟩ := V
      obtain ⟨s55, V⟩ := V
      obtain ⟨s56, V⟩ := V
      have K : ∀ z62 z63 : Int, z62 = (if n 147 (350 + (3 * x8)) ≠ n 147 (x3 + 3) then x6 else (if x6 = (-1) then (((n 147 (x3 + 5)) * 100) * (n 147 ((350 + (3 * x8)) + 1))) / (x5 * (n 147 ((350 + (3 * x8)) + 2))) else (if x6 ≤ (((n 147 (x3 + 5)) * 100) * (n 147 ((350 + (3 * x8)) + 1))) / (x5 * (n 147 ((350 + (3 * x8)) + 2))) then x6 else (((n 147 (x3 + 5)) * 100) * (n 147 ((350 + (3 * x8)) + 1))) / (x5 * (n 147 ((350 + (3 * x8)) + 2)))))) → z63 = (if n 147 (350 + (3 * x8)) ≠ n 147 (x3 + 3) then x7 else (if x6 = (-1) then (if (((n 147 (x3 + 5)) * 100) * (n 147 ((350 + (3 * x8)) + 1))) / (x5 * (n 147 ((350 + (3 * x8)) + 2))) ≤ x7 then x7 else (((n 147 (x3 + 5)) * 100) * (n 147 ((350 + (3 * x8)) + 1))) / (x5 * (n 147 ((350 + (3 * x8)) + 2)))) else (if x6 ≤ (((n 147 (x3 + 5)) * 100) * (n 147 ((350 + (3 * x8)) + 1))) / (x5 * (n 147 ((350 + (3 * x8)) + 2))) then (if (((n 147 (x3 + 5)) * 100) * (n 147 ((350 + (3 * x8)) + 1))) / (x5 * (n 147 ((350 + (3 * x8)) + 2))) ≤ x7 then x7 else (((n 147 (x3 + 5)) * 100) * (n 147 ((350 + (3 * x8)) + 1))) / (x5 * (n 147 ((350 + (3 * x8)) + 2)))) else (if (((n 147 (x3 + 5)) * 100) * (n 147 ((350 + (3 * x8)) + 1))) / (x5 * (n 147 ((350 + (3 * x8)) + 2))) ≤ x7 then x7 else (((n 147 (x3 + 5)) * 100) * (n 147 ((350 + (3 * x8)) + 1))) / (x5 * (n 147 ((350 + (3 * x8)) + 2))))))) → Rn w mX12_span d G Q 230 [(0, vr 145), (2, vi x2), (3, vi x3), (4, vi x4), (5, vi x5), (6, vi z62), (7, vi z63), (8, vi x8)] [] (B0, n) := by
        intro z62 z63 ez62 ez63
        have V := V z62 z63 ez62 ez63
        obtain ⟨s64, V⟩ := V
        refine r_iinc (y := x8 + 1) (ls' := [(0, vr 145), (2, vi x2), (3, vi x3), (4, vi x4), (5, vi x5), (6, vi z62), (7, vi z63), (8, vi (x8 + 1))]) dX12_span_230 rfl rfl s64 (by decide) rfl ?_
        refine r_goto (tgt := 104) dX12_span_233 (by decide) ?_
        exact V
      refine r_jne (tgt := 230) dX12_span_141 (by decide) (fun c38 => ?_) (fun c38 => ?_)
      · exact K x6 x7 (by first | rfl | (simp only [if_pos c38])) (by first | rfl | (simp only [if_pos c38]))
      · refine r_aload_n dX12_span_144 rfl rfl ?_
        refine r_getR (b := 147) dX12_span_145 fX12_13 ob_145 (by decide) rfl rfl ?_
        refine r_iload_n dX12_span_148 rfl rfl ?_
        refine r_iconst (x := 5) dX12_span_149 rfl (by decide) ?_
        refine r_iadd dX12_span_150 (s39 c38) ?_
        refine r_iald dX12_span_151 ob_147 (s40 c38) (s41 c38) ?_
        refine r_bipush (x := 100) dX12_span_152 (by decide +kernel) (by decide) ?_
        refine r_imul dX12_span_154 (s42 c38) ?_
        refine r_aload_n dX12_span_155 rfl rfl ?_
        refine r_getR (b := 147) dX12_span_156 fX12_13 ob_145 (by decide) rfl rfl ?_
        refine r_sipush (x := 350) dX12_span_159 (by decide +kernel) (by decide) ?_
        refine r_iconst (x := 3) dX12_span_162 rfl (by decide) ?_
        refine r_iload dX12_span_163 rfl ?_
        refine r_imul dX12_span_165 (s43 c38) ?_
        refine r_iadd dX12_span_166 (s44 c38) ?_
        refine r_iconst (x := 1) dX12_span_167 rfl (by decide) ?_
        refine r_iadd dX12_span_168 (s45 c38) ?_
        refine r_iald dX12_span_169 ob_147 (s46 c38) (s47 c38) ?_
        refine r_imul dX12_span_170 (s48 c38) ?_
        refine r_iload dX12_span_171 rfl ?_
        refine r_aload_n dX12_span_173 rfl rfl ?_
        refine r_getR (b := 147) dX12_span_174 fX12_13 ob_145 (by decide) rfl rfl ?_
        refine r_sipush (x := 350) dX12_span_177 (by decide +kernel) (by decide) ?_
        refine r_iconst (x := 3) dX12_span_180 rfl (by decide) ?_
        refine r_iload dX12_span_181 rfl ?_
        refine r_imul dX12_span_183 (s49 c38) ?_
        refine r_iadd dX12_span_184 (s50 c38) ?_
        refine r_iconst (x := 2) dX12_span_185 rfl (by decide) ?_
        refine r_iadd dX12_span_186 (s51 c38) ?_
        refine r_iald dX12_span_187 ob_147 (s52 c38) (s53 c38) ?_
        refine r_imul dX12_span_188 (s54 c38) ?_
        refine r_idiv dX12_span_189 (s55 c38) (s56 c38) ?_
        refine r_istore (ls' := [(0, vr 145), (2, vi x2), (3, vi x3), (4, vi x4), (5, vi x5), (6, vi x6), (7, vi x7), (8, vi x8), (9, vi ((((n 147 (x3 + 5)) * 100) * (n 147 ((350 + (3 * x8)) + 1))) / (x5 * (n 147 ((350 + (3 * x8)) + 2)))))]) dX12_span_190 (by decide) rfl ?_
        refine r_iload dX12_span_192 rfl ?_
        refine r_iconst (x := -1) dX12_span_194 rfl (by decide) ?_
        refine r_jeq (tgt := 205) dX12_span_195 (by decide) (fun c57 => ?_) (fun c57 => ?_)
        · refine r_iload dX12_span_205 rfl ?_
          refine r_goto (tgt := 212) dX12_span_207 (by decide) ?_
          refine r_istore (ls' := [(0, vr 145), (2, vi x2), (3, vi x3), (4, vi x4), (5, vi x5), (6, vi ((((n 147 (x3 + 5)) * 100) * (n 147 ((350 + (3 * x8)) + 1))) / (x5 * (n 147 ((350 + (3 * x8)) + 2))))), (7, vi x7), (8, vi x8), (9, vi ((((n 147 (x3 + 5)) * 100) * (n 147 ((350 + (3 * x8)) + 1))) / (x5 * (n 147 ((350 + (3 * x8)) + 2)))))]) dX12_span_212 (by decide) rfl ?_
          refine r_iload dX12_span_214 rfl ?_
          refine r_iload dX12_span_216 rfl ?_
          refine r_jle (tgt := 226) dX12_span_218 (by decide) (fun c58 => ?_) (fun c58 => ?_)
          · refine r_iload dX12_span_226 rfl ?_
            refine r_istore (ls' := [(0, vr 145), (2, vi x2), (3, vi x3), (4, vi x4), (5, vi x5), (6, vi ((((n 147 (x3 + 5)) * 100) * (n 147 ((350 + (3 * x8)) + 1))) / (x5 * (n 147 ((350 + (3 * x8)) + 2))))), (7, vi x7), (8, vi x8), (9, vi ((((n 147 (x3 + 5)) * 100) * (n 147 ((350 + (3 * x8)) + 1))) / (x5 * (n 147 ((350 + (3 * x8)) + 2)))))]) dX12_span_228 (by decide) rfl ?_
            refine r_pick [0, 1, 2, 3, 4, 5, 6, 7] (ls' := [(0, vr 145), (2, vi x2), (3, vi x3), (4, vi x4), (5, vi x5), (6, vi ((((n 147 (x3 + 5)) * 100) * (n 147 ((350 + (3 * x8)) + 1))) / (x5 * (n 147 ((350 + (3 * x8)) + 2))))), (7, vi x7), (8, vi x8)]) rfl ?_
            exact K ((((n 147 (x3 + 5)) * 100) * (n 147 ((350 + (3 * x8)) + 1))) / (x5 * (n 147 ((350 + (3 * x8)) + 2)))) x7 (by first | rfl | (simp only [if_neg (show ¬ (n 147 (350 + (3 * x8)) ≠ n 147 (x3 + 3)) from not_not_intro c38), if_pos c57, if_pos c58])) (by first | rfl | (simp only [if_neg (show ¬ (n 147 (350 + (3 * x8)) ≠ n 147 (x3 + 3)) from not_not_intro c38), if_pos c57, if_pos c58]))
          · refine r_iload dX12_span_221 rfl ?_
            refine r_goto (tgt := 228) dX12_span_223 (by decide) ?_
            refine r_istore (ls' := [(0, vr 145), (2, vi x2), (3, vi x3), (4, vi x4), (5, vi x5), (6, vi ((((n 147 (x3 + 5)) * 100) * (n 147 ((350 + (3 * x8)) + 1))) / (x5 * (n 147 ((350 + (3 * x8)) + 2))))), (7, vi ((((n 147 (x3 + 5)) * 100) * (n 147 ((350 + (3 * x8)) + 1))) / (x5 * (n 147 ((350 + (3 * x8)) + 2))))), (8, vi x8), (9, vi ((((n 147 (x3 + 5)) * 100) * (n 147 ((350 + (3 * x8)) + 1))) / (x5 * (n 147 ((350 + (3 * x8)) + 2)))))]) dX12_span_228 (by decide) rfl ?_
            refine r_pick [0, 1, 2, 3, 4, 5, 6, 7] (ls' := [(0, vr 145), (2, vi x2), (3, vi x3), (4, vi x4), (5, vi x5), (6, vi ((((n 147 (x3 + 5)) * 100) * (n 147 ((350 + (3 * x8)) + 1))) / (x5 * (n 147 ((350 + (3 * x8)) + 2))))), (7, vi ((((n 147 (x3 + 5)) * 100) * (n 147 ((350 + (3 * x8)) + 1))) / (x5 * (n 147 ((350 + (3 * x8)) + 2))))), (8, vi x8)]) rfl ?_
            exact K ((((n 147 (x3 + 5)) * 100) * (n 147 ((350 + (3 * x8)) + 1))) / (x5 * (n 147 ((350 + (3 * x8)) + 2)))) ((((n 147 (x3 + 5)) * 100) * (n 147 ((350 + (3 * x8)) + 1))) / (x5 * (n 147 ((350 + (3 * x8)) + 2)))) (by first | rfl | (simp only [if_neg (show ¬ (n 147 (350 + (3 * x8)) ≠ n 147 (x3 + 3)) from not_not_intro c38), if_pos c57, if_neg (Int.not_le.mpr c58)])) (by first | rfl | (simp only [if_neg (show ¬ (n 147 (350 + (3 * x8)) ≠ n 147 (x3 + 3)) from not_not_intro c38), if_pos c57, if_neg (Int.not_le.mpr c58)]))
        · refine r_iload dX12_span_198 rfl ?_
          refine r_iload dX12_span_200 rfl ?_
          refine r_jge (tgt := 210) dX12_span_202 (by decide) (fun c59 => ?_) (fun c59 => ?_)
          · refine r_iload dX12_span_210 rfl ?_
            refine r_istore (ls' := [(0, vr 145), (2, vi x2), (3, vi x3), (4, vi x4), (5, vi x5), (6, vi x6), (7, vi x7), (8, vi x8), (9, vi ((((n 147 (x3 + 5)) * 100) * (n 147 ((350 + (3 * x8)) + 1))) / (x5 * (n 147 ((350 + (3 * x8)) + 2)))))]) dX12_span_212 (by decide) rfl ?_
            refine r_iload dX12_span_214 rfl ?_
            refine r_iload dX12_span_216 rfl ?_
            refine r_jle (tgt := 226) dX12_span_218 (by decide) (fun c60 => ?_) (fun c60 => ?_)
            · refine r_iload dX12_span_226 rfl ?_
              refine r_istore (ls' := [(0, vr 145), (2, vi x2), (3, vi x3), (4, vi x4), (5, vi x5), (6, vi x6), (7, vi x7), (8, vi x8), (9, vi ((((n 147 (x3 + 5)) * 100) * (n 147 ((350 + (3 * x8)) + 1))) / (x5 * (n 147 ((350 + (3 * x8)) + 2)))))]) dX12_span_228 (by decide) rfl ?_
              refine r_pick [0, 1, 2, 3, 4, 5, 6, 7] (ls' := [(0, vr 145), (2, vi x2), (3, vi x3), (4, vi x4), (5, vi x5), (6, vi x6), (7, vi x7), (8, vi x8)]) rfl ?_
              exact K x6 x7 (by first | rfl | (simp only [if_neg (show ¬ (n 147 (350 + (3 * x8)) ≠ n 147 (x3 + 3)) from not_not_intro c38), if_neg c57, if_pos c59, if_pos c60])) (by first | rfl | (simp only [if_neg (show ¬ (n 147 (350 + (3 * x8)) ≠ n 147 (x3 + 3)) from not_not_intro c38), if_neg c57, if_pos c59, if_pos c60]))
            · refine r_iload dX12_span_221 rfl ?_
              refine r_goto (tgt := 228) dX12_span_223 (by decide) ?_
              refine r_istore (ls' := [(0, vr 145), (2, vi x2), (3, vi x3), (4, vi x4), (5, vi x5), (6, vi x6), (7, vi ((((n 147 (x3 + 5)) * 100) * (n 147 ((350 + (3 * x8)) + 1))) / (x5 * (n 147 ((350 + (3 * x8)) + 2))))), (8, vi x8), (9, vi ((((n 147 (x3 + 5)) * 100) * (n 147 ((350 + (3 * x8)) + 1))) / (x5 * (n 147 ((350 + (3 * x8)) + 2)))))]) dX12_span_228 (by decide) rfl ?_
              refine r_pick [0, 1, 2, 3, 4, 5, 6, 7] (ls' := [(0, vr 145), (2, vi x2), (3, vi x3), (4, vi x4), (5, vi x5), (6, vi x6), (7, vi ((((n 147 (x3 + 5)) * 100) * (n 147 ((350 + (3 * x8)) + 1))) / (x5 * (n 147 ((350 + (3 * x8)) + 2))))), (8, vi x8)]) rfl ?_
              exact K x6 ((((n 147 (x3 + 5)) * 100) * (n 147 ((350 + (3 * x8)) + 1))) / (x5 * (n 147 ((350 + (3 * x8)) + 2)))) (by first | rfl | (simp only [if_neg (show ¬ (n 147 (350 + (3 * x8)) ≠ n 147 (x3 + 3)) from not_not_intro c38), if_neg c57, if_pos c59, if_neg (Int.not_le.mpr c60)])) (by first | rfl | (simp only [if_neg (show ¬ (n 147 (350 + (3 * x8)) ≠ n 147 (x3 + 3)) from not_not_intro c38), if_neg c57, if_pos c59, if_neg (Int.not_le.mpr c60)]))
          · refine r_iload dX12_span_205 rfl ?_
            refine r_goto (tgt := 212) dX12_span_207 (by decide) ?_
            refine r_istore (ls' := [(0, vr 145), (2, vi x2), (3, vi x3), (4, vi x4), (5, vi x5), (6, vi ((((n 147 (x3 + 5)) * 100) * (n 147 ((350 + (3 * x8)) + 1))) / (x5 * (n 147 ((350 + (3 * x8)) + 2))))), (7, vi x7), (8, vi x8), (9, vi ((((n 147 (x3 + 5)) * 100) * (n 147 ((350 + (3 * x8)) + 1))) / (x5 * (n 147 ((350 + (3 * x8)) + 2)))))]) dX12_span_212 (by decide) rfl ?_
            refine r_iload dX12_span_214 rfl ?_
            refine r_iload dX12_span_216 rfl ?_
            refine r_jle (tgt := 226) dX12_span_218 (by decide) (fun c61 => ?_) (fun c61 => ?_)
            · refine r_iload dX12_span_226 rfl ?_
              refine r_istore (ls' := [(0, vr 145), (2, vi x2), (3, vi x3), (4, vi x4), (5, vi x5), (6, vi ((((n 147 (x3 + 5)) * 100) * (n 147 ((350 + (3 * x8)) + 1))) / (x5 * (n 147 ((350 + (3 * x8)) + 2))))), (7, vi x7), (8, vi x8), (9, vi ((((n 147 (x3 + 5)) * 100) * (n 147 ((350 + (3 * x8)) + 1))) / (x5 * (n 147 ((350 + (3 * x8)) + 2)))))]) dX12_span_228 (by decide) rfl ?_
              refine r_pick [0, 1, 2, 3, 4, 5, 6, 7] (ls' := [(0, vr 145), (2, vi x2), (3, vi x3), (4, vi x4), (5, vi x5), (6, vi ((((n 147 (x3 + 5)) * 100) * (n 147 ((350 + (3 * x8)) + 1))) / (x5 * (n 147 ((350 + (3 * x8)) + 2))))), (7, vi x7), (8, vi x8)]) rfl ?_
              exact K ((((n 147 (x3 + 5)) * 100) * (n 147 ((350 + (3 * x8)) + 1))) / (x5 * (n 147 ((350 + (3 * x8)) + 2)))) x7 (by first | rfl | (simp only [if_neg (show ¬ (n 147 (350 + (3 * x8)) ≠ n 147 (x3 + 3)) from not_not_intro c38), if_neg c57, if_neg (Int.not_le.mpr c59), if_pos c61])) (by first | rfl | (simp only [if_neg (show ¬ (n 147 (350 + (3 * x8)) ≠ n 147 (x3 + 3)) from not_not_intro c38), if_neg c57, if_neg (Int.not_le.mpr c59), if_pos c61]))
            · refine r_iload dX12_span_221 rfl ?_
              refine r_goto (tgt := 228) dX12_span_223 (by decide) ?_
              refine r_istore (ls' := [(0, vr 145), (2, vi x2), (3, vi x3), (4, vi x4), (5, vi x5), (6, vi ((((n 147 (x3 + 5)) * 100) * (n 147 ((350 + (3 * x8)) + 1))) / (x5 * (n 147 ((350 + (3 * x8)) + 2))))), (7, vi ((((n 147 (x3 + 5)) * 100) * (n 147 ((350 + (3 * x8)) + 1))) / (x5 * (n 147 ((350 + (3 * x8)) + 2))))), (8, vi x8), (9, vi ((((n 147 (x3 + 5)) * 100) * (n 147 ((350 + (3 * x8)) + 1))) / (x5 * (n 147 ((350 + (3 * x8)) + 2)))))]) dX12_span_228 (by decide) rfl ?_
              refine r_pick [0, 1, 2, 3, 4, 5, 6, 7] (ls' := [(0, vr 145), (2, vi x2), (3, vi x3), (4, vi x4), (5, vi x5), (6, vi ((((n 147 (x3 + 5)) * 100) * (n 147 ((350 + (3 * x8)) + 1))) / (x5 * (n 147 ((350 + (3 * x8)) + 2))))), (7, vi ((((n 147 (x3 + 5)) * 100) * (n 147 ((350 + (3 * x8)) + 1))) / (x5 * (n 147 ((350 + (3 * x8)) + 2))))), (8, vi x8)]) rfl ?_
              exact K ((((n 147 (x3 + 5)) * 100) * (n 147 ((350 + (3 * x8)) + 1))) / (x5 * (n 147 ((350 + (3 * x8)) + 2)))) ((((n 147 (x3 + 5)) * 100) * (n 147 ((350 + (3 * x8)) + 1))) / (x5 * (n 147 ((350 + (3 * x8)) + 2)))) (by first | rfl | (simp only [if_neg (show ¬ (n 147 (350 + (3 * x8)) ≠ n 147 (x3 + 3)) from not_not_intro c38), if_neg c57, if_neg (Int.not_le.mpr c59), if_neg (Int.not_le.mpr c61)])) (by first | rfl | (simp only [if_neg (show ¬ (n 147 (350 + (3 * x8)) ≠ n 147 (x3 + 3)) from not_not_intro c38), if_neg c57, if_neg (Int.not_le.mpr c59), if_neg (Int.not_le.mpr c61)]))

theorem gX12_span_144 {w : WD} {d : Nat} {G : GM} {Q : Option AV → Hp → Prop} {n : NM} {x2 x3 x4 x5 x6 x7 x8 : Int}
    (V :
    (inI (x3 + 5)) ∧
    (0 ≤ x3 + 5) ∧
    (x3 + 5 < 1800) ∧
    (inI ((n 147 (x3 + 5)) * 100)) ∧
    (inI (3 * x8)) ∧
    (inI (350 + (3 * x8))) ∧
    (inI ((350 + (3 * x8)) + 1)) ∧
    (0 ≤ (350 + (3 * x8)) + 1) ∧
    ((350 + (3 * x8)) + 1 < 1800) ∧
    (inI (((n 147 (x3 + 5)) * 100) * (n 147 ((350 + (3 * x8)) + 1)))) ∧
    (inI (3 * x8)) ∧
    (inI (350 + (3 * x8))) ∧
    (inI ((350 + (3 * x8)) + 2)) ∧
    (0 ≤ (350 + (3 * x8)) + 2) ∧
    ((350 + (3 * x8)) + 2 < 1800) ∧
    (inI (x5 * (n 147 ((350 + (3 * x8)) + 2)))) ∧
    (0 ≤ ((n 147 (x3 + 5)) * 100) * (n 147 ((350 + (3 * x8)) + 1))) ∧
    (0 < x5 * (n 147 ((350 + (3 * x8)) + 2))) ∧
    (∀ z41 : Int, z41 = (if x6 = (-1) then (((n 147 (x3 + 5)) * 100) * (n 147 ((350 + (3 * x8)) + 1))) / (x5 * (n 147 ((350 + (3 * x8)) + 2))) else (if x6 ≤ (((n 147 (x3 + 5)) * 100) * (n 147 ((350 + (3 * x8)) + 1))) / (x5 * (n 147 ((350 + (3 * x8)) + 2))) then x6 else (((n 147 (x3 + 5)) * 100) * (n 147 ((350 + (3 * x8)) + 1))) / (x5 * (n 147 ((350 + (3 * x8)) + 2))))) → 
    (∀ z43 : Int, z43 = (if (((n 147 (x3 + 5)) * 100) * (n 147 ((350 + (3 * x8)) + 1))) / (x5 * (n 147 ((350 + (3 * x8)) + 2))) ≤ x7 then x7 else (((n 147 (x3 + 5)) * 100) * (n 147 ((350 + (3 * x8)) + 1))) / (x5 * (n 147 ((350 + (3 * x8)) + 2)))) → 
    (inI (x8 + 1)) ∧
    Rn w mX12_span d G Q 104 [(0, vr 145), (2, vi x2), (3, vi x3), (4, vi x4), (5, vi x5), (6, vi z41), (7, vi z43), (8, vi (x8 + 1))] [] (B0, n)))) :
    Rn w mX12_span d G Q 144 [(0, vr 145), (2, vi x2), (3, vi x3), (4, vi x4), (5, vi x5), (6, vi x6), (7, vi x7), (8, vi x8)] [] (B0, n) := by
  refine r_aload_n dX12_span_144 rfl rfl ?_
  refine r_getR (b := 147) dX12_span_145 fX12_13 ob_145 (by decide) rfl rfl ?_
  refine r_iload_n dX12_span_148 rfl rfl ?_
  refine r_iconst (x := 5) dX12_span_149 rfl (by decide) ?_
  obtain ⟨s21, V⟩ := V
  refine r_iadd dX12_span_150 s21 ?_
  obtain ⟨s22, V⟩ := V
  obtain ⟨s23, V⟩ := V
  refine r_iald dX12_span_151 ob_147 s22 s23 ?_
  refine r_bipush (x := 100) dX12_span_152 (by decide +kernel) (by decide) ?_
  obtain ⟨s24, V⟩ := V
  refine r_imul dX12_span_154 s24 ?_
  refine r_aload_n dX12_span_155 rfl rfl ?_
  refine r_getR (b := 147) dX12_span_156 fX12_13 ob_145 (by decide) rfl rfl ?_
  refine r_sipush (x := 350) dX12_span_159 (by decide +kernel) (by decide) ?_
  refine r_iconst (x := 3) dX12_span_162 rfl (by decide) ?_
  refine r_iload dX12_span_163 rfl ?_
  obtain ⟨s25, V⟩ := V
  refine r_imul dX12_span_165 s25 ?_
  obtain ⟨s26, V⟩ := V
  refine r_iadd dX12_span_166 s26 ?_
  refine r_iconst (x := 1) dX12_span_167 rfl (by decide) ?_
  obtain ⟨s27, V⟩ := V
  refine r_iadd dX12_span_168 s27 ?_
  obtain ⟨s28, V⟩ := V
  obtain ⟨s29, V⟩ := V
  refine r_iald dX12_span_169 ob_147 s28 s29 ?_
  obtain ⟨s30, V⟩ := V
  refine r_imul dX12_span_170 s30 ?_
  refine r_iload dX12_span_171 rfl ?_
  refine r_aload_n dX12_span_173 rfl rfl ?_
  refine r_getR (b := 147) dX12_span_174 fX12_13 ob_145 (by decide) rfl rfl ?_
  refine r_sipush (x := 350) dX12_span_177 (by decide +kernel) (by decide) ?_
  refine r_iconst (x := 3) dX12_span_180 rfl (by decide) ?_
  refine r_iload dX12_span_181 rfl ?_
  obtain ⟨s31, V⟩ := V
  refine r_imul dX12_span_183 s31 ?_
  obtain ⟨s32, V⟩ := V
  refine r_iadd dX12_span_184 s32 ?_
  refine r_iconst (x := 2) dX12_span_185 rfl (by decide) ?_
  obtain ⟨s33, V⟩ := V
  refine r_iadd dX12_span_186 s33 ?_
  obtain ⟨s34, V⟩ := V
  obtain ⟨s35, V⟩ := V
  refine r_iald dX12_span_187 ob_147 s34 s35 ?_
  obtain ⟨s36, V⟩ := V
  refine r_imul dX12_span_188 s36 ?_
  obtain ⟨s37, V⟩ := V
  obtain ⟨s38, V⟩ := V
  refine r_idiv dX12_span_189 s37 s38 ?_
  refine r_istore (ls' := [(0, vr 145), (2, vi x2), (3, vi x3), (4, vi x4), (5, vi x5), (6, vi x6), (7, vi x7), (8, vi x8), (9, vi ((((n 147 (x3 + 5)) * 100) * (n 147 ((350 + (3 * x8)) + 1))) / (x5 * (n 147 ((350 + (3 * x8)) + 2)))))]) dX12_span_190 (by decide) rfl ?_
  refine r_iload dX12_span_192 rfl ?_
  refine r_iconst (x := -1) dX12_span_194 rfl (by decide) ?_
  have K : ∀ z41 : Int, z41 = (if x6 = (-1) then (((n 147 (x3 + 5)) * 100) * (n 147 ((350 + (3 * x8)) + 1))) / (x5 * (n 147 ((350 + (3 * x8)) + 2))) else (if x6 ≤ (((n 147 (x3 + 5)) * 100) * (n 147 ((350 + (3 * x8)) + 1))) / (x5 * (n 147 ((350 + (3 * x8)) + 2))) then x6 else (((n 147 (x3 + 5)) * 100) * (n 147 ((350 + (3 * x8)) + 1))) / (x5 * (n 147 ((350 + (3 * x8)) + 2))))) → Rn w mX12_span d G Q 212 [(0, vr 145), (2, vi x2), (3, vi x3), (4, vi x4), (5, vi x5), (7, vi x7), (8, vi x8), (9, vi ((((n 147 (x3 + 5)) * 100) * (n 147 ((350 + (3 * x8)) + 1))) / (x5 * (n 147 ((350 + (3 * x8)) + 2)))))] [vi z41] (B0, n) := by
    intro z41 ez41
    have V := V z41 ez41
    refine r_istore (ls' := [(0, vr 145), (2, vi x2), (3, vi x3), (4, vi x4), (5, vi x5), (6, vi z41), (7, vi x7), (8, vi x8), (9, vi ((((n 147 (x3 + 5)) * 100) * (n 147 ((350 + (3 * x8)) + 1))) / (x5 * (n 147 ((350 + (3 * x8)) + 2)))))]) dX12_span_212 (by decide) rfl ?_
    refine r_iload dX12_span_214 rfl ?_
    refine r_iload dX12_span_216 rfl ?_
    have K : ∀ z43 : Int, z43 = (if (((n 147 (x3 + 5)) * 100) * (n 147 ((350 + (3 * x8)) + 1))) / (x5 * (n 147 ((350 + (3 * x8)) + 2))) ≤ x7 then x7 else (((n 147 (x3 + 5)) * 100) * (n 147 ((350 + (3 * x8)) + 1))) / (x5 * (n 147 ((350 + (3 * x8)) + 2)))) → Rn w mX12_span d G Q 228 [(0, vr 145), (2, vi x2), (3, vi x3), (4, vi x4), (5, vi x5), (6, vi z41), (8, vi x8)] [vi z43] (B0, n) := by
      intro z43 ez43
      have V := V z43 ez43
      refine r_istore (ls' := [(0, vr 145), (2, vi x2), (3, vi x3), (4, vi x4), (5, vi x5), (6, vi z41), (7, vi z43), (8, vi x8)]) dX12_span_228 (by decide) rfl ?_
      obtain ⟨s44, V⟩ := V
      refine r_iinc (y := x8 + 1) (ls' := [(0, vr 145), (2, vi x2), (3, vi x3), (4, vi x4), (5, vi x5), (6, vi z41), (7, vi z43), (8, vi (x8 + 1))]) dX12_span_230 rfl rfl s44 (by decide) rfl ?_
      refine r_goto (tgt := 104) dX12_span_233 (by decide) ?_
      exact V
    refine r_jle (tgt := 226) dX12_span_218 (by decide) (fun c42 => ?_) (fun c42 => ?_)
    · refine r_iload dX12_span_226 rfl ?_
      refine r_pick [0, 1, 2, 3, 4, 5, 7] (ls' := [(0, vr 145), (2, vi x2), (3, vi x3), (4, vi x4), (5, vi x5), (6, vi z41), (8, vi x8)]) rfl ?_
      exact K x7 (by first | rfl | (simp only [if_pos c42]))
    · refine r_iload dX12_span_221 rfl ?_
      refine r_goto (tgt := 228) dX12_span_223 (by decide) ?_
      refine r_pick [0, 1, 2, 3, 4, 5, 7] (ls' := [(0, vr 145), (2, vi x2), (3, vi x3), (4, vi x4), (5, vi x5), (6, vi z41), (8, vi x8)]) rfl ?_
      exact K ((((n 147 (x3 + 5)) * 100) * (n 147 ((350 + (3 * x8)) + 1))) / (x5 * (n 147 ((350 + (3 * x8)) + 2)))) (by first | rfl | (simp only [if_neg (Int.not_le.mpr c42)]))
  refine r_jeq (tgt := 205) dX12_span_195 (by decide) (fun c39 => ?_) (fun c39 => ?_)
  · refine r_iload dX12_span_205 rfl ?_
    refine r_goto (tgt := 212) dX12_span_207 (by decide) ?_
    refine r_pick [0, 1, 2, 3, 4, 6, 7, 8] (ls' := [(0, vr 145), (2, vi x2), (3, vi x3), (4, vi x4), (5, vi x5), (7, vi x7), (8, vi x8), (9, vi ((((n 147 (x3 + 5)) * 100) * (n 147 ((350 + (3 * x8)) + 1))) / (x5 * (n 147 ((350 + (3 * x8)) + 2)))))]) rfl ?_
    exact K ((((n 147 (x3 + 5)) * 100) * (n 147 ((350 + (3 * x8)) + 1))) / (x5 * (n 147 ((350 + (3 * x8)) + 2)))) (by first | rfl | (simp only [if_pos c39]))
  · refine r_iload dX12_span_198 rfl ?_
    refine r_iload dX12_span_200 rfl ?_
    refine r_jge (tgt := 210) dX12_span_202 (by decide) (fun c40 => ?_) (fun c40 => ?_)
    · refine r_iload dX12_span_210 rfl ?_
      refine r_pick [0, 1, 2, 3, 4, 6, 7, 8] (ls' := [(0, vr 145), (2, vi x2), (3, vi x3), (4, vi x4), (5, vi x5), (7, vi x7), (8, vi x8), (9, vi ((((n 147 (x3 + 5)) * 100) * (n 147 ((350 + (3 * x8)) + 1))) / (x5 * (n 147 ((350 + (3 * x8)) + 2)))))]) rfl ?_
      exact K x6 (by first | rfl | (simp only [if_neg c39, if_pos c40]))
    · refine r_iload dX12_span_205 rfl ?_
      refine r_goto (tgt := 212) dX12_span_207 (by decide) ?_
      refine r_pick [0, 1, 2, 3, 4, 6, 7, 8] (ls' := [(0, vr 145), (2, vi x2), (3, vi x3), (4, vi x4), (5, vi x5), (7, vi x7), (8, vi x8), (9, vi ((((n 147 (x3 + 5)) * 100) * (n 147 ((350 + (3 * x8)) + 1))) / (x5 * (n 147 ((350 + (3 * x8)) + 2)))))]) rfl ?_
      exact K ((((n 147 (x3 + 5)) * 100) * (n 147 ((350 + (3 * x8)) + 1))) / (x5 * (n 147 ((350 + (3 * x8)) + 2)))) (by first | rfl | (simp only [if_neg c39, if_neg (Int.not_le.mpr c40)]))

theorem gX12_most_0 {w : WD} {d : Nat} {G : GM} {Q : Option AV → Hp → Prop} {n : NM} {x1 : Int}
    (V :
    (Ev w d 0 0 mX12_in [vl x1, vl 0, vl 4] (B0, upn n 145 0 0) (fun r h' => ∃ (x22 : Int) (n21 : NM), r = some (vi x22) ∧ h' = (B0, n21) ∧ 
      ((x22 ≠ 0 →
        Rn w mX12_most (d + 1) G Q 23 [(0, vr 145), (1, vi x1), (2, vi 0), (3, vi 0)] [] (B0, n21)) ∧
      (x22 = 0 →
        Q (some (vi (-1))) (B0, n21)))))) :
    Rn w mX12_most (d + 1) G Q 0 [(0, vr 145), (1, vi x1)] [] (B0, n) := by
  refine r_aload_n dX12_most_0 rfl rfl ?_
  refine r_iconst (x := 0) dX12_most_1 rfl (by decide) ?_
  refine r_putI (fi := 0) (h' := (B0, upn n 145 0 0)) dX12_most_2 pX12_76 ob_145 (by decide) rfl rfl rfl ?_
  refine r_iload_n dX12_most_5 rfl rfl ?_
  refine r_i2l dX12_most_6 ?_
  refine r_lconst (x := 0) dX12_most_7 rfl (by decide) ?_
  refine r_ldc2 (x := 4) dX12_most_8 qX12_364 (by decide) ?_
  refine r_callS (args := [vl x1, vl 0, vl 4]) dX12_most_11 kX12_82 rfl rfl (Nat.le_of_ble_eq_true rfl) cap0 (Ev.mono V ?_)
  rintro r h' ⟨x22, n21, rfl, rfl, V⟩
  show Rn w mX12_most (d + 1) G Q 14 [(0, vr 145), (1, vi x1)] [vi x22] (B0, n21)
  obtain ⟨V1, V2⟩ := V
  refine r_zne (tgt := 19) dX12_most_14 (by decide) (fun c23 => ?_) (fun c23 => ?_)
  · have V := V1 c23
    refine r_iconst (x := 0) dX12_most_19 rfl (by decide) ?_
    refine r_istore_n (ls' := [(0, vr 145), (1, vi x1), (2, vi 0)]) dX12_most_20 rfl (by decide) rfl ?_
    refine r_iconst (x := 0) dX12_most_21 rfl (by decide) ?_
    refine r_istore_n (ls' := [(0, vr 145), (1, vi x1), (2, vi 0), (3, vi 0)]) dX12_most_22 rfl (by decide) rfl ?_
    exact V
  · have V := V2 c23
    refine r_iconst (x := -1) dX12_most_17 rfl (by decide) ?_
    exact r_iret dX12_most_18 rfl V

theorem gX12_most_23 {w : WD} {d : Nat} {G : GM} {Q : Option AV → Hp → Prop} {n : NM} {x1 x2 x3 : Int}
    (V :
    ((n 147 5 ≤ x3 →
      Q (some (vi x2)) (B0, n)) ∧
    (x3 < n 147 5 →
      Rn w mX12_most d G Q 42 [(0, vr 145), (1, vi x1), (2, vi x2), (3, vi x3), (4, vi (-1)), (5, vi 0), (6, vi 0)] [] (B0, n)))) :
    Rn w mX12_most d G Q 23 [(0, vr 145), (1, vi x1), (2, vi x2), (3, vi x3)] [] (B0, n) := by
  refine r_iload_n dX12_most_23 rfl rfl ?_
  refine r_aload_n dX12_most_24 rfl rfl ?_
  refine r_getR (b := 147) dX12_most_25 fX12_13 ob_145 (by decide) rfl rfl ?_
  refine r_iconst (x := 5) dX12_most_28 rfl (by decide) ?_
  refine r_iald dX12_most_29 ob_147 (by decide) (by decide) ?_
  obtain ⟨V1, V2⟩ := V
  refine r_jge (tgt := 118) dX12_most_30 (by decide) (fun c21 => ?_) (fun c21 => ?_)
  · have V := V1 c21
    refine r_iload_n dX12_most_118 rfl rfl ?_
    exact r_iret dX12_most_119 rfl V
  · have V := V2 c21
    refine r_iconst (x := -1) dX12_most_33 rfl (by decide) ?_
    refine r_istore (ls' := [(0, vr 145), (1, vi x1), (2, vi x2), (3, vi x3), (4, vi (-1))]) dX12_most_34 (by decide) rfl ?_
    refine r_iconst (x := 0) dX12_most_36 rfl (by decide) ?_
    refine r_istore (ls' := [(0, vr 145), (1, vi x1), (2, vi x2), (3, vi x3), (4, vi (-1)), (5, vi 0)]) dX12_most_37 (by decide) rfl ?_
    refine r_iconst (x := 0) dX12_most_39 rfl (by decide) ?_
    refine r_istore (ls' := [(0, vr 145), (1, vi x1), (2, vi x2), (3, vi x3), (4, vi (-1)), (5, vi 0), (6, vi 0)]) dX12_most_40 (by decide) rfl ?_
    exact V

theorem gX12_most_42 {w : WD} {d : Nat} {G : GM} {Q : Option AV → Hp → Prop} {n : NM} {x1 x2 x3 x4 x5 x6 : Int}
    (V :
    ((5 ≤ x6 →
      (∀ z23 : Int, z23 = (if x4 ≠ x1 then 0 else 1) → 
      (inI (x2 + z23)) ∧
      (inI (x3 + 1)) ∧
      Rn w mX12_most (d + 1) G Q 23 [(0, vr 145), (1, vi x1), (2, vi (x2 + z23)), (3, vi (x3 + 1))] [] (B0, n))) ∧
    (x6 < 5 →
      (Ev w d 0 0 mX12_sightAt [vi x3] (B0, n) (fun r h' => ∃ (x27 : Int) (n26 : NM), r = some (vi x27) ∧ h' = (B0, n26) ∧ 
        (Ev w d 0 0 mX12_weightOf [vr 145, vi x27, vi x6] (B0, n26) (fun r h' => ∃ (x29 : Int) (n28 : NM), r = some (vi x29) ∧ h' = (B0, n28) ∧ 
          (∀ z31 : Int, z31 = (if x29 ≤ x5 then x4 else x6) → 
          (∀ z33 : Int, z33 = (if x29 ≤ x5 then x5 else x29) → 
          (inI (x6 + 1)) ∧
          Rn w mX12_most (d + 1) G Q 42 [(0, vr 145), (1, vi x1), (2, vi x2), (3, vi x3), (4, vi z31), (5, vi z33), (6, vi (x6 + 1))] [] (B0, n28)))))))))) :
    Rn w mX12_most (d + 1) G Q 42 [(0, vr 145), (1, vi x1), (2, vi x2), (3, vi x3), (4, vi x4), (5, vi x5), (6, vi x6)] [] (B0, n) := by
  refine r_iload dX12_most_42 rfl ?_
  refine r_iconst (x := 5) dX12_most_44 rfl (by decide) ?_
  obtain ⟨V1, V2⟩ := V
  refine r_jge (tgt := 98) dX12_most_45 (by decide) (fun c21 => ?_) (fun c21 => ?_)
  · have V := V1 c21
    refine r_iload_n dX12_most_98 rfl rfl ?_
    refine r_iload dX12_most_99 rfl ?_
    refine r_iload_n dX12_most_101 rfl rfl ?_
    have K : ∀ z23 : Int, z23 = (if x4 ≠ x1 then 0 else 1) → Rn w mX12_most (d + 1) G Q 110 [(0, vr 145), (1, vi x1), (3, vi x3)] [vi z23, vi x2] (B0, n) := by
      intro z23 ez23
      have V := V z23 ez23
      obtain ⟨s24, V⟩ := V
      refine r_iadd dX12_most_110 s24 ?_
      refine r_istore_n (ls' := [(0, vr 145), (1, vi x1), (2, vi (x2 + z23)), (3, vi x3)]) dX12_most_111 rfl (by decide) rfl ?_
      obtain ⟨s25, V⟩ := V
      refine r_iinc (y := x3 + 1) (ls' := [(0, vr 145), (1, vi x1), (2, vi (x2 + z23)), (3, vi (x3 + 1))]) dX12_most_112 rfl rfl s25 (by decide) rfl ?_
      refine r_goto (tgt := 23) dX12_most_115 (by decide) ?_
      exact V
    refine r_jne (tgt := 109) dX12_most_102 (by decide) (fun c22 => ?_) (fun c22 => ?_)
    · refine r_iconst (x := 0) dX12_most_109 rfl (by decide) ?_
      refine r_pick [0, 1, 3] (ls' := [(0, vr 145), (1, vi x1), (3, vi x3)]) rfl ?_
      exact K 0 (by first | rfl | (simp only [if_pos c22]))
    · refine r_iconst (x := 1) dX12_most_105 rfl (by decide) ?_
      refine r_goto (tgt := 110) dX12_most_106 (by decide) ?_
      refine r_pick [0, 1, 3] (ls' := [(0, vr 145), (1, vi x1), (3, vi x3)]) rfl ?_
      exact K 1 (by first | rfl | (simp only [if_neg (show ¬ (x4 ≠ x1) from not_not_intro c22)]))
  · have V := V2 c21
    refine r_aload_n dX12_most_48 rfl rfl ?_
    refine r_iload_n dX12_most_49 rfl rfl ?_
    refine r_callS (args := [vi x3]) dX12_most_50 kX12_358 rfl rfl (Nat.le_of_ble_eq_true rfl) cap0 (Ev.mono V ?_)
    rintro r h' ⟨x27, n26, rfl, rfl, V⟩
    show Rn w mX12_most (d + 1) G Q 53 [(0, vr 145), (1, vi x1), (2, vi x2), (3, vi x3), (4, vi x4), (5, vi x5), (6, vi x6)] [vi x27, vr 145] (B0, n26)
    refine r_iload dX12_most_53 rfl ?_
    refine r_callV (args := [vi x27, vi x6]) dX12_most_55 kX12_352 ob_145 ⟨_, _, rfl⟩ (by decide) rfl rfl (Nat.le_of_ble_eq_true rfl) cap0 (Ev.mono V ?_)
    rintro r h' ⟨x29, n28, rfl, rfl, V⟩
    show Rn w mX12_most (d + 1) G Q 58 [(0, vr 145), (1, vi x1), (2, vi x2), (3, vi x3), (4, vi x4), (5, vi x5), (6, vi x6)] [vi x29] (B0, n28)
    refine r_istore (ls' := [(0, vr 145), (1, vi x1), (2, vi x2), (3, vi x3), (4, vi x4), (5, vi x5), (6, vi x6), (7, vi x29)]) dX12_most_58 (by decide) rfl ?_
    refine r_iload dX12_most_60 rfl ?_
    refine r_iload dX12_most_62 rfl ?_
    have K : ∀ z31 : Int, z31 = (if x29 ≤ x5 then x4 else x6) → Rn w mX12_most (d + 1) G Q 74 [(0, vr 145), (1, vi x1), (2, vi x2), (3, vi x3), (5, vi x5), (6, vi x6), (7, vi x29)] [vi z31] (B0, n28) := by
      intro z31 ez31
      have V := V z31 ez31
      refine r_istore (ls' := [(0, vr 145), (1, vi x1), (2, vi x2), (3, vi x3), (4, vi z31), (5, vi x5), (6, vi x6), (7, vi x29)]) dX12_most_74 (by decide) rfl ?_
      refine r_iload dX12_most_76 rfl ?_
      refine r_iload dX12_most_78 rfl ?_
      have K : ∀ z33 : Int, z33 = (if x29 ≤ x5 then x5 else x29) → Rn w mX12_most (d + 1) G Q 90 [(0, vr 145), (1, vi x1), (2, vi x2), (3, vi x3), (4, vi z31), (6, vi x6)] [vi z33] (B0, n28) := by
        intro z33 ez33
        have V := V z33 ez33
        refine r_istore (ls' := [(0, vr 145), (1, vi x1), (2, vi x2), (3, vi x3), (4, vi z31), (5, vi z33), (6, vi x6)]) dX12_most_90 (by decide) rfl ?_
        obtain ⟨s34, V⟩ := V
        refine r_iinc (y := x6 + 1) (ls' := [(0, vr 145), (1, vi x1), (2, vi x2), (3, vi x3), (4, vi z31), (5, vi z33), (6, vi (x6 + 1))]) dX12_most_92 rfl rfl s34 (by decide) rfl ?_
        refine r_goto (tgt := 42) dX12_most_95 (by decide) ?_
        exact V
      refine r_jle (tgt := 88) dX12_most_80 (by decide) (fun c32 => ?_) (fun c32 => ?_)
      · refine r_iload dX12_most_88 rfl ?_
        refine r_pick [0, 1, 2, 3, 4, 6] (ls' := [(0, vr 145), (1, vi x1), (2, vi x2), (3, vi x3), (4, vi z31), (6, vi x6)]) rfl ?_
        exact K x5 (by first | rfl | (simp only [if_pos c32]))
      · refine r_iload dX12_most_83 rfl ?_
        refine r_goto (tgt := 90) dX12_most_85 (by decide) ?_
        refine r_pick [0, 1, 2, 3, 4, 6] (ls' := [(0, vr 145), (1, vi x1), (2, vi x2), (3, vi x3), (4, vi z31), (6, vi x6)]) rfl ?_
        exact K x29 (by first | rfl | (simp only [if_neg (Int.not_le.mpr c32)]))
    refine r_jle (tgt := 72) dX12_most_64 (by decide) (fun c30 => ?_) (fun c30 => ?_)
    · refine r_iload dX12_most_72 rfl ?_
      refine r_pick [0, 1, 2, 3, 5, 6, 7] (ls' := [(0, vr 145), (1, vi x1), (2, vi x2), (3, vi x3), (5, vi x5), (6, vi x6), (7, vi x29)]) rfl ?_
      exact K x4 (by first | rfl | (simp only [if_pos c30]))
    · refine r_iload dX12_most_67 rfl ?_
      refine r_goto (tgt := 74) dX12_most_69 (by decide) ?_
      refine r_pick [0, 1, 2, 3, 5, 6, 7] (ls' := [(0, vr 145), (1, vi x1), (2, vi x2), (3, vi x3), (5, vi x5), (6, vi x6), (7, vi x29)]) rfl ?_
      exact K x6 (by first | rfl | (simp only [if_neg (Int.not_le.mpr c30)]))

theorem gX12_setTo_0 {w : WD} {d : Nat} {G : GM} {Q : Option AV → Hp → Prop} {B : HB} {a : Nat} {n : NM} {x1 : Int} (oa : Obj B a 101 100)
    (V :
    Rn w mX12_setTo d G Q 2 [(0, vr a), (1, vl x1), (3, vi 0)] [] (B, n)) :
    Rn w mX12_setTo d G Q 0 [(0, vr a), (1, vl x1)] [] (B, n) := by
  refine r_iconst (x := 0) dX12_setTo_0 rfl (by decide) ?_
  refine r_istore_n (ls' := [(0, vr a), (1, vl x1), (3, vi 0)]) dX12_setTo_1 rfl (by decide) rfl ?_
  exact V

theorem gX12_setTo_2 {w : WD} {d : Nat} {G : GM} {Q : Option AV → Hp → Prop} {B : HB} {a : Nat} {n : NM} {x1 x3 : Int} (oa : Obj B a 101 100)
    (V :
    ((100 ≤ x3 →
      (0 ≤ x1) ∧
      (0 ≤ x1) ∧
      Q none (B, upn (upn n a 0 (x1 % 1000000)) a 1 (x1 / 1000000))) ∧
    (x3 < 100 →
      (0 ≤ x3) ∧
      (x3 < 100) ∧
      (inI (x3 + 1)) ∧
      Rn w mX12_setTo d G Q 2 [(0, vr a), (1, vl x1), (3, vi (x3 + 1))] [] (B, upn n a x3 0)))) :
    Rn w mX12_setTo d G Q 2 [(0, vr a), (1, vl x1), (3, vi x3)] [] (B, n) := by
  refine r_iload_n dX12_setTo_2 rfl rfl ?_
  refine r_bipush (x := 100) dX12_setTo_3 (by decide +kernel) (by decide) ?_
  obtain ⟨V1, V2⟩ := V
  refine r_jge (tgt := 18) dX12_setTo_5 (by decide) (fun c21 => ?_) (fun c21 => ?_)
  · have V := V1 c21
    refine r_aload_n dX12_setTo_18 rfl rfl ?_
    refine r_iconst (x := 0) dX12_setTo_19 rfl (by decide) ?_
    refine r_lload_n dX12_setTo_20 rfl rfl ?_
    refine r_ldc2 (x := 1000000) dX12_setTo_21 qX12_176 (by decide) ?_
    obtain ⟨s22, V⟩ := V
    refine r_lrem dX12_setTo_24 s22 (by decide) ?_
    refine r_last (h' := (B, upn n a 0 (x1 % 1000000))) dX12_setTo_25 oa (by decide) (by decide) rfl ?_
    refine r_aload_n dX12_setTo_26 rfl rfl ?_
    refine r_iconst (x := 1) dX12_setTo_27 rfl (by decide) ?_
    refine r_lload_n dX12_setTo_28 rfl rfl ?_
    refine r_ldc2 (x := 1000000) dX12_setTo_29 qX12_176 (by decide) ?_
    obtain ⟨s23, V⟩ := V
    refine r_ldiv dX12_setTo_32 s23 (by decide) ?_
    refine r_last (h' := (B, upn (upn n a 0 (x1 % 1000000)) a 1 (x1 / 1000000))) dX12_setTo_33 oa (by decide) (by decide) rfl ?_
    exact r_ret dX12_setTo_34 rfl V
  · have V := V2 c21
    refine r_aload_n dX12_setTo_8 rfl rfl ?_
    refine r_iload_n dX12_setTo_9 rfl rfl ?_
    refine r_lconst (x := 0) dX12_setTo_10 rfl (by decide) ?_
    obtain ⟨s24, V⟩ := V
    obtain ⟨s25, V⟩ := V
    refine r_last (h' := (B, upn n a x3 0)) dX12_setTo_11 oa s24 s25 rfl ?_
    obtain ⟨s26, V⟩ := V
    refine r_iinc (y := x3 + 1) (ls' := [(0, vr a), (1, vl x1), (3, vi (x3 + 1))]) dX12_setTo_12 rfl rfl s26 (by decide) rfl ?_
    refine r_goto (tgt := 2) dX12_setTo_15 (by decide) ?_
    exact V

theorem gX12_multiply_0 {w : WD} {d : Nat} {G : GM} {Q : Option AV → Hp → Prop} {B : HB} {a : Nat} {n : NM} {x1 : Int} (oa : Obj B a 101 100)
    (V :
    Rn w mX12_multiply d G Q 5 [(0, vr a), (1, vl x1), (3, vl 0), (5, vi 0)] [] (B, n)) :
    Rn w mX12_multiply d G Q 0 [(0, vr a), (1, vl x1)] [] (B, n) := by
  refine r_lconst (x := 0) dX12_multiply_0 rfl (by decide) ?_
  refine r_lstore_n (ls' := [(0, vr a), (1, vl x1), (3, vl 0)]) dX12_multiply_1 rfl (by decide) rfl ?_
  refine r_iconst (x := 0) dX12_multiply_2 rfl (by decide) ?_
  refine r_istore (ls' := [(0, vr a), (1, vl x1), (3, vl 0), (5, vi 0)]) dX12_multiply_3 (by decide) rfl ?_
  exact V

theorem gX12_multiply_5 {w : WD} {d : Nat} {G : GM} {Q : Option AV → Hp → Prop} {B : HB} {a : Nat} {n : NM} {x1 x3 x5 : Int} (oa : Obj B a 101 100)
    (V :
    ((100 ≤ x5 →
      Q none (B, n)) ∧
    (x5 < 100 →
      (0 ≤ x5) ∧
      (x5 < 100) ∧
      (inJ ((n a x5) * x1)) ∧
      (inJ (((n a x5) * x1) + x3)) ∧
      (0 ≤ ((n a x5) * x1) + x3) ∧
      (0 ≤ x5) ∧
      (x5 < 100) ∧
      (0 ≤ ((n a x5) * x1) + x3) ∧
      (inI (x5 + 1)) ∧
      Rn w mX12_multiply d G Q 5 [(0, vr a), (1, vl x1), (3, vl ((((n a x5) * x1) + x3) / 1000000)), (5, vi (x5 + 1))] [] (B, upn n a x5 ((((n a x5) * x1) + x3) % 1000000))))) :
    Rn w mX12_multiply d G Q 5 [(0, vr a), (1, vl x1), (3, vl x3), (5, vi x5)] [] (B, n) := by
  refine r_iload dX12_multiply_5 rfl ?_
  refine r_bipush (x := 100) dX12_multiply_7 (by decide +kernel) (by decide) ?_
  obtain ⟨V1, V2⟩ := V
  refine r_jge (tgt := 45) dX12_multiply_9 (by decide) (fun c21 => ?_) (fun c21 => ?_)
  · have V := V1 c21
    exact r_ret dX12_multiply_45 rfl V
  · have V := V2 c21
    refine r_aload_n dX12_multiply_12 rfl rfl ?_
    refine r_iload dX12_multiply_13 rfl ?_
    obtain ⟨s22, V⟩ := V
    obtain ⟨s23, V⟩ := V
    refine r_lald dX12_multiply_15 oa s22 s23 ?_
    refine r_lload_n dX12_multiply_16 rfl rfl ?_
    obtain ⟨s24, V⟩ := V
    refine r_lmul dX12_multiply_17 s24 ?_
    refine r_lload_n dX12_multiply_18 rfl rfl ?_
    obtain ⟨s25, V⟩ := V
    refine r_ladd dX12_multiply_19 s25 ?_
    refine r_lstore (ls' := [(0, vr a), (1, vl x1), (3, vl x3), (5, vi x5), (6, vl (((n a x5) * x1) + x3))]) dX12_multiply_20 (by decide) rfl ?_
    refine r_aload_n dX12_multiply_22 rfl rfl ?_
    refine r_iload dX12_multiply_23 rfl ?_
    refine r_lload dX12_multiply_25 rfl ?_
    refine r_ldc2 (x := 1000000) dX12_multiply_27 qX12_176 (by decide) ?_
    obtain ⟨s26, V⟩ := V
    refine r_lrem dX12_multiply_30 s26 (by decide) ?_
    obtain ⟨s27, V⟩ := V
    obtain ⟨s28, V⟩ := V
    refine r_last (h' := (B, upn n a x5 ((((n a x5) * x1) + x3) % 1000000))) dX12_multiply_31 oa s27 s28 rfl ?_
    refine r_lload dX12_multiply_32 rfl ?_
    refine r_ldc2 (x := 1000000) dX12_multiply_34 qX12_176 (by decide) ?_
    obtain ⟨s29, V⟩ := V
    refine r_ldiv dX12_multiply_37 s29 (by decide) ?_
    refine r_lstore_n (ls' := [(0, vr a), (1, vl x1), (3, vl ((((n a x5) * x1) + x3) / 1000000)), (5, vi x5), (6, vl (((n a x5) * x1) + x3))]) dX12_multiply_38 rfl (by decide) rfl ?_
    obtain ⟨s30, V⟩ := V
    refine r_iinc (y := x5 + 1) (ls' := [(0, vr a), (1, vl x1), (3, vl ((((n a x5) * x1) + x3) / 1000000)), (5, vi (x5 + 1)), (6, vl (((n a x5) * x1) + x3))]) dX12_multiply_39 rfl rfl s30 (by decide) rfl ?_
    refine r_goto (tgt := 5) dX12_multiply_42 (by decide) ?_
    refine r_pick [0, 1, 2, 3] (ls' := [(0, vr a), (1, vl x1), (3, vl ((((n a x5) * x1) + x3) / 1000000)), (5, vi (x5 + 1))]) rfl ?_
    exact V

theorem gX12_multiplyBoth_0 {w : WD} {d : Nat} {G : GM} {Q : Option AV → Hp → Prop} {n : NM}
    (V :
    Rn w mX12_multiplyBoth d G Q 2 [(0, vr 145), (1, vi 0)] [] (B0, n)) :
    Rn w mX12_multiplyBoth d G Q 0 [(0, vr 145)] [] (B0, n) := by
  refine r_iconst (x := 0) dX12_multiplyBoth_0 rfl (by decide) ?_
  refine r_istore_n (ls' := [(0, vr 145), (1, vi 0)]) dX12_multiplyBoth_1 rfl (by decide) rfl ?_
  exact V

theorem gX12_multiplyBoth_2 {w : WD} {d : Nat} {G : GM} {Q : Option AV → Hp → Prop} {n : NM} {x1 : Int}
    (V :
    ((200 ≤ x1 →
      Rn w mX12_multiplyBoth d G Q 24 [(0, vr 145), (1, vi 0)] [] (B0, n)) ∧
    (x1 < 200 →
      (0 ≤ x1) ∧
      (x1 < 200) ∧
      (inI (x1 + 1)) ∧
      Rn w mX12_multiplyBoth d G Q 2 [(0, vr 145), (1, vi (x1 + 1))] [] (B0, upn n 160 x1 0)))) :
    Rn w mX12_multiplyBoth d G Q 2 [(0, vr 145), (1, vi x1)] [] (B0, n) := by
  refine r_iload_n dX12_multiplyBoth_2 rfl rfl ?_
  refine r_sipush (x := 200) dX12_multiplyBoth_3 (by decide +kernel) (by decide) ?_
  obtain ⟨V1, V2⟩ := V
  refine r_jge (tgt := 22) dX12_multiplyBoth_6 (by decide) (fun c21 => ?_) (fun c21 => ?_)
  · have V := V1 c21
    refine r_iconst (x := 0) dX12_multiplyBoth_22 rfl (by decide) ?_
    refine r_istore_n (ls' := [(0, vr 145), (1, vi 0)]) dX12_multiplyBoth_23 rfl (by decide) rfl ?_
    exact V
  · have V := V2 c21
    refine r_aload_n dX12_multiplyBoth_9 rfl rfl ?_
    refine r_getR (b := 160) dX12_multiplyBoth_10 fX12_58 ob_145 (by decide) rfl rfl ?_
    refine r_iload_n dX12_multiplyBoth_13 rfl rfl ?_
    refine r_lconst (x := 0) dX12_multiplyBoth_14 rfl (by decide) ?_
    obtain ⟨s22, V⟩ := V
    obtain ⟨s23, V⟩ := V
    refine r_last (h' := (B0, upn n 160 x1 0)) dX12_multiplyBoth_15 ob_160 s22 s23 rfl ?_
    obtain ⟨s24, V⟩ := V
    refine r_iinc (y := x1 + 1) (ls' := [(0, vr 145), (1, vi (x1 + 1))]) dX12_multiplyBoth_16 rfl rfl s24 (by decide) rfl ?_
    refine r_goto (tgt := 2) dX12_multiplyBoth_19 (by decide) ?_
    exact V

theorem gX12_multiplyBoth_24 {w : WD} {d : Nat} {G : GM} {Q : Option AV → Hp → Prop} {n : NM} {x1 : Int}
    (V :
    ((100 ≤ x1 →
      Rn w mX12_multiplyBoth d G Q 119 [(0, vr 145), (1, vi 0)] [] (B0, n)) ∧
    (x1 < 100 →
      Rn w mX12_multiplyBoth d G Q 35 [(0, vr 145), (1, vi x1), (2, vl 0), (4, vi 0)] [] (B0, n)))) :
    Rn w mX12_multiplyBoth d G Q 24 [(0, vr 145), (1, vi x1)] [] (B0, n) := by
  refine r_iload_n dX12_multiplyBoth_24 rfl rfl ?_
  refine r_bipush (x := 100) dX12_multiplyBoth_25 (by decide +kernel) (by decide) ?_
  obtain ⟨V1, V2⟩ := V
  refine r_jge (tgt := 117) dX12_multiplyBoth_27 (by decide) (fun c21 => ?_) (fun c21 => ?_)
  · have V := V1 c21
    refine r_iconst (x := 0) dX12_multiplyBoth_117 rfl (by decide) ?_
    refine r_istore_n (ls' := [(0, vr 145), (1, vi 0)]) dX12_multiplyBoth_118 rfl (by decide) rfl ?_
    exact V
  · have V := V2 c21
    refine r_lconst (x := 0) dX12_multiplyBoth_30 rfl (by decide) ?_
    refine r_lstore_n (ls' := [(0, vr 145), (1, vi x1), (2, vl 0)]) dX12_multiplyBoth_31 rfl (by decide) rfl ?_
    refine r_iconst (x := 0) dX12_multiplyBoth_32 rfl (by decide) ?_
    refine r_istore (ls' := [(0, vr 145), (1, vi x1), (2, vl 0), (4, vi 0)]) dX12_multiplyBoth_33 (by decide) rfl ?_
    exact V

theorem gX12_multiplyBoth_119 {w : WD} {d : Nat} {G : GM} {Q : Option AV → Hp → Prop} {n : NM} {x1 : Int}
    (V :
    ((100 ≤ x1 →
      Q none (B0, n)) ∧
    (x1 < 100 →
      (0 ≤ x1) ∧
      (x1 < 200) ∧
      (0 ≤ x1) ∧
      (x1 < 100) ∧
      (inI (x1 + 1)) ∧
      Rn w mX12_multiplyBoth d G Q 119 [(0, vr 145), (1, vi (x1 + 1))] [] (B0, upn n 158 x1 (n 160 x1))))) :
    Rn w mX12_multiplyBoth d G Q 119 [(0, vr 145), (1, vi x1)] [] (B0, n) := by
  refine r_iload_n dX12_multiplyBoth_119 rfl rfl ?_
  refine r_bipush (x := 100) dX12_multiplyBoth_120 (by decide +kernel) (by decide) ?_
  obtain ⟨V1, V2⟩ := V
  refine r_jge (tgt := 143) dX12_multiplyBoth_122 (by decide) (fun c21 => ?_) (fun c21 => ?_)
  · have V := V1 c21
    exact r_ret dX12_multiplyBoth_143 rfl V
  · have V := V2 c21
    refine r_aload_n dX12_multiplyBoth_125 rfl rfl ?_
    refine r_getR (b := 158) dX12_multiplyBoth_126 fX12_52 ob_145 (by decide) rfl rfl ?_
    refine r_iload_n dX12_multiplyBoth_129 rfl rfl ?_
    refine r_aload_n dX12_multiplyBoth_130 rfl rfl ?_
    refine r_getR (b := 160) dX12_multiplyBoth_131 fX12_58 ob_145 (by decide) rfl rfl ?_
    refine r_iload_n dX12_multiplyBoth_134 rfl rfl ?_
    obtain ⟨s22, V⟩ := V
    obtain ⟨s23, V⟩ := V
    refine r_lald dX12_multiplyBoth_135 ob_160 s22 s23 ?_
    obtain ⟨s24, V⟩ := V
    obtain ⟨s25, V⟩ := V
    refine r_last (h' := (B0, upn n 158 x1 (n 160 x1))) dX12_multiplyBoth_136 ob_158 s24 s25 rfl ?_
    obtain ⟨s26, V⟩ := V
    refine r_iinc (y := x1 + 1) (ls' := [(0, vr 145), (1, vi (x1 + 1))]) dX12_multiplyBoth_137 rfl rfl s26 (by decide) rfl ?_
    refine r_goto (tgt := 119) dX12_multiplyBoth_140 (by decide) ?_
    exact V

theorem gX12_multiplyBoth_35 {w : WD} {d : Nat} {G : GM} {Q : Option AV → Hp → Prop} {n : NM} {x1 x2 x4 : Int}
    (V :
    ((10 ≤ x4 →
      (inI (x1 + 10)) ∧
      (0 ≤ x1 + 10) ∧
      (x1 + 10 < 200) ∧
      (inJ ((n 160 (x1 + 10)) + x2)) ∧
      (0 ≤ x1 + 10) ∧
      (x1 + 10 < 200) ∧
      (inI (x1 + 1)) ∧
      Rn w mX12_multiplyBoth d G Q 24 [(0, vr 145), (1, vi (x1 + 1))] [] (B0, upn n 160 (x1 + 10) ((n 160 (x1 + 10)) + x2))) ∧
    (x4 < 10 →
      (inI (x1 + x4)) ∧
      (0 ≤ x1 + x4) ∧
      (x1 + x4 < 200) ∧
      (0 ≤ x1) ∧
      (x1 < 100) ∧
      (0 ≤ x4) ∧
      (x4 < 100) ∧
      (inJ ((n 158 x1) * (n 159 x4))) ∧
      (inJ ((n 160 (x1 + x4)) + ((n 158 x1) * (n 159 x4)))) ∧
      (inJ (((n 160 (x1 + x4)) + ((n 158 x1) * (n 159 x4))) + x2)) ∧
      (inI (x1 + x4)) ∧
      (0 ≤ ((n 160 (x1 + x4)) + ((n 158 x1) * (n 159 x4))) + x2) ∧
      (0 ≤ x1 + x4) ∧
      (x1 + x4 < 200) ∧
      (0 ≤ ((n 160 (x1 + x4)) + ((n 158 x1) * (n 159 x4))) + x2) ∧
      (inI (x4 + 1)) ∧
      Rn w mX12_multiplyBoth d G Q 35 [(0, vr 145), (1, vi x1), (2, vl ((((n 160 (x1 + x4)) + ((n 158 x1) * (n 159 x4))) + x2) / 1000000)), (4, vi (x4 + 1))] [] (B0, upn n 160 (x1 + x4) ((((n 160 (x1 + x4)) + ((n 158 x1) * (n 159 x4))) + x2) % 1000000))))) :
    Rn w mX12_multiplyBoth d G Q 35 [(0, vr 145), (1, vi x1), (2, vl x2), (4, vi x4)] [] (B0, n) := by
  refine r_iload dX12_multiplyBoth_35 rfl ?_
  refine r_bipush (x := 10) dX12_multiplyBoth_37 (by decide +kernel) (by decide) ?_
  obtain ⟨V1, V2⟩ := V
  refine r_jge (tgt := 98) dX12_multiplyBoth_39 (by decide) (fun c21 => ?_) (fun c21 => ?_)
  · have V := V1 c21
    refine r_aload_n dX12_multiplyBoth_98 rfl rfl ?_
    refine r_getR (b := 160) dX12_multiplyBoth_99 fX12_58 ob_145 (by decide) rfl rfl ?_
    refine r_iload_n dX12_multiplyBoth_102 rfl rfl ?_
    refine r_bipush (x := 10) dX12_multiplyBoth_103 (by decide +kernel) (by decide) ?_
    obtain ⟨s22, V⟩ := V
    refine r_iadd dX12_multiplyBoth_105 s22 ?_
    refine r_dup2 dX12_multiplyBoth_106 rfl rfl ?_
    obtain ⟨s23, V⟩ := V
    obtain ⟨s24, V⟩ := V
    refine r_lald dX12_multiplyBoth_107 ob_160 s23 s24 ?_
    refine r_lload_n dX12_multiplyBoth_108 rfl rfl ?_
    obtain ⟨s25, V⟩ := V
    refine r_ladd dX12_multiplyBoth_109 s25 ?_
    obtain ⟨s26, V⟩ := V
    obtain ⟨s27, V⟩ := V
    refine r_last (h' := (B0, upn n 160 (x1 + 10) ((n 160 (x1 + 10)) + x2))) dX12_multiplyBoth_110 ob_160 s26 s27 rfl ?_
    obtain ⟨s28, V⟩ := V
    refine r_iinc (y := x1 + 1) (ls' := [(0, vr 145), (1, vi (x1 + 1)), (2, vl x2), (4, vi x4)]) dX12_multiplyBoth_111 rfl rfl s28 (by decide) rfl ?_
    refine r_goto (tgt := 24) dX12_multiplyBoth_114 (by decide) ?_
    refine r_pick [0, 1] (ls' := [(0, vr 145), (1, vi (x1 + 1))]) rfl ?_
    exact V
  · have V := V2 c21
    refine r_aload_n dX12_multiplyBoth_42 rfl rfl ?_
    refine r_getR (b := 160) dX12_multiplyBoth_43 fX12_58 ob_145 (by decide) rfl rfl ?_
    refine r_iload_n dX12_multiplyBoth_46 rfl rfl ?_
    refine r_iload dX12_multiplyBoth_47 rfl ?_
    obtain ⟨s29, V⟩ := V
    refine r_iadd dX12_multiplyBoth_49 s29 ?_
    obtain ⟨s30, V⟩ := V
    obtain ⟨s31, V⟩ := V
    refine r_lald dX12_multiplyBoth_50 ob_160 s30 s31 ?_
    refine r_aload_n dX12_multiplyBoth_51 rfl rfl ?_
    refine r_getR (b := 158) dX12_multiplyBoth_52 fX12_52 ob_145 (by decide) rfl rfl ?_
    refine r_iload_n dX12_multiplyBoth_55 rfl rfl ?_
    obtain ⟨s32, V⟩ := V
    obtain ⟨s33, V⟩ := V
    refine r_lald dX12_multiplyBoth_56 ob_158 s32 s33 ?_
    refine r_aload_n dX12_multiplyBoth_57 rfl rfl ?_
    refine r_getR (b := 159) dX12_multiplyBoth_58 fX12_55 ob_145 (by decide) rfl rfl ?_
    refine r_iload dX12_multiplyBoth_61 rfl ?_
    obtain ⟨s34, V⟩ := V
    obtain ⟨s35, V⟩ := V
    refine r_lald dX12_multiplyBoth_63 ob_159 s34 s35 ?_
    obtain ⟨s36, V⟩ := V
    refine r_lmul dX12_multiplyBoth_64 s36 ?_
    obtain ⟨s37, V⟩ := V
    refine r_ladd dX12_multiplyBoth_65 s37 ?_
    refine r_lload_n dX12_multiplyBoth_66 rfl rfl ?_
    obtain ⟨s38, V⟩ := V
    refine r_ladd dX12_multiplyBoth_67 s38 ?_
    refine r_lstore (ls' := [(0, vr 145), (1, vi x1), (2, vl x2), (4, vi x4), (5, vl (((n 160 (x1 + x4)) + ((n 158 x1) * (n 159 x4))) + x2))]) dX12_multiplyBoth_68 (by decide) rfl ?_
    refine r_aload_n dX12_multiplyBoth_70 rfl rfl ?_
    refine r_getR (b := 160) dX12_multiplyBoth_71 fX12_58 ob_145 (by decide) rfl rfl ?_
    refine r_iload_n dX12_multiplyBoth_74 rfl rfl ?_
    refine r_iload dX12_multiplyBoth_75 rfl ?_
    obtain ⟨s39, V⟩ := V
    refine r_iadd dX12_multiplyBoth_77 s39 ?_
    refine r_lload dX12_multiplyBoth_78 rfl ?_
    refine r_ldc2 (x := 1000000) dX12_multiplyBoth_80 qX12_176 (by decide) ?_
    obtain ⟨s40, V⟩ := V
    refine r_lrem dX12_multiplyBoth_83 s40 (by decide) ?_
    obtain ⟨s41, V⟩ := V
    obtain ⟨s42, V⟩ := V
    refine r_last (h' := (B0, upn n 160 (x1 + x4) ((((n 160 (x1 + x4)) + ((n 158 x1) * (n 159 x4))) + x2) % 1000000))) dX12_multiplyBoth_84 ob_160 s41 s42 rfl ?_
    refine r_lload dX12_multiplyBoth_85 rfl ?_
    refine r_ldc2 (x := 1000000) dX12_multiplyBoth_87 qX12_176 (by decide) ?_
    obtain ⟨s43, V⟩ := V
    refine r_ldiv dX12_multiplyBoth_90 s43 (by decide) ?_
    refine r_lstore_n (ls' := [(0, vr 145), (1, vi x1), (2, vl ((((n 160 (x1 + x4)) + ((n 158 x1) * (n 159 x4))) + x2) / 1000000)), (4, vi x4), (5, vl (((n 160 (x1 + x4)) + ((n 158 x1) * (n 159 x4))) + x2))]) dX12_multiplyBoth_91 rfl (by decide) rfl ?_
    obtain ⟨s44, V⟩ := V
    refine r_iinc (y := x4 + 1) (ls' := [(0, vr 145), (1, vi x1), (2, vl ((((n 160 (x1 + x4)) + ((n 158 x1) * (n 159 x4))) + x2) / 1000000)), (4, vi (x4 + 1)), (5, vl (((n 160 (x1 + x4)) + ((n 158 x1) * (n 159 x4))) + x2))]) dX12_multiplyBoth_92 rfl rfl s44 (by decide) rfl ?_
    refine r_goto (tgt := 35) dX12_multiplyBoth_95 (by decide) ?_
    refine r_pick [0, 1, 2, 3] (ls' := [(0, vr 145), (1, vi x1), (2, vl ((((n 160 (x1 + x4)) + ((n 158 x1) * (n 159 x4))) + x2) / 1000000)), (4, vi (x4 + 1))]) rfl ?_
    exact V

theorem gX12_compare_0 {w : WD} {d : Nat} {G : GM} {Q : Option AV → Hp → Prop} {B : HB} {a b : Nat} {n : NM} (oa : Obj B a 101 100) (ob : Obj B b 101 100)
    (V :
    Rn w mX12_compare d G Q 3 [(0, vr a), (1, vr b), (2, vi 99)] [] (B, n)) :
    Rn w mX12_compare d G Q 0 [(0, vr a), (1, vr b)] [] (B, n) := by
  refine r_bipush (x := 99) dX12_compare_0 (by decide +kernel) (by decide) ?_
  refine r_istore_n (ls' := [(0, vr a), (1, vr b), (2, vi 99)]) dX12_compare_2 rfl (by decide) rfl ?_
  exact V

theorem gX12_compare_3 {w : WD} {d : Nat} {G : GM} {Q : Option AV → Hp → Prop} {B : HB} {a b : Nat} {n : NM} {x2 : Int} (oa : Obj B a 101 100) (ob : Obj B b 101 100)
    (V :
    ((x2 < 0 →
      Q (some (vi 0)) (B, n)) ∧
    (0 ≤ x2 →
      (0 ≤ x2) ∧
      (x2 < 100) ∧
      (0 ≤ x2) ∧
      (x2 < 100) ∧
      ((n a x2 = n b x2 →
        (inI (x2 + (-1))) ∧
        Rn w mX12_compare d G Q 3 [(0, vr a), (1, vr b), (2, vi (x2 + (-1)))] [] (B, n)) ∧
      (n a x2 ≠ n b x2 →
        (0 ≤ x2) ∧
        (x2 < 100) ∧
        (0 ≤ x2) ∧
        (x2 < 100) ∧
        ((n b x2 ≤ n a x2 →
          Q (some (vi 1)) (B, n)) ∧
        (n a x2 < n b x2 →
          Q (some (vi (-1))) (B, n)))))))) :
    Rn w mX12_compare d G Q 3 [(0, vr a), (1, vr b), (2, vi x2)] [] (B, n) := by
  refine r_iload_n dX12_compare_3 rfl rfl ?_
  obtain ⟨V1, V2⟩ := V
  refine r_zlt (tgt := 39) dX12_compare_4 (by decide) (fun c21 => ?_) (fun c21 => ?_)
  · have V := V1 c21
    refine r_iconst (x := 0) dX12_compare_39 rfl (by decide) ?_
    exact r_iret dX12_compare_40 rfl V
  · have V := V2 c21
    refine r_aload_n dX12_compare_7 rfl rfl ?_
    refine r_iload_n dX12_compare_8 rfl rfl ?_
    obtain ⟨s22, V⟩ := V
    obtain ⟨s23, V⟩ := V
    refine r_lald dX12_compare_9 oa s22 s23 ?_
    refine r_aload_n dX12_compare_10 rfl rfl ?_
    refine r_iload_n dX12_compare_11 rfl rfl ?_
    obtain ⟨s24, V⟩ := V
    obtain ⟨s25, V⟩ := V
    refine r_lald dX12_compare_12 ob s24 s25 ?_
    obtain ⟨V1, V2⟩ := V
    refine r_leq dX12_compare_13 rfl dX12_compare_14 (tgt := 33) (by decide) (fun c26 => ?_) (fun c26 => ?_)
    · have V := V1 c26
      obtain ⟨s27, V⟩ := V
      refine r_iinc (y := x2 + (-1)) (ls' := [(0, vr a), (1, vr b), (2, vi (x2 + (-1)))]) dX12_compare_33 rfl rfl s27 (by decide) rfl ?_
      refine r_goto (tgt := 3) dX12_compare_36 (by decide) ?_
      exact V
    · have V := V2 c26
      refine r_aload_n dX12_compare_17 rfl rfl ?_
      refine r_iload_n dX12_compare_18 rfl rfl ?_
      obtain ⟨s28, V⟩ := V
      obtain ⟨s29, V⟩ := V
      refine r_lald dX12_compare_19 oa s28 s29 ?_
      refine r_aload_n dX12_compare_20 rfl rfl ?_
      refine r_iload_n dX12_compare_21 rfl rfl ?_
      obtain ⟨s30, V⟩ := V
      obtain ⟨s31, V⟩ := V
      refine r_lald dX12_compare_22 ob s30 s31 ?_
      obtain ⟨V1, V2⟩ := V
      refine r_lge dX12_compare_23 rfl dX12_compare_24 (tgt := 31) (by decide) (fun c32 => ?_) (fun c32 => ?_)
      · have V := V1 c32
        refine r_iconst (x := 1) dX12_compare_31 rfl (by decide) ?_
        exact r_iret dX12_compare_32 rfl V
      · have V := V2 c32
        refine r_iconst (x := -1) dX12_compare_27 rfl (by decide) ?_
        refine r_goto (tgt := 32) dX12_compare_28 (by decide) ?_
        exact r_iret dX12_compare_32 rfl V

theorem gX12_findFactor_0 {w : WD} {d : Nat} {G : GM} {Q : Option AV → Hp → Prop} {n : NM} {x1 x2 : Int}
    (V :
    (inI (3 * x1)) ∧
    (inI (700 + (3 * x1))) ∧
    (inI (4 * x2)) ∧
    (inI (720 + (4 * x2))) ∧
    (inI ((700 + (3 * x1)) + 2)) ∧
    (0 ≤ (700 + (3 * x1)) + 2) ∧
    ((700 + (3 * x1)) + 2 < 1800) ∧
    (inI ((720 + (4 * x2)) + 1)) ∧
    (0 ≤ (720 + (4 * x2)) + 1) ∧
    ((720 + (4 * x2)) + 1 < 1800) ∧
    (n 147 ((720 + (4 * x2)) + 1) ≤ n 147 ((700 + (3 * x1)) + 2) → inI ((700 + (3 * x1)) + 1)) ∧
    (n 147 ((720 + (4 * x2)) + 1) ≤ n 147 ((700 + (3 * x1)) + 2) → 0 ≤ (700 + (3 * x1)) + 1) ∧
    (n 147 ((720 + (4 * x2)) + 1) ≤ n 147 ((700 + (3 * x1)) + 2) → (700 + (3 * x1)) + 1 < 1800) ∧
    (∀ z35 : Int, z35 = (if n 147 ((700 + (3 * x1)) + 2) < n 147 ((720 + (4 * x2)) + 1) then 0 else n 147 ((700 + (3 * x1)) + 1)) → 
    (Ev w d 0 0 mX12_setTo [vr 159, vl 1] (B0, n) (fun r h' => ∃ n36 : NM, r = none ∧ h' = (B0, n36) ∧ 
      Rn w mX12_findFactor (d + 1) G Q 62 [(0, vr 145), (4, vi (720 + (4 * x2))), (5, vi z35), (6, vi 0)] [] (B0, n36))))) :
    Rn w mX12_findFactor (d + 1) G Q 0 [(0, vr 145), (1, vi x1), (2, vi x2)] [] (B0, n) := by
  refine r_sipush (x := 700) dX12_findFactor_0 (by decide +kernel) (by decide) ?_
  refine r_iconst (x := 3) dX12_findFactor_3 rfl (by decide) ?_
  refine r_iload_n dX12_findFactor_4 rfl rfl ?_
  obtain ⟨s21, V⟩ := V
  refine r_imul dX12_findFactor_5 s21 ?_
  obtain ⟨s22, V⟩ := V
  refine r_iadd dX12_findFactor_6 s22 ?_
  refine r_istore_n (ls' := [(0, vr 145), (1, vi x1), (2, vi x2), (3, vi (700 + (3 * x1)))]) dX12_findFactor_7 rfl (by decide) rfl ?_
  refine r_sipush (x := 720) dX12_findFactor_8 (by decide +kernel) (by decide) ?_
  refine r_iconst (x := 4) dX12_findFactor_11 rfl (by decide) ?_
  refine r_iload_n dX12_findFactor_12 rfl rfl ?_
  obtain ⟨s23, V⟩ := V
  refine r_imul dX12_findFactor_13 s23 ?_
  obtain ⟨s24, V⟩ := V
  refine r_iadd dX12_findFactor_14 s24 ?_
  refine r_istore (ls' := [(0, vr 145), (1, vi x1), (2, vi x2), (3, vi (700 + (3 * x1))), (4, vi (720 + (4 * x2)))]) dX12_findFactor_15 (by decide) rfl ?_
  refine r_aload_n dX12_findFactor_17 rfl rfl ?_
  refine r_getR (b := 147) dX12_findFactor_18 fX12_13 ob_145 (by decide) rfl rfl ?_
  refine r_iload_n dX12_findFactor_21 rfl rfl ?_
  refine r_iconst (x := 2) dX12_findFactor_22 rfl (by decide) ?_
  obtain ⟨s25, V⟩ := V
  refine r_iadd dX12_findFactor_23 s25 ?_
  obtain ⟨s26, V⟩ := V
  obtain ⟨s27, V⟩ := V
  refine r_iald dX12_findFactor_24 ob_147 s26 s27 ?_
  refine r_aload_n dX12_findFactor_25 rfl rfl ?_
  refine r_getR (b := 147) dX12_findFactor_26 fX12_13 ob_145 (by decide) rfl rfl ?_
  refine r_iload dX12_findFactor_29 rfl ?_
  refine r_iconst (x := 1) dX12_findFactor_31 rfl (by decide) ?_
  obtain ⟨s28, V⟩ := V
  refine r_iadd dX12_findFactor_32 s28 ?_
  obtain ⟨s29, V⟩ := V
  obtain ⟨s30, V⟩ := V
  refine r_iald dX12_findFactor_33 ob_147 s29 s30 ?_
  obtain ⟨s32, V⟩ := V
  obtain ⟨s33, V⟩ := V
  obtain ⟨s34, V⟩ := V
  have K : ∀ z35 : Int, z35 = (if n 147 ((700 + (3 * x1)) + 2) < n 147 ((720 + (4 * x2)) + 1) then 0 else n 147 ((700 + (3 * x1)) + 1)) → Rn w mX12_findFactor (d + 1) G Q 49 [(0, vr 145), (4, vi (720 + (4 * x2)))] [vi z35] (B0, n) := by
    intro z35 ez35
    have V := V z35 ez35
    refine r_istore (ls' := [(0, vr 145), (4, vi (720 + (4 * x2))), (5, vi z35)]) dX12_findFactor_49 (by decide) rfl ?_
    refine r_aload_n dX12_findFactor_51 rfl rfl ?_
    refine r_getR (b := 159) dX12_findFactor_52 fX12_55 ob_145 (by decide) rfl rfl ?_
    refine r_lconst (x := 1) dX12_findFactor_55 rfl (by decide) ?_
    refine r_callS (args := [vr 159, vl 1]) dX12_findFactor_56 kX12_369 rfl rfl (Nat.le_of_ble_eq_true rfl) cap0 (Ev.mono V ?_)
    rintro r h' ⟨n36, rfl, rfl, V⟩
    show Rn w mX12_findFactor (d + 1) G Q 59 [(0, vr 145), (4, vi (720 + (4 * x2))), (5, vi z35)] [] (B0, n36)
    refine r_iconst (x := 0) dX12_findFactor_59 rfl (by decide) ?_
    refine r_istore (ls' := [(0, vr 145), (4, vi (720 + (4 * x2))), (5, vi z35), (6, vi 0)]) dX12_findFactor_60 (by decide) rfl ?_
    exact V
  refine r_jlt (tgt := 48) dX12_findFactor_34 (by decide) (fun c31 => ?_) (fun c31 => ?_)
  · refine r_iconst (x := 0) dX12_findFactor_48 rfl (by decide) ?_
    refine r_pick [0, 4] (ls' := [(0, vr 145), (4, vi (720 + (4 * x2)))]) rfl ?_
    exact K 0 (by first | rfl | (simp only [if_pos c31]))
  · refine r_aload_n dX12_findFactor_37 rfl rfl ?_
    refine r_getR (b := 147) dX12_findFactor_38 fX12_13 ob_145 (by decide) rfl rfl ?_
    refine r_iload_n dX12_findFactor_41 rfl rfl ?_
    refine r_iconst (x := 1) dX12_findFactor_42 rfl (by decide) ?_
    refine r_iadd dX12_findFactor_43 (s32 c31) ?_
    refine r_iald dX12_findFactor_44 ob_147 (s33 c31) (s34 c31) ?_
    refine r_goto (tgt := 49) dX12_findFactor_45 (by decide) ?_
    refine r_pick [0, 4] (ls' := [(0, vr 145), (4, vi (720 + (4 * x2)))]) rfl ?_
    exact K (n 147 ((700 + (3 * x1)) + 1)) (by first | rfl | (simp only [if_neg (Int.not_lt.mpr c31)]))

theorem gX12_findFactor_62 {w : WD} {d : Nat} {G : GM} {Q : Option AV → Hp → Prop} {n : NM} {x4 x5 x6 : Int}
    (V :
    ((20 ≤ x6 →
      (inI (x4 + 2)) ∧
      (0 ≤ x4 + 2) ∧
      (x4 + 2 < 1800) ∧
      (inJ (100 - (n 147 (x4 + 2)))) ∧
      (Ev w d 0 0 mX12_multiply [vr 159, vl (100 - (n 147 (x4 + 2)))] (B0, n) (fun r h' => ∃ n26 : NM, r = none ∧ h' = (B0, n26) ∧ 
        (inI (x4 + 3)) ∧
        (0 ≤ x4 + 3) ∧
        (x4 + 3 < 1800) ∧
        ((n26 147 (x4 + 3) ≠ 1 →
          Q none (B0, n26)) ∧
        (n26 147 (x4 + 3) = 1 →
          (Ev w d 0 0 mX12_setTo [vr 162, vl 0] (B0, n26) (fun r h' => ∃ n31 : NM, r = none ∧ h' = (B0, n31) ∧ 
            Rn w mX12_findFactor (d + 1) G Q 163 [(0, vr 145), (6, vl 0), (8, vi 0)] [] (B0, upn n31 162 7 1)))))))) ∧
    (x6 < 20 →
      (x6 < x5 → 0 ≤ x4) ∧
      (x6 < x5 → x4 < 1800) ∧
      (x6 < x5 → inJ (100 - (n 147 x4))) ∧
      (∀ z36 : Int, z36 = (if x5 ≤ x6 then 100 else 100 - (n 147 x4)) → 
      (Ev w d 0 0 mX12_multiply [vr 159, vl z36] (B0, n) (fun r h' => ∃ n37 : NM, r = none ∧ h' = (B0, n37) ∧ 
        (inI (x6 + 1)) ∧
        Rn w mX12_findFactor (d + 1) G Q 62 [(0, vr 145), (4, vi x4), (5, vi x5), (6, vi (x6 + 1))] [] (B0, n37))))))) :
    Rn w mX12_findFactor (d + 1) G Q 62 [(0, vr 145), (4, vi x4), (5, vi x5), (6, vi x6)] [] (B0, n) := by
  refine r_iload dX12_findFactor_62 rfl ?_
  refine r_bipush (x := 20) dX12_findFactor_64 (by decide +kernel) (by decide) ?_
  obtain ⟨V1, V2⟩ := V
  refine r_jge (tgt := 107) dX12_findFactor_66 (by decide) (fun c21 => ?_) (fun c21 => ?_)
  · have V := V1 c21
    refine r_aload_n dX12_findFactor_107 rfl rfl ?_
    refine r_getR (b := 159) dX12_findFactor_108 fX12_55 ob_145 (by decide) rfl rfl ?_
    refine r_ldc2 (x := 100) dX12_findFactor_111 qX12_116 (by decide) ?_
    refine r_aload_n dX12_findFactor_114 rfl rfl ?_
    refine r_getR (b := 147) dX12_findFactor_115 fX12_13 ob_145 (by decide) rfl rfl ?_
    refine r_iload dX12_findFactor_118 rfl ?_
    refine r_iconst (x := 2) dX12_findFactor_120 rfl (by decide) ?_
    obtain ⟨s22, V⟩ := V
    refine r_iadd dX12_findFactor_121 s22 ?_
    obtain ⟨s23, V⟩ := V
    obtain ⟨s24, V⟩ := V
    refine r_iald dX12_findFactor_122 ob_147 s23 s24 ?_
    refine r_i2l dX12_findFactor_123 ?_
    obtain ⟨s25, V⟩ := V
    refine r_lsub dX12_findFactor_124 s25 ?_
    refine r_callS (args := [vr 159, vl (100 - (n 147 (x4 + 2)))]) dX12_findFactor_125 kX12_373 rfl rfl (Nat.le_of_ble_eq_true rfl) cap0 (Ev.mono V ?_)
    rintro r h' ⟨n26, rfl, rfl, V⟩
    show Rn w mX12_findFactor (d + 1) G Q 128 [(0, vr 145), (4, vi x4), (5, vi x5), (6, vi x6)] [] (B0, n26)
    refine r_aload_n dX12_findFactor_128 rfl rfl ?_
    refine r_getR (b := 147) dX12_findFactor_129 fX12_13 ob_145 (by decide) rfl rfl ?_
    refine r_iload dX12_findFactor_132 rfl ?_
    refine r_iconst (x := 3) dX12_findFactor_134 rfl (by decide) ?_
    obtain ⟨s27, V⟩ := V
    refine r_iadd dX12_findFactor_135 s27 ?_
    obtain ⟨s28, V⟩ := V
    obtain ⟨s29, V⟩ := V
    refine r_iald dX12_findFactor_136 ob_147 s28 s29 ?_
    refine r_iconst (x := 1) dX12_findFactor_137 rfl (by decide) ?_
    obtain ⟨V1, V2⟩ := V
    refine r_jne (tgt := 235) dX12_findFactor_138 (by decide) (fun c30 => ?_) (fun c30 => ?_)
    · have V := V1 c30
      exact r_ret dX12_findFactor_235 rfl V
    · have V := V2 c30
      refine r_aload_n dX12_findFactor_141 rfl rfl ?_
      refine r_getR (b := 162) dX12_findFactor_142 fX12_64 ob_145 (by decide) rfl rfl ?_
      refine r_lconst (x := 0) dX12_findFactor_145 rfl (by decide) ?_
      refine r_callS (args := [vr 162, vl 0]) dX12_findFactor_146 kX12_369 rfl rfl (Nat.le_of_ble_eq_true rfl) cap0 (Ev.mono V ?_)
      rintro r h' ⟨n31, rfl, rfl, V⟩
      show Rn w mX12_findFactor (d + 1) G Q 149 [(0, vr 145), (4, vi x4), (5, vi x5), (6, vi x6)] [] (B0, n31)
      refine r_aload_n dX12_findFactor_149 rfl rfl ?_
      refine r_getR (b := 162) dX12_findFactor_150 fX12_64 ob_145 (by decide) rfl rfl ?_
      refine r_bipush (x := 7) dX12_findFactor_153 (by decide +kernel) (by decide) ?_
      refine r_lconst (x := 1) dX12_findFactor_155 rfl (by decide) ?_
      refine r_last (h' := (B0, upn n31 162 7 1)) dX12_findFactor_156 ob_162 (by decide) (by decide) rfl ?_
      refine r_lconst (x := 0) dX12_findFactor_157 rfl (by decide) ?_
      refine r_lstore (ls' := [(0, vr 145), (4, vi x4), (5, vi x5), (6, vl 0)]) dX12_findFactor_158 (by decide) rfl ?_
      refine r_iconst (x := 0) dX12_findFactor_160 rfl (by decide) ?_
      refine r_istore (ls' := [(0, vr 145), (4, vi x4), (5, vi x5), (6, vl 0), (8, vi 0)]) dX12_findFactor_161 (by decide) rfl ?_
      refine r_pick [0, 3, 4] (ls' := [(0, vr 145), (6, vl 0), (8, vi 0)]) rfl ?_
      exact V
  · have V := V2 c21
    refine r_aload_n dX12_findFactor_69 rfl rfl ?_
    refine r_getR (b := 159) dX12_findFactor_70 fX12_55 ob_145 (by decide) rfl rfl ?_
    refine r_iload dX12_findFactor_73 rfl ?_
    refine r_iload dX12_findFactor_75 rfl ?_
    obtain ⟨s33, V⟩ := V
    obtain ⟨s34, V⟩ := V
    obtain ⟨s35, V⟩ := V
    have K : ∀ z36 : Int, z36 = (if x5 ≤ x6 then 100 else 100 - (n 147 x4)) → Rn w mX12_findFactor (d + 1) G Q 98 [(0, vr 145), (4, vi x4), (5, vi x5), (6, vi x6)] [vl z36, vr 159] (B0, n) := by
      intro z36 ez36
      have V := V z36 ez36
      refine r_callS (args := [vr 159, vl z36]) dX12_findFactor_98 kX12_373 rfl rfl (Nat.le_of_ble_eq_true rfl) cap0 (Ev.mono V ?_)
      rintro r h' ⟨n37, rfl, rfl, V⟩
      show Rn w mX12_findFactor (d + 1) G Q 101 [(0, vr 145), (4, vi x4), (5, vi x5), (6, vi x6)] [] (B0, n37)
      obtain ⟨s38, V⟩ := V
      refine r_iinc (y := x6 + 1) (ls' := [(0, vr 145), (4, vi x4), (5, vi x5), (6, vi (x6 + 1))]) dX12_findFactor_101 rfl rfl s38 (by decide) rfl ?_
      refine r_goto (tgt := 62) dX12_findFactor_104 (by decide) ?_
      exact V
    refine r_jge (tgt := 95) dX12_findFactor_77 (by decide) (fun c32 => ?_) (fun c32 => ?_)
    · refine r_ldc2 (x := 100) dX12_findFactor_95 qX12_116 (by decide) ?_
      exact K 100 (by first | rfl | (simp only [if_pos c32]))
    · refine r_ldc2 (x := 100) dX12_findFactor_80 qX12_116 (by decide) ?_
      refine r_aload_n dX12_findFactor_83 rfl rfl ?_
      refine r_getR (b := 147) dX12_findFactor_84 fX12_13 ob_145 (by decide) rfl rfl ?_
      refine r_iload dX12_findFactor_87 rfl ?_
      refine r_iald dX12_findFactor_89 ob_147 (s33 c32) (s34 c32) ?_
      refine r_i2l dX12_findFactor_90 ?_
      refine r_lsub dX12_findFactor_91 (s35 c32) ?_
      refine r_goto (tgt := 98) dX12_findFactor_92 (by decide) ?_
      exact K (100 - (n 147 x4)) (by first | rfl | (simp only [if_neg (Int.not_le.mpr c32)]))

theorem gX12_findFactor_163 {w : WD} {d : Nat} {G : GM} {Q : Option AV → Hp → Prop} {n : NM} {x6 x8 : Int}
    (V :
    ((100 ≤ x8 →
      Q none (B0, n)) ∧
    (x8 < 100 →
      (0 ≤ x8) ∧
      (x8 < 100) ∧
      (0 ≤ x8) ∧
      (x8 < 100) ∧
      (inJ ((n 162 x8) - (n 159 x8))) ∧
      (inJ (((n 162 x8) - (n 159 x8)) - x6)) ∧
      (∀ z29 : Int, z29 = (if 0 ≤ ((n 162 x8) - (n 159 x8)) - x6 then 0 else 1) → 
      (((n 162 x8) - (n 159 x8)) - x6 < 0 → inJ ((((n 162 x8) - (n 159 x8)) - x6) + 1000000)) ∧
      (∀ z32 : Int, z32 = (if 0 ≤ ((n 162 x8) - (n 159 x8)) - x6 then ((n 162 x8) - (n 159 x8)) - x6 else (((n 162 x8) - (n 159 x8)) - x6) + 1000000) → 
      (0 ≤ x8) ∧
      (x8 < 100) ∧
      (inI (x8 + 1)) ∧
      Rn w mX12_findFactor d G Q 163 [(0, vr 145), (6, vl z29), (8, vi (x8 + 1))] [] (B0, upn n 159 x8 z32)))))) :
    Rn w mX12_findFactor d G Q 163 [(0, vr 145), (6, vl x6), (8, vi x8)] [] (B0, n) := by
  refine r_iload dX12_findFactor_163 rfl ?_
  refine r_bipush (x := 100) dX12_findFactor_165 (by decide +kernel) (by decide) ?_
  obtain ⟨V1, V2⟩ := V
  refine r_jge (tgt := 235) dX12_findFactor_167 (by decide) (fun c21 => ?_) (fun c21 => ?_)
  · have V := V1 c21
    exact r_ret dX12_findFactor_235 rfl V
  · have V := V2 c21
    refine r_aload_n dX12_findFactor_170 rfl rfl ?_
    refine r_getR (b := 162) dX12_findFactor_171 fX12_64 ob_145 (by decide) rfl rfl ?_
    refine r_iload dX12_findFactor_174 rfl ?_
    obtain ⟨s22, V⟩ := V
    obtain ⟨s23, V⟩ := V
    refine r_lald dX12_findFactor_176 ob_162 s22 s23 ?_
    refine r_aload_n dX12_findFactor_177 rfl rfl ?_
    refine r_getR (b := 159) dX12_findFactor_178 fX12_55 ob_145 (by decide) rfl rfl ?_
    refine r_iload dX12_findFactor_181 rfl ?_
    obtain ⟨s24, V⟩ := V
    obtain ⟨s25, V⟩ := V
    refine r_lald dX12_findFactor_183 ob_159 s24 s25 ?_
    obtain ⟨s26, V⟩ := V
    refine r_lsub dX12_findFactor_184 s26 ?_
    refine r_lload dX12_findFactor_185 rfl ?_
    obtain ⟨s27, V⟩ := V
    refine r_lsub dX12_findFactor_187 s27 ?_
    refine r_lstore (ls' := [(0, vr 145), (6, vl x6), (8, vi x8), (9, vl (((n 162 x8) - (n 159 x8)) - x6))]) dX12_findFactor_188 (by decide) rfl ?_
    refine r_lload dX12_findFactor_190 rfl ?_
    refine r_lconst (x := 0) dX12_findFactor_192 rfl (by decide) ?_
    have K : ∀ z29 : Int, z29 = (if 0 ≤ ((n 162 x8) - (n 159 x8)) - x6 then 0 else 1) → Rn w mX12_findFactor d G Q 202 [(0, vr 145), (8, vi x8), (9, vl (((n 162 x8) - (n 159 x8)) - x6))] [vl z29] (B0, n) := by
      intro z29 ez29
      have V := V z29 ez29
      refine r_lstore (ls' := [(0, vr 145), (6, vl z29), (8, vi x8), (9, vl (((n 162 x8) - (n 159 x8)) - x6))]) dX12_findFactor_202 (by decide) rfl ?_
      refine r_aload_n dX12_findFactor_204 rfl rfl ?_
      refine r_getR (b := 159) dX12_findFactor_205 fX12_55 ob_145 (by decide) rfl rfl ?_
      refine r_iload dX12_findFactor_208 rfl ?_
      refine r_lload dX12_findFactor_210 rfl ?_
      refine r_lconst (x := 0) dX12_findFactor_212 rfl (by decide) ?_
      obtain ⟨s31, V⟩ := V
      have K : ∀ z32 : Int, z32 = (if 0 ≤ ((n 162 x8) - (n 159 x8)) - x6 then ((n 162 x8) - (n 159 x8)) - x6 else (((n 162 x8) - (n 159 x8)) - x6) + 1000000) → Rn w mX12_findFactor d G Q 228 [(0, vr 145), (6, vl z29), (8, vi x8)] [vl z32, vi x8, vr 159] (B0, n) := by
        intro z32 ez32
        have V := V z32 ez32
        obtain ⟨s33, V⟩ := V
        obtain ⟨s34, V⟩ := V
        refine r_last (h' := (B0, upn n 159 x8 z32)) dX12_findFactor_228 ob_159 s33 s34 rfl ?_
        obtain ⟨s35, V⟩ := V
        refine r_iinc (y := x8 + 1) (ls' := [(0, vr 145), (6, vl z29), (8, vi (x8 + 1))]) dX12_findFactor_229 rfl rfl s35 (by decide) rfl ?_
        refine r_goto (tgt := 163) dX12_findFactor_232 (by decide) ?_
        exact V
      refine r_lge dX12_findFactor_213 rfl dX12_findFactor_214 (tgt := 226) (by decide) (fun c30 => ?_) (fun c30 => ?_)
      · refine r_lload dX12_findFactor_226 rfl ?_
        refine r_pick [0, 1, 2] (ls' := [(0, vr 145), (6, vl z29), (8, vi x8)]) rfl ?_
        exact K (((n 162 x8) - (n 159 x8)) - x6) (by first | rfl | (simp only [if_pos c30]))
      · refine r_lload dX12_findFactor_217 rfl ?_
        refine r_ldc2 (x := 1000000) dX12_findFactor_219 qX12_176 (by decide) ?_
        refine r_ladd dX12_findFactor_222 (s31 c30) ?_
        refine r_goto (tgt := 228) dX12_findFactor_223 (by decide) ?_
        refine r_pick [0, 1, 2] (ls' := [(0, vr 145), (6, vl z29), (8, vi x8)]) rfl ?_
        exact K ((((n 162 x8) - (n 159 x8)) - x6) + 1000000) (by first | rfl | (simp only [if_neg (Int.not_le.mpr c30)]))
    refine r_lge dX12_findFactor_193 rfl dX12_findFactor_194 (tgt := 201) (by decide) (fun c28 => ?_) (fun c28 => ?_)
    · refine r_lconst (x := 0) dX12_findFactor_201 rfl (by decide) ?_
      refine r_pick [0, 2, 3] (ls' := [(0, vr 145), (8, vi x8), (9, vl (((n 162 x8) - (n 159 x8)) - x6))]) rfl ?_
      exact K 0 (by first | rfl | (simp only [if_pos c28]))
    · refine r_lconst (x := 1) dX12_findFactor_197 rfl (by decide) ?_
      refine r_goto (tgt := 202) dX12_findFactor_198 (by decide) ?_
      refine r_pick [0, 2, 3] (ls' := [(0, vr 145), (8, vi x8), (9, vl (((n 162 x8) - (n 159 x8)) - x6))]) rfl ?_
      exact K 1 (by first | rfl | (simp only [if_neg (Int.not_le.mpr c28)]))

theorem gX12_findCount_0 {w : WD} {d : Nat} {G : GM} {Q : Option AV → Hp → Prop} {n : NM} {x1 x2 : Int}
    (V :
    (inI (3 * x1)) ∧
    (inI (700 + (3 * x1))) ∧
    (0 ≤ 700 + (3 * x1)) ∧
    (700 + (3 * x1) < 1800) ∧
    (Ev w d 0 0 mX12_setTo [vr 158, vl (n 147 (700 + (3 * x1)))] (B0, n) (fun r h' => ∃ n25 : NM, r = none ∧ h' = (B0, n25) ∧ 
      Rn w mX12_findCount (d + 1) G Q 22 [(0, vr 145), (1, vi x1), (2, vi x2), (3, vi 0)] [] (B0, n25)))) :
    Rn w mX12_findCount (d + 1) G Q 0 [(0, vr 145), (1, vi x1), (2, vi x2)] [] (B0, n) := by
  refine r_aload_n dX12_findCount_0 rfl rfl ?_
  refine r_getR (b := 158) dX12_findCount_1 fX12_52 ob_145 (by decide) rfl rfl ?_
  refine r_aload_n dX12_findCount_4 rfl rfl ?_
  refine r_getR (b := 147) dX12_findCount_5 fX12_13 ob_145 (by decide) rfl rfl ?_
  refine r_sipush (x := 700) dX12_findCount_8 (by decide +kernel) (by decide) ?_
  refine r_iconst (x := 3) dX12_findCount_11 rfl (by decide) ?_
  refine r_iload_n dX12_findCount_12 rfl rfl ?_
  obtain ⟨s21, V⟩ := V
  refine r_imul dX12_findCount_13 s21 ?_
  obtain ⟨s22, V⟩ := V
  refine r_iadd dX12_findCount_14 s22 ?_
  obtain ⟨s23, V⟩ := V
  obtain ⟨s24, V⟩ := V
  refine r_iald dX12_findCount_15 ob_147 s23 s24 ?_
  refine r_i2l dX12_findCount_16 ?_
  refine r_callS (args := [vr 158, vl (n 147 (700 + (3 * x1)))]) dX12_findCount_17 kX12_369 rfl rfl (Nat.le_of_ble_eq_true rfl) cap0 (Ev.mono V ?_)
  rintro r h' ⟨n25, rfl, rfl, V⟩
  show Rn w mX12_findCount (d + 1) G Q 20 [(0, vr 145), (1, vi x1), (2, vi x2)] [] (B0, n25)
  refine r_iconst (x := 0) dX12_findCount_20 rfl (by decide) ?_
  refine r_istore_n (ls' := [(0, vr 145), (1, vi x1), (2, vi x2), (3, vi 0)]) dX12_findCount_21 rfl (by decide) rfl ?_
  exact V

theorem gX12_findCount_22 {w : WD} {d : Nat} {G : GM} {Q : Option AV → Hp → Prop} {n : NM} {x1 x2 x3 : Int}
    (V :
    ((n 147 8 ≤ x3 →
      Q none (B0, n)) ∧
    (x3 < n 147 8 →
      ((x3 = x2 →
        (inI (x3 + 1)) ∧
        Rn w mX12_findCount (d + 1) G Q 22 [(0, vr 145), (1, vi x1), (2, vi x2), (3, vi (x3 + 1))] [] (B0, n)) ∧
      (x3 ≠ x2 →
        (Ev w d 0 0 mX12_findFactor [vr 145, vi x1, vi x3] (B0, n) (fun r h' => ∃ n24 : NM, r = none ∧ h' = (B0, n24) ∧ 
          (Ev w d 0 0 mX12_multiplyBoth [vr 145] (B0, n24) (fun r h' => ∃ n25 : NM, r = none ∧ h' = (B0, n25) ∧ 
            (inI (x3 + 1)) ∧
            Rn w mX12_findCount (d + 1) G Q 22 [(0, vr 145), (1, vi x1), (2, vi x2), (3, vi (x3 + 1))] [] (B0, n25)))))))))) :
    Rn w mX12_findCount (d + 1) G Q 22 [(0, vr 145), (1, vi x1), (2, vi x2), (3, vi x3)] [] (B0, n) := by
  refine r_iload_n dX12_findCount_22 rfl rfl ?_
  refine r_aload_n dX12_findCount_23 rfl rfl ?_
  refine r_getR (b := 147) dX12_findCount_24 fX12_13 ob_145 (by decide) rfl rfl ?_
  refine r_bipush (x := 8) dX12_findCount_27 (by decide +kernel) (by decide) ?_
  refine r_iald dX12_findCount_29 ob_147 (by decide) (by decide) ?_
  obtain ⟨V1, V2⟩ := V
  refine r_jge (tgt := 54) dX12_findCount_30 (by decide) (fun c21 => ?_) (fun c21 => ?_)
  · have V := V1 c21
    exact r_ret dX12_findCount_54 rfl V
  · have V := V2 c21
    refine r_iload_n dX12_findCount_33 rfl rfl ?_
    refine r_iload_n dX12_findCount_34 rfl rfl ?_
    obtain ⟨V1, V2⟩ := V
    refine r_jeq (tgt := 48) dX12_findCount_35 (by decide) (fun c22 => ?_) (fun c22 => ?_)
    · have V := V1 c22
      obtain ⟨s23, V⟩ := V
      refine r_iinc (y := x3 + 1) (ls' := [(0, vr 145), (1, vi x1), (2, vi x2), (3, vi (x3 + 1))]) dX12_findCount_48 rfl rfl s23 (by decide) rfl ?_
      refine r_goto (tgt := 22) dX12_findCount_51 (by decide) ?_
      exact V
    · have V := V2 c22
      refine r_aload_n dX12_findCount_38 rfl rfl ?_
      refine r_iload_n dX12_findCount_39 rfl rfl ?_
      refine r_iload_n dX12_findCount_40 rfl rfl ?_
      refine r_callV (args := [vi x1, vi x3]) dX12_findCount_41 kX12_376 ob_145 ⟨_, _, rfl⟩ (by decide) rfl rfl (Nat.le_of_ble_eq_true rfl) cap0 (Ev.mono V ?_)
      rintro r h' ⟨n24, rfl, rfl, V⟩
      show Rn w mX12_findCount (d + 1) G Q 44 [(0, vr 145), (1, vi x1), (2, vi x2), (3, vi x3)] [] (B0, n24)
      refine r_aload_n dX12_findCount_44 rfl rfl ?_
      refine r_callV (args := []) dX12_findCount_45 kX12_379 ob_145 ⟨_, _, rfl⟩ (by decide) rfl rfl (Nat.le_of_ble_eq_true rfl) cap0 (Ev.mono V ?_)
      rintro r h' ⟨n25, rfl, rfl, V⟩
      show Rn w mX12_findCount (d + 1) G Q 48 [(0, vr 145), (1, vi x1), (2, vi x2), (3, vi x3)] [] (B0, n25)
      obtain ⟨s26, V⟩ := V
      refine r_iinc (y := x3 + 1) (ls' := [(0, vr 145), (1, vi x1), (2, vi x2), (3, vi (x3 + 1))]) dX12_findCount_48 rfl rfl s26 (by decide) rfl ?_
      refine r_goto (tgt := 22) dX12_findCount_51 (by decide) ?_
      exact V

theorem gX12_oddsOf_0 {w : WD} {d : Nat} {G : GM} {Q : Option AV → Hp → Prop} {n : NM} {x1 x2 : Int}
    (V :
    (Ev w d 0 0 mX12_setTo [vr 161, vl 0] (B0, n) (fun r h' => ∃ n21 : NM, r = none ∧ h' = (B0, n21) ∧ 
      Rn w mX12_oddsOf (d + 1) G Q 10 [(0, vr 145), (1, vi x1), (2, vi x2), (3, vi 0)] [] (B0, n21)))) :
    Rn w mX12_oddsOf (d + 1) G Q 0 [(0, vr 145), (1, vi x1), (2, vi x2)] [] (B0, n) := by
  refine r_aload_n dX12_oddsOf_0 rfl rfl ?_
  refine r_getR (b := 161) dX12_oddsOf_1 fX12_61 ob_145 (by decide) rfl rfl ?_
  refine r_lconst (x := 0) dX12_oddsOf_4 rfl (by decide) ?_
  refine r_callS (args := [vr 161, vl 0]) dX12_oddsOf_5 kX12_369 rfl rfl (Nat.le_of_ble_eq_true rfl) cap0 (Ev.mono V ?_)
  rintro r h' ⟨n21, rfl, rfl, V⟩
  show Rn w mX12_oddsOf (d + 1) G Q 8 [(0, vr 145), (1, vi x1), (2, vi x2)] [] (B0, n21)
  refine r_iconst (x := 0) dX12_oddsOf_8 rfl (by decide) ?_
  refine r_istore_n (ls' := [(0, vr 145), (1, vi x1), (2, vi x2), (3, vi 0)]) dX12_oddsOf_9 rfl (by decide) rfl ?_
  exact V

theorem gX12_oddsOf_10 {w : WD} {d : Nat} {G : GM} {Q : Option AV → Hp → Prop} {n : NM} {x1 x2 x3 : Int}
    (V :
    ((n 147 7 ≤ x3 →
      (Ev w d 0 0 mX12_findCount [vr 145, vi x1, vi x2] (B0, n) (fun r h' => ∃ n22 : NM, r = none ∧ h' = (B0, n22) ∧ 
        (Ev w d 0 0 mX12_multiply [vr 158, vl 1000000] (B0, n22) (fun r h' => ∃ n23 : NM, r = none ∧ h' = (B0, n23) ∧ 
          Rn w mX12_oddsOf (d + 1) G Q 116 [(0, vr 145), (3, vi 0), (4, vi 1000000)] [] (B0, n23)))))) ∧
    (x3 < n 147 7 →
      (Ev w d 0 0 mX12_findCount [vr 145, vi x3, vi x2] (B0, n) (fun r h' => ∃ n24 : NM, r = none ∧ h' = (B0, n24) ∧ 
        Rn w mX12_oddsOf (d + 1) G Q 33 [(0, vr 145), (1, vi x1), (2, vi x2), (3, vi x3), (4, vl 0), (6, vi 0)] [] (B0, n24)))))) :
    Rn w mX12_oddsOf (d + 1) G Q 10 [(0, vr 145), (1, vi x1), (2, vi x2), (3, vi x3)] [] (B0, n) := by
  refine r_iload_n dX12_oddsOf_10 rfl rfl ?_
  refine r_aload_n dX12_oddsOf_11 rfl rfl ?_
  refine r_getR (b := 147) dX12_oddsOf_12 fX12_13 ob_145 (by decide) rfl rfl ?_
  refine r_bipush (x := 7) dX12_oddsOf_15 (by decide +kernel) (by decide) ?_
  refine r_iald dX12_oddsOf_17 ob_147 (by decide) (by decide) ?_
  obtain ⟨V1, V2⟩ := V
  refine r_jge (tgt := 93) dX12_oddsOf_18 (by decide) (fun c21 => ?_) (fun c21 => ?_)
  · have V := V1 c21
    refine r_aload_n dX12_oddsOf_93 rfl rfl ?_
    refine r_iload_n dX12_oddsOf_94 rfl rfl ?_
    refine r_iload_n dX12_oddsOf_95 rfl rfl ?_
    refine r_callV (args := [vi x1, vi x2]) dX12_oddsOf_96 kX12_382 ob_145 ⟨_, _, rfl⟩ (by decide) rfl rfl (Nat.le_of_ble_eq_true rfl) cap0 (Ev.mono V ?_)
    rintro r h' ⟨n22, rfl, rfl, V⟩
    show Rn w mX12_oddsOf (d + 1) G Q 99 [(0, vr 145), (1, vi x1), (2, vi x2), (3, vi x3)] [] (B0, n22)
    refine r_aload_n dX12_oddsOf_99 rfl rfl ?_
    refine r_getR (b := 158) dX12_oddsOf_100 fX12_52 ob_145 (by decide) rfl rfl ?_
    refine r_ldc2 (x := 1000000) dX12_oddsOf_103 qX12_176 (by decide) ?_
    refine r_callS (args := [vr 158, vl 1000000]) dX12_oddsOf_106 kX12_373 rfl rfl (Nat.le_of_ble_eq_true rfl) cap0 (Ev.mono V ?_)
    rintro r h' ⟨n23, rfl, rfl, V⟩
    show Rn w mX12_oddsOf (d + 1) G Q 109 [(0, vr 145), (1, vi x1), (2, vi x2), (3, vi x3)] [] (B0, n23)
    refine r_iconst (x := 0) dX12_oddsOf_109 rfl (by decide) ?_
    refine r_istore_n (ls' := [(0, vr 145), (1, vi x1), (2, vi x2), (3, vi 0)]) dX12_oddsOf_110 rfl (by decide) rfl ?_
    refine r_ldcw (x := 1000000) dX12_oddsOf_111 qX12_385 (by decide) ?_
    refine r_istore (ls' := [(0, vr 145), (1, vi x1), (2, vi x2), (3, vi 0), (4, vi 1000000)]) dX12_oddsOf_114 (by decide) rfl ?_
    refine r_pick [0, 3, 4] (ls' := [(0, vr 145), (3, vi 0), (4, vi 1000000)]) rfl ?_
    exact V
  · have V := V2 c21
    refine r_aload_n dX12_oddsOf_21 rfl rfl ?_
    refine r_iload_n dX12_oddsOf_22 rfl rfl ?_
    refine r_iload_n dX12_oddsOf_23 rfl rfl ?_
    refine r_callV (args := [vi x3, vi x2]) dX12_oddsOf_24 kX12_382 ob_145 ⟨_, _, rfl⟩ (by decide) rfl rfl (Nat.le_of_ble_eq_true rfl) cap0 (Ev.mono V ?_)
    rintro r h' ⟨n24, rfl, rfl, V⟩
    show Rn w mX12_oddsOf (d + 1) G Q 27 [(0, vr 145), (1, vi x1), (2, vi x2), (3, vi x3)] [] (B0, n24)
    refine r_lconst (x := 0) dX12_oddsOf_27 rfl (by decide) ?_
    refine r_lstore (ls' := [(0, vr 145), (1, vi x1), (2, vi x2), (3, vi x3), (4, vl 0)]) dX12_oddsOf_28 (by decide) rfl ?_
    refine r_iconst (x := 0) dX12_oddsOf_30 rfl (by decide) ?_
    refine r_istore (ls' := [(0, vr 145), (1, vi x1), (2, vi x2), (3, vi x3), (4, vl 0), (6, vi 0)]) dX12_oddsOf_31 (by decide) rfl ?_
    exact V

theorem gX12_oddsOf_116 {w : WD} {d : Nat} {G : GM} {Q : Option AV → Hp → Prop} {n : NM} {x3 x4 : Int}
    (V :
    ((x4 ≤ x3 →
      (Ev w d 0 0 mX12_setTo [vr 162, vl 0] (B0, n) (fun r h' => ∃ n22 : NM, r = none ∧ h' = (B0, n22) ∧ 
        (Ev w d 0 0 mX12_compare [vr 161, vr 162] (B0, n22) (fun r h' => ∃ (x24 : Int) (n23 : NM), r = some (vi x24) ∧ h' = (B0, n23) ∧ 
          ((x24 ≠ 0 →
            Q (some (vi x3)) (B0, n23)) ∧
          (x24 = 0 →
            Q (some (vi 0)) (B0, n23)))))))) ∧
    (x3 < x4 →
      (inI (x3 + x4)) ∧
      (inI ((x3 + x4) + 1)) ∧
      (0 ≤ (x3 + x4) + 1) ∧
      Rn w mX12_oddsOf (d + 1) G Q 135 [(0, vr 145), (3, vi x3), (4, vi x4), (5, vi (((x3 + x4) + 1) / 2)), (6, vi 0)] [] (B0, n)))) :
    Rn w mX12_oddsOf (d + 1) G Q 116 [(0, vr 145), (3, vi x3), (4, vi x4)] [] (B0, n) := by
  refine r_iload_n dX12_oddsOf_116 rfl rfl ?_
  refine r_iload dX12_oddsOf_117 rfl ?_
  obtain ⟨V1, V2⟩ := V
  refine r_jge (tgt := 201) dX12_oddsOf_119 (by decide) (fun c21 => ?_) (fun c21 => ?_)
  · have V := V1 c21
    refine r_aload_n dX12_oddsOf_201 rfl rfl ?_
    refine r_getR (b := 162) dX12_oddsOf_202 fX12_64 ob_145 (by decide) rfl rfl ?_
    refine r_lconst (x := 0) dX12_oddsOf_205 rfl (by decide) ?_
    refine r_callS (args := [vr 162, vl 0]) dX12_oddsOf_206 kX12_369 rfl rfl (Nat.le_of_ble_eq_true rfl) cap0 (Ev.mono V ?_)
    rintro r h' ⟨n22, rfl, rfl, V⟩
    show Rn w mX12_oddsOf (d + 1) G Q 209 [(0, vr 145), (3, vi x3), (4, vi x4)] [] (B0, n22)
    refine r_aload_n dX12_oddsOf_209 rfl rfl ?_
    refine r_getR (b := 161) dX12_oddsOf_210 fX12_61 ob_145 (by decide) rfl rfl ?_
    refine r_aload_n dX12_oddsOf_213 rfl rfl ?_
    refine r_getR (b := 162) dX12_oddsOf_214 fX12_64 ob_145 (by decide) rfl rfl ?_
    refine r_callS (args := [vr 161, vr 162]) dX12_oddsOf_217 kX12_386 rfl rfl (Nat.le_of_ble_eq_true rfl) cap0 (Ev.mono V ?_)
    rintro r h' ⟨x24, n23, rfl, rfl, V⟩
    show Rn w mX12_oddsOf (d + 1) G Q 220 [(0, vr 145), (3, vi x3), (4, vi x4)] [vi x24] (B0, n23)
    obtain ⟨V1, V2⟩ := V
    refine r_zne (tgt := 227) dX12_oddsOf_220 (by decide) (fun c25 => ?_) (fun c25 => ?_)
    · have V := V1 c25
      refine r_iload_n dX12_oddsOf_227 rfl rfl ?_
      exact r_iret dX12_oddsOf_228 rfl V
    · have V := V2 c25
      refine r_iconst (x := 0) dX12_oddsOf_223 rfl (by decide) ?_
      refine r_goto (tgt := 228) dX12_oddsOf_224 (by decide) ?_
      exact r_iret dX12_oddsOf_228 rfl V
  · have V := V2 c21
    refine r_iload_n dX12_oddsOf_122 rfl rfl ?_
    refine r_iload dX12_oddsOf_123 rfl ?_
    obtain ⟨s26, V⟩ := V
    refine r_iadd dX12_oddsOf_125 s26 ?_
    refine r_iconst (x := 1) dX12_oddsOf_126 rfl (by decide) ?_
    obtain ⟨s27, V⟩ := V
    refine r_iadd dX12_oddsOf_127 s27 ?_
    refine r_iconst (x := 2) dX12_oddsOf_128 rfl (by decide) ?_
    obtain ⟨s28, V⟩ := V
    refine r_idiv dX12_oddsOf_129 s28 (by decide) ?_
    refine r_istore (ls' := [(0, vr 145), (3, vi x3), (4, vi x4), (5, vi (((x3 + x4) + 1) / 2))]) dX12_oddsOf_130 (by decide) rfl ?_
    refine r_iconst (x := 0) dX12_oddsOf_132 rfl (by decide) ?_
    refine r_istore (ls' := [(0, vr 145), (3, vi x3), (4, vi x4), (5, vi (((x3 + x4) + 1) / 2)), (6, vi 0)]) dX12_oddsOf_133 (by decide) rfl ?_
    exact V

theorem gX12_oddsOf_33 {w : WD} {d : Nat} {G : GM} {Q : Option AV → Hp → Prop} {n : NM} {x1 x2 x3 x4 x6 : Int}
    (V :
    ((100 ≤ x6 →
      (inI (x3 + 1)) ∧
      Rn w mX12_oddsOf d G Q 10 [(0, vr 145), (1, vi x1), (2, vi x2), (3, vi (x3 + 1))] [] (B0, n)) ∧
    (x6 < 100 →
      (0 ≤ x6) ∧
      (x6 < 100) ∧
      (0 ≤ x6) ∧
      (x6 < 100) ∧
      (inJ ((n 161 x6) + (n 158 x6))) ∧
      (inJ (((n 161 x6) + (n 158 x6)) + x4)) ∧
      (0 ≤ ((n 161 x6) + (n 158 x6)) + x4) ∧
      (0 ≤ x6) ∧
      (x6 < 100) ∧
      (0 ≤ ((n 161 x6) + (n 158 x6)) + x4) ∧
      (inI (x6 + 1)) ∧
      Rn w mX12_oddsOf d G Q 33 [(0, vr 145), (1, vi x1), (2, vi x2), (3, vi x3), (4, vl ((((n 161 x6) + (n 158 x6)) + x4) / 1000000)), (6, vi (x6 + 1))] [] (B0, upn n 161 x6 ((((n 161 x6) + (n 158 x6)) + x4) % 1000000))))) :
    Rn w mX12_oddsOf d G Q 33 [(0, vr 145), (1, vi x1), (2, vi x2), (3, vi x3), (4, vl x4), (6, vi x6)] [] (B0, n) := by
  refine r_iload dX12_oddsOf_33 rfl ?_
  refine r_bipush (x := 100) dX12_oddsOf_35 (by decide +kernel) (by decide) ?_
  obtain ⟨V1, V2⟩ := V
  refine r_jge (tgt := 87) dX12_oddsOf_37 (by decide) (fun c21 => ?_) (fun c21 => ?_)
  · have V := V1 c21
    obtain ⟨s22, V⟩ := V
    refine r_iinc (y := x3 + 1) (ls' := [(0, vr 145), (1, vi x1), (2, vi x2), (3, vi (x3 + 1)), (4, vl x4), (6, vi x6)]) dX12_oddsOf_87 rfl rfl s22 (by decide) rfl ?_
    refine r_goto (tgt := 10) dX12_oddsOf_90 (by decide) ?_
    refine r_pick [0, 1, 2, 3] (ls' := [(0, vr 145), (1, vi x1), (2, vi x2), (3, vi (x3 + 1))]) rfl ?_
    exact V
  · have V := V2 c21
    refine r_aload_n dX12_oddsOf_40 rfl rfl ?_
    refine r_getR (b := 161) dX12_oddsOf_41 fX12_61 ob_145 (by decide) rfl rfl ?_
    refine r_iload dX12_oddsOf_44 rfl ?_
    obtain ⟨s23, V⟩ := V
    obtain ⟨s24, V⟩ := V
    refine r_lald dX12_oddsOf_46 ob_161 s23 s24 ?_
    refine r_aload_n dX12_oddsOf_47 rfl rfl ?_
    refine r_getR (b := 158) dX12_oddsOf_48 fX12_52 ob_145 (by decide) rfl rfl ?_
    refine r_iload dX12_oddsOf_51 rfl ?_
    obtain ⟨s25, V⟩ := V
    obtain ⟨s26, V⟩ := V
    refine r_lald dX12_oddsOf_53 ob_158 s25 s26 ?_
    obtain ⟨s27, V⟩ := V
    refine r_ladd dX12_oddsOf_54 s27 ?_
    refine r_lload dX12_oddsOf_55 rfl ?_
    obtain ⟨s28, V⟩ := V
    refine r_ladd dX12_oddsOf_57 s28 ?_
    refine r_lstore (ls' := [(0, vr 145), (1, vi x1), (2, vi x2), (3, vi x3), (4, vl x4), (6, vi x6), (7, vl (((n 161 x6) + (n 158 x6)) + x4))]) dX12_oddsOf_58 (by decide) rfl ?_
    refine r_aload_n dX12_oddsOf_60 rfl rfl ?_
    refine r_getR (b := 161) dX12_oddsOf_61 fX12_61 ob_145 (by decide) rfl rfl ?_
    refine r_iload dX12_oddsOf_64 rfl ?_
    refine r_lload dX12_oddsOf_66 rfl ?_
    refine r_ldc2 (x := 1000000) dX12_oddsOf_68 qX12_176 (by decide) ?_
    obtain ⟨s29, V⟩ := V
    refine r_lrem dX12_oddsOf_71 s29 (by decide) ?_
    obtain ⟨s30, V⟩ := V
    obtain ⟨s31, V⟩ := V
    refine r_last (h' := (B0, upn n 161 x6 ((((n 161 x6) + (n 158 x6)) + x4) % 1000000))) dX12_oddsOf_72 ob_161 s30 s31 rfl ?_
    refine r_lload dX12_oddsOf_73 rfl ?_
    refine r_ldc2 (x := 1000000) dX12_oddsOf_75 qX12_176 (by decide) ?_
    obtain ⟨s32, V⟩ := V
    refine r_ldiv dX12_oddsOf_78 s32 (by decide) ?_
    refine r_lstore (ls' := [(0, vr 145), (1, vi x1), (2, vi x2), (3, vi x3), (4, vl ((((n 161 x6) + (n 158 x6)) + x4) / 1000000)), (6, vi x6), (7, vl (((n 161 x6) + (n 158 x6)) + x4))]) dX12_oddsOf_79 (by decide) rfl ?_
    obtain ⟨s33, V⟩ := V
    refine r_iinc (y := x6 + 1) (ls' := [(0, vr 145), (1, vi x1), (2, vi x2), (3, vi x3), (4, vl ((((n 161 x6) + (n 158 x6)) + x4) / 1000000)), (6, vi (x6 + 1)), (7, vl (((n 161 x6) + (n 158 x6)) + x4))]) dX12_oddsOf_81 rfl rfl s33 (by decide) rfl ?_
    refine r_goto (tgt := 33) dX12_oddsOf_84 (by decide) ?_
    refine r_pick [0, 1, 2, 3, 4, 5] (ls' := [(0, vr 145), (1, vi x1), (2, vi x2), (3, vi x3), (4, vl ((((n 161 x6) + (n 158 x6)) + x4) / 1000000)), (6, vi (x6 + 1))]) rfl ?_
    exact V

theorem gX12_oddsOf_135 {w : WD} {d : Nat} {G : GM} {Q : Option AV → Hp → Prop} {n : NM} {x3 x4 x5 x6 : Int}
    (V :
    ((100 ≤ x6 →
      (Ev w d 0 0 mX12_multiply [vr 162, vl x5] (B0, n) (fun r h' => ∃ n22 : NM, r = none ∧ h' = (B0, n22) ∧ 
        (Ev w d 0 0 mX12_compare [vr 162, vr 158] (B0, n22) (fun r h' => ∃ (x24 : Int) (n23 : NM), r = some (vi x24) ∧ h' = (B0, n23) ∧ 
          (0 < x24 → inI (x5 - 1)) ∧
          (∀ z27 z28 : Int, z27 = (if 0 < x24 then x3 else x5) → z28 = (if 0 < x24 then x5 - 1 else x4) → 
          Rn w mX12_oddsOf (d + 1) G Q 116 [(0, vr 145), (3, vi z27), (4, vi z28)] [] (B0, n23))))))) ∧
    (x6 < 100 →
      (0 ≤ x6) ∧
      (x6 < 100) ∧
      (0 ≤ x6) ∧
      (x6 < 100) ∧
      (inI (x6 + 1)) ∧
      Rn w mX12_oddsOf (d + 1) G Q 135 [(0, vr 145), (3, vi x3), (4, vi x4), (5, vi x5), (6, vi (x6 + 1))] [] (B0, upn n 162 x6 (n 161 x6))))) :
    Rn w mX12_oddsOf (d + 1) G Q 135 [(0, vr 145), (3, vi x3), (4, vi x4), (5, vi x5), (6, vi x6)] [] (B0, n) := by
  refine r_iload dX12_oddsOf_135 rfl ?_
  refine r_bipush (x := 100) dX12_oddsOf_137 (by decide +kernel) (by decide) ?_
  obtain ⟨V1, V2⟩ := V
  refine r_jge (tgt := 162) dX12_oddsOf_139 (by decide) (fun c21 => ?_) (fun c21 => ?_)
  · have V := V1 c21
    refine r_aload_n dX12_oddsOf_162 rfl rfl ?_
    refine r_getR (b := 162) dX12_oddsOf_163 fX12_64 ob_145 (by decide) rfl rfl ?_
    refine r_iload dX12_oddsOf_166 rfl ?_
    refine r_i2l dX12_oddsOf_168 ?_
    refine r_callS (args := [vr 162, vl x5]) dX12_oddsOf_169 kX12_373 rfl rfl (Nat.le_of_ble_eq_true rfl) cap0 (Ev.mono V ?_)
    rintro r h' ⟨n22, rfl, rfl, V⟩
    show Rn w mX12_oddsOf (d + 1) G Q 172 [(0, vr 145), (3, vi x3), (4, vi x4), (5, vi x5), (6, vi x6)] [] (B0, n22)
    refine r_aload_n dX12_oddsOf_172 rfl rfl ?_
    refine r_getR (b := 162) dX12_oddsOf_173 fX12_64 ob_145 (by decide) rfl rfl ?_
    refine r_aload_n dX12_oddsOf_176 rfl rfl ?_
    refine r_getR (b := 158) dX12_oddsOf_177 fX12_52 ob_145 (by decide) rfl rfl ?_
    refine r_callS (args := [vr 162, vr 158]) dX12_oddsOf_180 kX12_386 rfl rfl (Nat.le_of_ble_eq_true rfl) cap0 (Ev.mono V ?_)
    rintro r h' ⟨x24, n23, rfl, rfl, V⟩
    show Rn w mX12_oddsOf (d + 1) G Q 183 [(0, vr 145), (3, vi x3), (4, vi x4), (5, vi x5), (6, vi x6)] [vi x24] (B0, n23)
    obtain ⟨s26, V⟩ := V
    have K : ∀ z27 z28 : Int, z27 = (if 0 < x24 then x3 else x5) → z28 = (if 0 < x24 then x5 - 1 else x4) → Rn w mX12_oddsOf (d + 1) G Q 198 [(0, vr 145), (3, vi z27), (4, vi z28)] [] (B0, n23) := by
      intro z27 z28 ez27 ez28
      have V := V z27 z28 ez27 ez28
      refine r_goto (tgt := 116) dX12_oddsOf_198 (by decide) ?_
      exact V
    refine r_zgt (tgt := 192) dX12_oddsOf_183 (by decide) (fun c25 => ?_) (fun c25 => ?_)
    · refine r_iload dX12_oddsOf_192 rfl ?_
      refine r_iconst (x := 1) dX12_oddsOf_194 rfl (by decide) ?_
      refine r_isub dX12_oddsOf_195 (s26 c25) ?_
      refine r_istore (ls' := [(0, vr 145), (3, vi x3), (4, vi (x5 - 1)), (5, vi x5), (6, vi x6)]) dX12_oddsOf_196 (by decide) rfl ?_
      refine r_pick [0, 1, 2] (ls' := [(0, vr 145), (3, vi x3), (4, vi (x5 - 1))]) rfl ?_
      exact K x3 (x5 - 1) (by first | rfl | (simp only [if_pos c25])) (by first | rfl | (simp only [if_pos c25]))
    · refine r_iload dX12_oddsOf_186 rfl ?_
      refine r_istore_n (ls' := [(0, vr 145), (3, vi x5), (4, vi x4), (5, vi x5), (6, vi x6)]) dX12_oddsOf_188 rfl (by decide) rfl ?_
      refine r_goto (tgt := 198) dX12_oddsOf_189 (by decide) ?_
      refine r_pick [0, 1, 2] (ls' := [(0, vr 145), (3, vi x5), (4, vi x4)]) rfl ?_
      exact K x5 x4 (by first | rfl | (simp only [if_neg (Int.not_lt.mpr c25)])) (by first | rfl | (simp only [if_neg (Int.not_lt.mpr c25)]))
  · have V := V2 c21
    refine r_aload_n dX12_oddsOf_142 rfl rfl ?_
    refine r_getR (b := 162) dX12_oddsOf_143 fX12_64 ob_145 (by decide) rfl rfl ?_
    refine r_iload dX12_oddsOf_146 rfl ?_
    refine r_aload_n dX12_oddsOf_148 rfl rfl ?_
    refine r_getR (b := 161) dX12_oddsOf_149 fX12_61 ob_145 (by decide) rfl rfl ?_
    refine r_iload dX12_oddsOf_152 rfl ?_
    obtain ⟨s29, V⟩ := V
    obtain ⟨s30, V⟩ := V
    refine r_lald dX12_oddsOf_154 ob_161 s29 s30 ?_
    obtain ⟨s31, V⟩ := V
    obtain ⟨s32, V⟩ := V
    refine r_last (h' := (B0, upn n 162 x6 (n 161 x6))) dX12_oddsOf_155 ob_162 s31 s32 rfl ?_
    obtain ⟨s33, V⟩ := V
    refine r_iinc (y := x6 + 1) (ls' := [(0, vr 145), (3, vi x3), (4, vi x4), (5, vi x5), (6, vi (x6 + 1))]) dX12_oddsOf_156 rfl rfl s33 (by decide) rfl ?_
    refine r_goto (tgt := 135) dX12_oddsOf_159 (by decide) ?_
    exact V

theorem gX12_story_0 {w : WD} {d : Nat} {G : GM} {Q : Option AV → Hp → Prop} {n : NM} {x1 x2 x3 : Int}
    (V :
    (Ev w d 0 0 mX12_in [vl x1, vl 0, vl 100] (B0, upn n 145 0 0) (fun r h' => ∃ (x22 : Int) (n21 : NM), r = some (vi x22) ∧ h' = (B0, n21) ∧ 
      ((x22 = 0 →
        (Ev w d 0 0 mX12_tell [vr 145, vi (-1)] (B0, n21) (fun r h' => ∃ (x25 : Int) (n24 : NM), r = some (vi x25) ∧ h' = (B0, n24) ∧ 
          Q (some (vi x25)) (B0, n24)))) ∧
      (x22 ≠ 0 →
        (Ev w d 0 0 mX12_in [vl x2, vl 0, vl 20] (B0, n21) (fun r h' => ∃ (x27 : Int) (n26 : NM), r = some (vi x27) ∧ h' = (B0, n26) ∧ 
          ((x27 = 0 →
            (Ev w d 0 0 mX12_tell [vr 145, vi (-1)] (B0, n26) (fun r h' => ∃ (x30 : Int) (n29 : NM), r = some (vi x30) ∧ h' = (B0, n29) ∧ 
              Q (some (vi x30)) (B0, n29)))) ∧
          (x27 ≠ 0 →
            (Ev w d 0 0 mX12_in [vl x3, vl 1, vl 60] (B0, n26) (fun r h' => ∃ (x32 : Int) (n31 : NM), r = some (vi x32) ∧ h' = (B0, n31) ∧ 
              ((x32 ≠ 0 →
                (Ev w d 0 0 mX12_add [vr 145, vi 7, vi 6, vi 700, vi 3, vi x1, vi x2, vi x3, vi 0] (B0, n31) (fun r h' => ∃ (x35 : Int) (n34 : NM), r = some (vi x35) ∧ h' = (B0, n34) ∧ 
                  Q (some (vi x35)) (B0, n34)))) ∧
              (x32 = 0 →
                (Ev w d 0 0 mX12_tell [vr 145, vi (-1)] (B0, n31) (fun r h' => ∃ (x37 : Int) (n36 : NM), r = some (vi x37) ∧ h' = (B0, n36) ∧ 
                  Q (some (vi x37)) (B0, n36)))))))))))))))) :
    Rn w mX12_story (d + 1) G Q 0 [(0, vr 145), (1, vi x1), (2, vi x2), (3, vi x3)] [] (B0, n) := by
  refine r_aload_n dX12_story_0 rfl rfl ?_
  refine r_iconst (x := 0) dX12_story_1 rfl (by decide) ?_
  refine r_putI (fi := 0) (h' := (B0, upn n 145 0 0)) dX12_story_2 pX12_76 ob_145 (by decide) rfl rfl rfl ?_
  refine r_iload_n dX12_story_5 rfl rfl ?_
  refine r_i2l dX12_story_6 ?_
  refine r_lconst (x := 0) dX12_story_7 rfl (by decide) ?_
  refine r_ldc2 (x := 100) dX12_story_8 qX12_116 (by decide) ?_
  refine r_callS (args := [vl x1, vl 0, vl 100]) dX12_story_11 kX12_82 rfl rfl (Nat.le_of_ble_eq_true rfl) cap0 (Ev.mono V ?_)
  rintro r h' ⟨x22, n21, rfl, rfl, V⟩
  show Rn w mX12_story (d + 1) G Q 14 [(0, vr 145), (1, vi x1), (2, vi x2), (3, vi x3)] [vi x22] (B0, n21)
  obtain ⟨V1, V2⟩ := V
  refine r_zeq (tgt := 41) dX12_story_14 (by decide) (fun c23 => ?_) (fun c23 => ?_)
  · have V := V1 c23
    refine r_aload_n dX12_story_41 rfl rfl ?_
    refine r_iconst (x := -1) dX12_story_42 rfl (by decide) ?_
    refine r_callV (args := [vi (-1)]) dX12_story_43 kX12_86 ob_145 ⟨_, _, rfl⟩ (by decide) rfl rfl (Nat.le_of_ble_eq_true rfl) cap0 (Ev.mono V ?_)
    rintro r h' ⟨x25, n24, rfl, rfl, V⟩
    show Rn w mX12_story (d + 1) G Q 46 [(0, vr 145), (1, vi x1), (2, vi x2), (3, vi x3)] [vi x25] (B0, n24)
    exact r_iret dX12_story_46 rfl V
  · have V := V2 c23
    refine r_iload_n dX12_story_17 rfl rfl ?_
    refine r_i2l dX12_story_18 ?_
    refine r_lconst (x := 0) dX12_story_19 rfl (by decide) ?_
    refine r_ldc2 (x := 20) dX12_story_20 qX12_199 (by decide) ?_
    refine r_callS (args := [vl x2, vl 0, vl 20]) dX12_story_23 kX12_82 rfl rfl (Nat.le_of_ble_eq_true rfl) cap0 (Ev.mono V ?_)
    rintro r h' ⟨x27, n26, rfl, rfl, V⟩
    show Rn w mX12_story (d + 1) G Q 26 [(0, vr 145), (1, vi x1), (2, vi x2), (3, vi x3)] [vi x27] (B0, n26)
    obtain ⟨V1, V2⟩ := V
    refine r_zeq (tgt := 41) dX12_story_26 (by decide) (fun c28 => ?_) (fun c28 => ?_)
    · have V := V1 c28
      refine r_aload_n dX12_story_41 rfl rfl ?_
      refine r_iconst (x := -1) dX12_story_42 rfl (by decide) ?_
      refine r_callV (args := [vi (-1)]) dX12_story_43 kX12_86 ob_145 ⟨_, _, rfl⟩ (by decide) rfl rfl (Nat.le_of_ble_eq_true rfl) cap0 (Ev.mono V ?_)
      rintro r h' ⟨x30, n29, rfl, rfl, V⟩
      show Rn w mX12_story (d + 1) G Q 46 [(0, vr 145), (1, vi x1), (2, vi x2), (3, vi x3)] [vi x30] (B0, n29)
      exact r_iret dX12_story_46 rfl V
    · have V := V2 c28
      refine r_iload_n dX12_story_29 rfl rfl ?_
      refine r_i2l dX12_story_30 ?_
      refine r_lconst (x := 1) dX12_story_31 rfl (by decide) ?_
      refine r_ldc2 (x := 60) dX12_story_32 qX12_334 (by decide) ?_
      refine r_callS (args := [vl x3, vl 1, vl 60]) dX12_story_35 kX12_82 rfl rfl (Nat.le_of_ble_eq_true rfl) cap0 (Ev.mono V ?_)
      rintro r h' ⟨x32, n31, rfl, rfl, V⟩
      show Rn w mX12_story (d + 1) G Q 38 [(0, vr 145), (1, vi x1), (2, vi x2), (3, vi x3)] [vi x32] (B0, n31)
      obtain ⟨V1, V2⟩ := V
      refine r_zne (tgt := 47) dX12_story_38 (by decide) (fun c33 => ?_) (fun c33 => ?_)
      · have V := V1 c33
        refine r_aload_n dX12_story_47 rfl rfl ?_
        refine r_bipush (x := 7) dX12_story_48 (by decide +kernel) (by decide) ?_
        refine r_bipush (x := 6) dX12_story_50 (by decide +kernel) (by decide) ?_
        refine r_sipush (x := 700) dX12_story_52 (by decide +kernel) (by decide) ?_
        refine r_iconst (x := 3) dX12_story_55 rfl (by decide) ?_
        refine r_iload_n dX12_story_56 rfl rfl ?_
        refine r_iload_n dX12_story_57 rfl rfl ?_
        refine r_iload_n dX12_story_58 rfl rfl ?_
        refine r_iconst (x := 0) dX12_story_59 rfl (by decide) ?_
        refine r_callV (args := [vi 7, vi 6, vi 700, vi 3, vi x1, vi x2, vi x3, vi 0]) dX12_story_60 kX12_109 ob_145 ⟨_, _, rfl⟩ (by decide) rfl rfl (Nat.le_of_ble_eq_true rfl) cap0 (Ev.mono V ?_)
        rintro r h' ⟨x35, n34, rfl, rfl, V⟩
        show Rn w mX12_story (d + 1) G Q 63 [(0, vr 145), (1, vi x1), (2, vi x2), (3, vi x3)] [vi x35] (B0, n34)
        exact r_iret dX12_story_63 rfl V
      · have V := V2 c33
        refine r_aload_n dX12_story_41 rfl rfl ?_
        refine r_iconst (x := -1) dX12_story_42 rfl (by decide) ?_
        refine r_callV (args := [vi (-1)]) dX12_story_43 kX12_86 ob_145 ⟨_, _, rfl⟩ (by decide) rfl rfl (Nat.le_of_ble_eq_true rfl) cap0 (Ev.mono V ?_)
        rintro r h' ⟨x37, n36, rfl, rfl, V⟩
        show Rn w mX12_story (d + 1) G Q 46 [(0, vr 145), (1, vi x1), (2, vi x2), (3, vi x3)] [vi x37] (B0, n36)
        exact r_iret dX12_story_46 rfl V

theorem gX12_isNet_0 {w : WD} {d : Nat} {G : GM} {Q : Option AV → Hp → Prop} {n : NM} {x0 x1 x2 : Int}
    (V :
    (Ev w d 0 0 mX12_in [vl x0, vl 0, vl 100] (B0, n) (fun r h' => ∃ (x22 : Int) (n21 : NM), r = some (vi x22) ∧ h' = (B0, n21) ∧ 
      ((x22 = 0 →
        Q (some (vi 0)) (B0, n21)) ∧
      (x22 ≠ 0 →
        (Ev w d 0 0 mX12_in [vl x1, vl 1, vl 60] (B0, n21) (fun r h' => ∃ (x25 : Int) (n24 : NM), r = some (vi x25) ∧ h' = (B0, n24) ∧ 
          ((x25 = 0 →
            Q (some (vi 0)) (B0, n24)) ∧
          (x25 ≠ 0 →
            (Ev w d 0 0 mX12_in [vl x2, vl 0, vl 99] (B0, n24) (fun r h' => ∃ (x28 : Int) (n27 : NM), r = some (vi x28) ∧ h' = (B0, n27) ∧ 
              ((x28 = 0 →
                Q (some (vi 0)) (B0, n27)) ∧
              (x28 ≠ 0 →
                Q (some (vi 1)) (B0, n27)))))))))))))) :
    Rn w mX12_isNet (d + 1) G Q 0 [(0, vi x0), (1, vi x1), (2, vi x2)] [] (B0, n) := by
  refine r_iload_n dX12_isNet_0 rfl rfl ?_
  refine r_i2l dX12_isNet_1 ?_
  refine r_lconst (x := 0) dX12_isNet_2 rfl (by decide) ?_
  refine r_ldc2 (x := 100) dX12_isNet_3 qX12_116 (by decide) ?_
  refine r_callS (args := [vl x0, vl 0, vl 100]) dX12_isNet_6 kX12_82 rfl rfl (Nat.le_of_ble_eq_true rfl) cap0 (Ev.mono V ?_)
  rintro r h' ⟨x22, n21, rfl, rfl, V⟩
  show Rn w mX12_isNet (d + 1) G Q 9 [(0, vi x0), (1, vi x1), (2, vi x2)] [vi x22] (B0, n21)
  obtain ⟨V1, V2⟩ := V
  refine r_zeq (tgt := 40) dX12_isNet_9 (by decide) (fun c23 => ?_) (fun c23 => ?_)
  · have V := V1 c23
    refine r_iconst (x := 0) dX12_isNet_40 rfl (by decide) ?_
    exact r_zret dX12_isNet_41 rfl (by decide) V
  · have V := V2 c23
    refine r_iload_n dX12_isNet_12 rfl rfl ?_
    refine r_i2l dX12_isNet_13 ?_
    refine r_lconst (x := 1) dX12_isNet_14 rfl (by decide) ?_
    refine r_ldc2 (x := 60) dX12_isNet_15 qX12_334 (by decide) ?_
    refine r_callS (args := [vl x1, vl 1, vl 60]) dX12_isNet_18 kX12_82 rfl rfl (Nat.le_of_ble_eq_true rfl) cap0 (Ev.mono V ?_)
    rintro r h' ⟨x25, n24, rfl, rfl, V⟩
    show Rn w mX12_isNet (d + 1) G Q 21 [(0, vi x0), (1, vi x1), (2, vi x2)] [vi x25] (B0, n24)
    obtain ⟨V1, V2⟩ := V
    refine r_zeq (tgt := 40) dX12_isNet_21 (by decide) (fun c26 => ?_) (fun c26 => ?_)
    · have V := V1 c26
      refine r_iconst (x := 0) dX12_isNet_40 rfl (by decide) ?_
      exact r_zret dX12_isNet_41 rfl (by decide) V
    · have V := V2 c26
      refine r_iload_n dX12_isNet_24 rfl rfl ?_
      refine r_i2l dX12_isNet_25 ?_
      refine r_lconst (x := 0) dX12_isNet_26 rfl (by decide) ?_
      refine r_ldc2 (x := 99) dX12_isNet_27 qX12_118 (by decide) ?_
      refine r_callS (args := [vl x2, vl 0, vl 99]) dX12_isNet_30 kX12_82 rfl rfl (Nat.le_of_ble_eq_true rfl) cap0 (Ev.mono V ?_)
      rintro r h' ⟨x28, n27, rfl, rfl, V⟩
      show Rn w mX12_isNet (d + 1) G Q 33 [(0, vi x0), (1, vi x1), (2, vi x2)] [vi x28] (B0, n27)
      obtain ⟨V1, V2⟩ := V
      refine r_zeq (tgt := 40) dX12_isNet_33 (by decide) (fun c29 => ?_) (fun c29 => ?_)
      · have V := V1 c29
        refine r_iconst (x := 0) dX12_isNet_40 rfl (by decide) ?_
        exact r_zret dX12_isNet_41 rfl (by decide) V
      · have V := V2 c29
        refine r_iconst (x := 1) dX12_isNet_36 rfl (by decide) ?_
        refine r_goto (tgt := 41) dX12_isNet_37 (by decide) ?_
        exact r_zret dX12_isNet_41 rfl (by decide) V

theorem gX12_sweep_0 {w : WD} {d : Nat} {G : GM} {Q : Option AV → Hp → Prop} {n : NM} {x1 x2 x3 x4 : Int}
    (V :
    (Ev w d 0 0 mX12_isNet [vi x1, vi x2, vi x3] (B0, upn n 145 0 0) (fun r h' => ∃ (x22 : Int) (n21 : NM), r = some (vi x22) ∧ h' = (B0, n21) ∧ 
      ((x22 = 0 →
        (Ev w d 0 0 mX12_tell [vr 145, vi (-1)] (B0, n21) (fun r h' => ∃ (x25 : Int) (n24 : NM), r = some (vi x25) ∧ h' = (B0, n24) ∧ 
          Q (some (vi x25)) (B0, n24)))) ∧
      (x22 ≠ 0 →
        (Ev w d 0 0 mX12_in [vl x4, vl 0, vl 1] (B0, n21) (fun r h' => ∃ (x27 : Int) (n26 : NM), r = some (vi x27) ∧ h' = (B0, n26) ∧ 
          ((x27 ≠ 0 →
            (Ev w d 0 0 mX12_add [vr 145, vi 8, vi 12, vi 720, vi 4, vi x1, vi x2, vi x3, vi x4] (B0, n26) (fun r h' => ∃ (x30 : Int) (n29 : NM), r = some (vi x30) ∧ h' = (B0, n29) ∧ 
              Q (some (vi x30)) (B0, n29)))) ∧
          (x27 = 0 →
            (Ev w d 0 0 mX12_tell [vr 145, vi (-1)] (B0, n26) (fun r h' => ∃ (x32 : Int) (n31 : NM), r = some (vi x32) ∧ h' = (B0, n31) ∧ 
              Q (some (vi x32)) (B0, n31)))))))))))) :
    Rn w mX12_sweep (d + 1) G Q 0 [(0, vr 145), (1, vi x1), (2, vi x2), (3, vi x3), (4, vi x4)] [] (B0, n) := by
  refine r_aload_n dX12_sweep_0 rfl rfl ?_
  refine r_iconst (x := 0) dX12_sweep_1 rfl (by decide) ?_
  refine r_putI (fi := 0) (h' := (B0, upn n 145 0 0)) dX12_sweep_2 pX12_76 ob_145 (by decide) rfl rfl rfl ?_
  refine r_iload_n dX12_sweep_5 rfl rfl ?_
  refine r_iload_n dX12_sweep_6 rfl rfl ?_
  refine r_iload_n dX12_sweep_7 rfl rfl ?_
  refine r_callS (args := [vi x1, vi x2, vi x3]) dX12_sweep_8 kX12_390 rfl rfl (Nat.le_of_ble_eq_true rfl) cap0 (Ev.mono V ?_)
  rintro r h' ⟨x22, n21, rfl, rfl, V⟩
  show Rn w mX12_sweep (d + 1) G Q 11 [(0, vr 145), (1, vi x1), (2, vi x2), (3, vi x3), (4, vi x4)] [vi x22] (B0, n21)
  obtain ⟨V1, V2⟩ := V
  refine r_zeq (tgt := 25) dX12_sweep_11 (by decide) (fun c23 => ?_) (fun c23 => ?_)
  · have V := V1 c23
    refine r_aload_n dX12_sweep_25 rfl rfl ?_
    refine r_iconst (x := -1) dX12_sweep_26 rfl (by decide) ?_
    refine r_callV (args := [vi (-1)]) dX12_sweep_27 kX12_86 ob_145 ⟨_, _, rfl⟩ (by decide) rfl rfl (Nat.le_of_ble_eq_true rfl) cap0 (Ev.mono V ?_)
    rintro r h' ⟨x25, n24, rfl, rfl, V⟩
    show Rn w mX12_sweep (d + 1) G Q 30 [(0, vr 145), (1, vi x1), (2, vi x2), (3, vi x3), (4, vi x4)] [vi x25] (B0, n24)
    exact r_iret dX12_sweep_30 rfl V
  · have V := V2 c23
    refine r_iload dX12_sweep_14 rfl ?_
    refine r_i2l dX12_sweep_16 ?_
    refine r_lconst (x := 0) dX12_sweep_17 rfl (by decide) ?_
    refine r_lconst (x := 1) dX12_sweep_18 rfl (by decide) ?_
    refine r_callS (args := [vl x4, vl 0, vl 1]) dX12_sweep_19 kX12_82 rfl rfl (Nat.le_of_ble_eq_true rfl) cap0 (Ev.mono V ?_)
    rintro r h' ⟨x27, n26, rfl, rfl, V⟩
    show Rn w mX12_sweep (d + 1) G Q 22 [(0, vr 145), (1, vi x1), (2, vi x2), (3, vi x3), (4, vi x4)] [vi x27] (B0, n26)
    obtain ⟨V1, V2⟩ := V
    refine r_zne (tgt := 31) dX12_sweep_22 (by decide) (fun c28 => ?_) (fun c28 => ?_)
    · have V := V1 c28
      refine r_aload_n dX12_sweep_31 rfl rfl ?_
      refine r_bipush (x := 8) dX12_sweep_32 (by decide +kernel) (by decide) ?_
      refine r_bipush (x := 12) dX12_sweep_34 (by decide +kernel) (by decide) ?_
      refine r_sipush (x := 720) dX12_sweep_36 (by decide +kernel) (by decide) ?_
      refine r_iconst (x := 4) dX12_sweep_39 rfl (by decide) ?_
      refine r_iload_n dX12_sweep_40 rfl rfl ?_
      refine r_iload_n dX12_sweep_41 rfl rfl ?_
      refine r_iload_n dX12_sweep_42 rfl rfl ?_
      refine r_iload dX12_sweep_43 rfl ?_
      refine r_callV (args := [vi 8, vi 12, vi 720, vi 4, vi x1, vi x2, vi x3, vi x4]) dX12_sweep_45 kX12_109 ob_145 ⟨_, _, rfl⟩ (by decide) rfl rfl (Nat.le_of_ble_eq_true rfl) cap0 (Ev.mono V ?_)
      rintro r h' ⟨x30, n29, rfl, rfl, V⟩
      show Rn w mX12_sweep (d + 1) G Q 48 [(0, vr 145), (1, vi x1), (2, vi x2), (3, vi x3), (4, vi x4)] [vi x30] (B0, n29)
      exact r_iret dX12_sweep_48 rfl V
    · have V := V2 c28
      refine r_aload_n dX12_sweep_25 rfl rfl ?_
      refine r_iconst (x := -1) dX12_sweep_26 rfl (by decide) ?_
      refine r_callV (args := [vi (-1)]) dX12_sweep_27 kX12_86 ob_145 ⟨_, _, rfl⟩ (by decide) rfl rfl (Nat.le_of_ble_eq_true rfl) cap0 (Ev.mono V ?_)
      rintro r h' ⟨x32, n31, rfl, rfl, V⟩
      show Rn w mX12_sweep (d + 1) G Q 30 [(0, vr 145), (1, vi x1), (2, vi x2), (3, vi x3), (4, vi x4)] [vi x32] (B0, n31)
      exact r_iret dX12_sweep_30 rfl V

theorem gX12_likely_0 {w : WD} {d : Nat} {G : GM} {Q : Option AV → Hp → Prop} {n : NM} {x1 : Int}
    (V :
    (Ev w d 0 0 mX12_is [vr 145, vi 7, vi x1] (B0, upn n 145 0 0) (fun r h' => ∃ (x22 : Int) (n21 : NM), r = some (vi x22) ∧ h' = (B0, n21) ∧ 
      ((x22 = 0 →
        Q (some (vi (-1))) (B0, n21)) ∧
      (x22 ≠ 0 →
        (Ev w d 0 0 mX12_oddsOf [vr 145, vi x1, vi (-1)] (B0, n21) (fun r h' => ∃ (x25 : Int) (n24 : NM), r = some (vi x25) ∧ h' = (B0, n24) ∧ 
          Q (some (vi x25)) (B0, n24)))))))) :
    Rn w mX12_likely (d + 1) G Q 0 [(0, vr 145), (1, vi x1)] [] (B0, n) := by
  refine r_aload_n dX12_likely_0 rfl rfl ?_
  refine r_iconst (x := 0) dX12_likely_1 rfl (by decide) ?_
  refine r_putI (fi := 0) (h' := (B0, upn n 145 0 0)) dX12_likely_2 pX12_76 ob_145 (by decide) rfl rfl rfl ?_
  refine r_aload_n dX12_likely_5 rfl rfl ?_
  refine r_bipush (x := 7) dX12_likely_6 (by decide +kernel) (by decide) ?_
  refine r_iload_n dX12_likely_8 rfl rfl ?_
  refine r_callV (args := [vi 7, vi x1]) dX12_likely_9 kX12_122 ob_145 ⟨_, _, rfl⟩ (by decide) rfl rfl (Nat.le_of_ble_eq_true rfl) cap0 (Ev.mono V ?_)
  rintro r h' ⟨x22, n21, rfl, rfl, V⟩
  show Rn w mX12_likely (d + 1) G Q 12 [(0, vr 145), (1, vi x1)] [vi x22] (B0, n21)
  obtain ⟨V1, V2⟩ := V
  refine r_zeq (tgt := 24) dX12_likely_12 (by decide) (fun c23 => ?_) (fun c23 => ?_)
  · have V := V1 c23
    refine r_iconst (x := -1) dX12_likely_24 rfl (by decide) ?_
    exact r_iret dX12_likely_25 rfl V
  · have V := V2 c23
    refine r_aload_n dX12_likely_15 rfl rfl ?_
    refine r_iload_n dX12_likely_16 rfl rfl ?_
    refine r_iconst (x := -1) dX12_likely_17 rfl (by decide) ?_
    refine r_callV (args := [vi x1, vi (-1)]) dX12_likely_18 kX12_394 ob_145 ⟨_, _, rfl⟩ (by decide) rfl rfl (Nat.le_of_ble_eq_true rfl) cap0 (Ev.mono V ?_)
    rintro r h' ⟨x25, n24, rfl, rfl, V⟩
    show Rn w mX12_likely (d + 1) G Q 21 [(0, vr 145), (1, vi x1)] [vi x25] (B0, n24)
    refine r_goto (tgt := 25) dX12_likely_21 (by decide) ?_
    exact r_iret dX12_likely_25 rfl V

theorem gX12_moved_0 {w : WD} {d : Nat} {G : GM} {Q : Option AV → Hp → Prop} {n : NM} {x1 x2 : Int}
    (V :
    (Ev w d 0 0 mX12_is [vr 145, vi 7, vi x1] (B0, upn n 145 0 0) (fun r h' => ∃ (x22 : Int) (n21 : NM), r = some (vi x22) ∧ h' = (B0, n21) ∧ 
      ((x22 = 0 →
        Q (some (vi (-10000000))) (B0, n21)) ∧
      (x22 ≠ 0 →
        (Ev w d 0 0 mX12_is [vr 145, vi 8, vi x2] (B0, n21) (fun r h' => ∃ (x25 : Int) (n24 : NM), r = some (vi x25) ∧ h' = (B0, n24) ∧ 
          ((x25 ≠ 0 →
            (Ev w d 0 0 mX12_oddsOf [vr 145, vi x1, vi (-1)] (B0, n24) (fun r h' => ∃ (x28 : Int) (n27 : NM), r = some (vi x28) ∧ h' = (B0, n27) ∧ 
              (Ev w d 0 0 mX12_oddsOf [vr 145, vi x1, vi x2] (B0, n27) (fun r h' => ∃ (x30 : Int) (n29 : NM), r = some (vi x30) ∧ h' = (B0, n29) ∧ 
                (inI (x28 - x30)) ∧
                Q (some (vi (x28 - x30))) (B0, n29)))))) ∧
          (x25 = 0 →
            Q (some (vi (-10000000))) (B0, n24)))))))))) :
    Rn w mX12_moved (d + 1) G Q 0 [(0, vr 145), (1, vi x1), (2, vi x2)] [] (B0, n) := by
  refine r_aload_n dX12_moved_0 rfl rfl ?_
  refine r_iconst (x := 0) dX12_moved_1 rfl (by decide) ?_
  refine r_putI (fi := 0) (h' := (B0, upn n 145 0 0)) dX12_moved_2 pX12_76 ob_145 (by decide) rfl rfl rfl ?_
  refine r_aload_n dX12_moved_5 rfl rfl ?_
  refine r_bipush (x := 7) dX12_moved_6 (by decide +kernel) (by decide) ?_
  refine r_iload_n dX12_moved_8 rfl rfl ?_
  refine r_callV (args := [vi 7, vi x1]) dX12_moved_9 kX12_122 ob_145 ⟨_, _, rfl⟩ (by decide) rfl rfl (Nat.le_of_ble_eq_true rfl) cap0 (Ev.mono V ?_)
  rintro r h' ⟨x22, n21, rfl, rfl, V⟩
  show Rn w mX12_moved (d + 1) G Q 12 [(0, vr 145), (1, vi x1), (2, vi x2)] [vi x22] (B0, n21)
  obtain ⟨V1, V2⟩ := V
  refine r_zeq (tgt := 25) dX12_moved_12 (by decide) (fun c23 => ?_) (fun c23 => ?_)
  · have V := V1 c23
    refine r_ldcw (x := -10000000) dX12_moved_25 qX12_397 (by decide) ?_
    exact r_iret dX12_moved_28 rfl V
  · have V := V2 c23
    refine r_aload_n dX12_moved_15 rfl rfl ?_
    refine r_bipush (x := 8) dX12_moved_16 (by decide +kernel) (by decide) ?_
    refine r_iload_n dX12_moved_18 rfl rfl ?_
    refine r_callV (args := [vi 8, vi x2]) dX12_moved_19 kX12_122 ob_145 ⟨_, _, rfl⟩ (by decide) rfl rfl (Nat.le_of_ble_eq_true rfl) cap0 (Ev.mono V ?_)
    rintro r h' ⟨x25, n24, rfl, rfl, V⟩
    show Rn w mX12_moved (d + 1) G Q 22 [(0, vr 145), (1, vi x1), (2, vi x2)] [vi x25] (B0, n24)
    obtain ⟨V1, V2⟩ := V
    refine r_zne (tgt := 29) dX12_moved_22 (by decide) (fun c26 => ?_) (fun c26 => ?_)
    · have V := V1 c26
      refine r_aload_n dX12_moved_29 rfl rfl ?_
      refine r_iload_n dX12_moved_30 rfl rfl ?_
      refine r_iconst (x := -1) dX12_moved_31 rfl (by decide) ?_
      refine r_callV (args := [vi x1, vi (-1)]) dX12_moved_32 kX12_394 ob_145 ⟨_, _, rfl⟩ (by decide) rfl rfl (Nat.le_of_ble_eq_true rfl) cap0 (Ev.mono V ?_)
      rintro r h' ⟨x28, n27, rfl, rfl, V⟩
      show Rn w mX12_moved (d + 1) G Q 35 [(0, vr 145), (1, vi x1), (2, vi x2)] [vi x28] (B0, n27)
      refine r_aload_n dX12_moved_35 rfl rfl ?_
      refine r_iload_n dX12_moved_36 rfl rfl ?_
      refine r_iload_n dX12_moved_37 rfl rfl ?_
      refine r_callV (args := [vi x1, vi x2]) dX12_moved_38 kX12_394 ob_145 ⟨_, _, rfl⟩ (by decide) rfl rfl (Nat.le_of_ble_eq_true rfl) cap0 (Ev.mono V ?_)
      rintro r h' ⟨x30, n29, rfl, rfl, V⟩
      show Rn w mX12_moved (d + 1) G Q 41 [(0, vr 145), (1, vi x1), (2, vi x2)] [vi x30, vi x28] (B0, n29)
      obtain ⟨s31, V⟩ := V
      refine r_isub dX12_moved_41 s31 ?_
      exact r_iret dX12_moved_42 rfl V
    · have V := V2 c26
      refine r_ldcw (x := -10000000) dX12_moved_25 qX12_397 (by decide) ?_
      exact r_iret dX12_moved_28 rfl V

theorem gX12_kin_0 {w : WD} {d : Nat} {G : GM} {Q : Option AV → Hp → Prop} {n : NM} {x1 x2 : Int}
    (V :
    (Ev w d 0 0 mX12_in [vl x1, vl 0, vl 2] (B0, upn n 145 0 0) (fun r h' => ∃ (x22 : Int) (n21 : NM), r = some (vi x22) ∧ h' = (B0, n21) ∧ 
      ((x22 = 0 →
        (Ev w d 0 0 mX12_tell [vr 145, vi (-1)] (B0, n21) (fun r h' => ∃ (x25 : Int) (n24 : NM), r = some (vi x25) ∧ h' = (B0, n24) ∧ 
          Q (some (vi x25)) (B0, n24)))) ∧
      (x22 ≠ 0 →
        (∀ z27 : Int, z27 = (if x1 ≠ 2 then 0 else 1) → 
        (∀ z30 : Int, z30 = (if x1 ≠ 0 then (if x1 ≠ 1 then 100 else 10000) else 50) → 
        (Ev w d 0 0 mX12_in [vl x2, vl z27, vl z30] (B0, n21) (fun r h' => ∃ (x32 : Int) (n31 : NM), r = some (vi x32) ∧ h' = (B0, n31) ∧ 
          ((x32 ≠ 0 →
            (inI (10 + x1)) ∧
            (0 ≤ 10 + x1) ∧
            (10 + x1 < 1800) ∧
            (inI (10 + x1)) ∧
            (0 ≤ 10 + x1) ∧
            (10 + x1 < 1800) ∧
            (Ev w d 0 0 mX12_tell [vr 145, vi (n31 147 (10 + x1))] (B0, upn n31 147 (10 + x1) x2) (fun r h' => ∃ (x41 : Int) (n40 : NM), r = some (vi x41) ∧ h' = (B0, n40) ∧ 
              Q (some (vi x41)) (B0, n40)))) ∧
          (x32 = 0 →
            (Ev w d 0 0 mX12_tell [vr 145, vi (-1)] (B0, n31) (fun r h' => ∃ (x43 : Int) (n42 : NM), r = some (vi x43) ∧ h' = (B0, n42) ∧ 
              Q (some (vi x43)) (B0, n42)))))))))))))) :
    Rn w mX12_kin (d + 1) G Q 0 [(0, vr 145), (1, vi x1), (2, vi x2)] [] (B0, n) := by
  refine r_aload_n dX12_kin_0 rfl rfl ?_
  refine r_iconst (x := 0) dX12_kin_1 rfl (by decide) ?_
  refine r_putI (fi := 0) (h' := (B0, upn n 145 0 0)) dX12_kin_2 pX12_76 ob_145 (by decide) rfl rfl rfl ?_
  refine r_iload_n dX12_kin_5 rfl rfl ?_
  refine r_i2l dX12_kin_6 ?_
  refine r_lconst (x := 0) dX12_kin_7 rfl (by decide) ?_
  refine r_ldc2 (x := 2) dX12_kin_8 qX12_100 (by decide) ?_
  refine r_callS (args := [vl x1, vl 0, vl 2]) dX12_kin_11 kX12_82 rfl rfl (Nat.le_of_ble_eq_true rfl) cap0 (Ev.mono V ?_)
  rintro r h' ⟨x22, n21, rfl, rfl, V⟩
  show Rn w mX12_kin (d + 1) G Q 14 [(0, vr 145), (1, vi x1), (2, vi x2)] [vi x22] (B0, n21)
  obtain ⟨V1, V2⟩ := V
  refine r_zeq (tgt := 59) dX12_kin_14 (by decide) (fun c23 => ?_) (fun c23 => ?_)
  · have V := V1 c23
    refine r_aload_n dX12_kin_59 rfl rfl ?_
    refine r_iconst (x := -1) dX12_kin_60 rfl (by decide) ?_
    refine r_callV (args := [vi (-1)]) dX12_kin_61 kX12_86 ob_145 ⟨_, _, rfl⟩ (by decide) rfl rfl (Nat.le_of_ble_eq_true rfl) cap0 (Ev.mono V ?_)
    rintro r h' ⟨x25, n24, rfl, rfl, V⟩
    show Rn w mX12_kin (d + 1) G Q 64 [(0, vr 145), (1, vi x1), (2, vi x2)] [vi x25] (B0, n24)
    exact r_iret dX12_kin_64 rfl V
  · have V := V2 c23
    refine r_iload_n dX12_kin_17 rfl rfl ?_
    refine r_i2l dX12_kin_18 ?_
    refine r_iload_n dX12_kin_19 rfl rfl ?_
    refine r_iconst (x := 2) dX12_kin_20 rfl (by decide) ?_
    have K : ∀ z27 : Int, z27 = (if x1 ≠ 2 then 0 else 1) → Rn w mX12_kin (d + 1) G Q 29 [(0, vr 145), (1, vi x1), (2, vi x2)] [vl z27, vl x2] (B0, n21) := by
      intro z27 ez27
      have V := V z27 ez27
      refine r_iload_n dX12_kin_29 rfl rfl ?_
      have K : ∀ z30 : Int, z30 = (if x1 ≠ 0 then (if x1 ≠ 1 then 100 else 10000) else 50) → Rn w mX12_kin (d + 1) G Q 53 [(0, vr 145), (1, vi x1), (2, vi x2)] [vl z30, vl z27, vl x2] (B0, n21) := by
        intro z30 ez30
        have V := V z30 ez30
        refine r_callS (args := [vl x2, vl z27, vl z30]) dX12_kin_53 kX12_82 rfl rfl (Nat.le_of_ble_eq_true rfl) cap0 (Ev.mono V ?_)
        rintro r h' ⟨x32, n31, rfl, rfl, V⟩
        show Rn w mX12_kin (d + 1) G Q 56 [(0, vr 145), (1, vi x1), (2, vi x2)] [vi x32] (B0, n31)
        obtain ⟨V1, V2⟩ := V
        refine r_zne (tgt := 65) dX12_kin_56 (by decide) (fun c33 => ?_) (fun c33 => ?_)
        · have V := V1 c33
          refine r_aload_n dX12_kin_65 rfl rfl ?_
          refine r_getR (b := 147) dX12_kin_66 fX12_13 ob_145 (by decide) rfl rfl ?_
          refine r_bipush (x := 10) dX12_kin_69 (by decide +kernel) (by decide) ?_
          refine r_iload_n dX12_kin_71 rfl rfl ?_
          obtain ⟨s34, V⟩ := V
          refine r_iadd dX12_kin_72 s34 ?_
          obtain ⟨s35, V⟩ := V
          obtain ⟨s36, V⟩ := V
          refine r_iald dX12_kin_73 ob_147 s35 s36 ?_
          refine r_istore_n (ls' := [(0, vr 145), (1, vi x1), (2, vi x2), (3, vi (n31 147 (10 + x1)))]) dX12_kin_74 rfl (by decide) rfl ?_
          refine r_aload_n dX12_kin_75 rfl rfl ?_
          refine r_getR (b := 147) dX12_kin_76 fX12_13 ob_145 (by decide) rfl rfl ?_
          refine r_bipush (x := 10) dX12_kin_79 (by decide +kernel) (by decide) ?_
          refine r_iload_n dX12_kin_81 rfl rfl ?_
          obtain ⟨s37, V⟩ := V
          refine r_iadd dX12_kin_82 s37 ?_
          refine r_iload_n dX12_kin_83 rfl rfl ?_
          obtain ⟨s38, V⟩ := V
          obtain ⟨s39, V⟩ := V
          refine r_iast (h' := (B0, upn n31 147 (10 + x1) x2)) dX12_kin_84 ob_147 s38 s39 rfl ?_
          refine r_aload_n dX12_kin_85 rfl rfl ?_
          refine r_iload_n dX12_kin_86 rfl rfl ?_
          refine r_callV (args := [vi (n31 147 (10 + x1))]) dX12_kin_87 kX12_86 ob_145 ⟨_, _, rfl⟩ (by decide) rfl rfl (Nat.le_of_ble_eq_true rfl) cap0 (Ev.mono V ?_)
          rintro r h' ⟨x41, n40, rfl, rfl, V⟩
          show Rn w mX12_kin (d + 1) G Q 90 [(0, vr 145), (1, vi x1), (2, vi x2), (3, vi (n31 147 (10 + x1)))] [vi x41] (B0, n40)
          exact r_iret dX12_kin_90 rfl V
        · have V := V2 c33
          refine r_aload_n dX12_kin_59 rfl rfl ?_
          refine r_iconst (x := -1) dX12_kin_60 rfl (by decide) ?_
          refine r_callV (args := [vi (-1)]) dX12_kin_61 kX12_86 ob_145 ⟨_, _, rfl⟩ (by decide) rfl rfl (Nat.le_of_ble_eq_true rfl) cap0 (Ev.mono V ?_)
          rintro r h' ⟨x43, n42, rfl, rfl, V⟩
          show Rn w mX12_kin (d + 1) G Q 64 [(0, vr 145), (1, vi x1), (2, vi x2)] [vi x43] (B0, n42)
          exact r_iret dX12_kin_64 rfl V
      refine r_zne (tgt := 39) dX12_kin_30 (by decide) (fun c28 => ?_) (fun c28 => ?_)
      · refine r_iload_n dX12_kin_39 rfl rfl ?_
        refine r_iconst (x := 1) dX12_kin_40 rfl (by decide) ?_
        refine r_jne (tgt := 50) dX12_kin_41 (by decide) (fun c29 => ?_) (fun c29 => ?_)
        · refine r_ldc2 (x := 100) dX12_kin_50 qX12_116 (by decide) ?_
          exact K 100 (by first | rfl | (simp only [if_pos c28, if_pos c29]))
        · refine r_ldc2 (x := 10000) dX12_kin_44 qX12_400 (by decide) ?_
          refine r_goto (tgt := 53) dX12_kin_47 (by decide) ?_
          exact K 10000 (by first | rfl | (simp only [if_pos c28, if_neg (show ¬ (x1 ≠ 1) from not_not_intro c29)]))
      · refine r_ldc2 (x := 50) dX12_kin_33 qX12_398 (by decide) ?_
        refine r_goto (tgt := 53) dX12_kin_36 (by decide) ?_
        exact K 50 (by first | rfl | (simp only [if_neg (show ¬ (x1 ≠ 0) from not_not_intro c28)]))
    refine r_jne (tgt := 28) dX12_kin_21 (by decide) (fun c26 => ?_) (fun c26 => ?_)
    · refine r_lconst (x := 0) dX12_kin_28 rfl (by decide) ?_
      exact K 0 (by first | rfl | (simp only [if_pos c26]))
    · refine r_lconst (x := 1) dX12_kin_24 rfl (by decide) ?_
      refine r_goto (tgt := 29) dX12_kin_25 (by decide) ?_
      exact K 1 (by first | rfl | (simp only [if_neg (show ¬ (x1 ≠ 2) from not_not_intro c26)]))

theorem gX12_lot_0 {w : WD} {d : Nat} {G : GM} {Q : Option AV → Hp → Prop} {n : NM} {x1 : Int}
    (V :
    (Ev w d 0 0 mX12_in [vl x1, vl 0, vl 60] (B0, upn n 145 0 0) (fun r h' => ∃ (x22 : Int) (n21 : NM), r = some (vi x22) ∧ h' = (B0, n21) ∧ 
      ((x22 ≠ 0 →
        ((x1 ≤ 0 →
          Rn w mX12_lot (d + 1) G Q 45 [(0, vr 145), (2, vi 0), (3, vi 0)] [] (B0, n21)) ∧
        (0 < x1 →
          (inI (x1 * (n21 147 12))) ∧
          (0 ≤ n21 147 11) ∧
          (0 < x1 * (n21 147 12)) ∧
          Q (some (vi ((n21 147 11) / (x1 * (n21 147 12))))) (B0, n21)))) ∧
      (x22 = 0 →
        Q (some (vi (-1))) (B0, n21)))))) :
    Rn w mX12_lot (d + 1) G Q 0 [(0, vr 145), (1, vi x1)] [] (B0, n) := by
  refine r_aload_n dX12_lot_0 rfl rfl ?_
  refine r_iconst (x := 0) dX12_lot_1 rfl (by decide) ?_
  refine r_putI (fi := 0) (h' := (B0, upn n 145 0 0)) dX12_lot_2 pX12_76 ob_145 (by decide) rfl rfl rfl ?_
  refine r_iload_n dX12_lot_5 rfl rfl ?_
  refine r_i2l dX12_lot_6 ?_
  refine r_lconst (x := 0) dX12_lot_7 rfl (by decide) ?_
  refine r_ldc2 (x := 60) dX12_lot_8 qX12_334 (by decide) ?_
  refine r_callS (args := [vl x1, vl 0, vl 60]) dX12_lot_11 kX12_82 rfl rfl (Nat.le_of_ble_eq_true rfl) cap0 (Ev.mono V ?_)
  rintro r h' ⟨x22, n21, rfl, rfl, V⟩
  show Rn w mX12_lot (d + 1) G Q 14 [(0, vr 145), (1, vi x1)] [vi x22] (B0, n21)
  obtain ⟨V1, V2⟩ := V
  refine r_zne (tgt := 19) dX12_lot_14 (by decide) (fun c23 => ?_) (fun c23 => ?_)
  · have V := V1 c23
    refine r_iload_n dX12_lot_19 rfl rfl ?_
    obtain ⟨V1, V2⟩ := V
    refine r_zle (tgt := 41) dX12_lot_20 (by decide) (fun c24 => ?_) (fun c24 => ?_)
    · have V := V1 c24
      refine r_iconst (x := 0) dX12_lot_41 rfl (by decide) ?_
      refine r_istore_n (ls' := [(0, vr 145), (1, vi x1), (2, vi 0)]) dX12_lot_42 rfl (by decide) rfl ?_
      refine r_iconst (x := 0) dX12_lot_43 rfl (by decide) ?_
      refine r_istore_n (ls' := [(0, vr 145), (1, vi x1), (2, vi 0), (3, vi 0)]) dX12_lot_44 rfl (by decide) rfl ?_
      refine r_pick [0, 2, 3] (ls' := [(0, vr 145), (2, vi 0), (3, vi 0)]) rfl ?_
      exact V
    · have V := V2 c24
      refine r_aload_n dX12_lot_23 rfl rfl ?_
      refine r_getR (b := 147) dX12_lot_24 fX12_13 ob_145 (by decide) rfl rfl ?_
      refine r_bipush (x := 11) dX12_lot_27 (by decide +kernel) (by decide) ?_
      refine r_iald dX12_lot_29 ob_147 (by decide) (by decide) ?_
      refine r_iload_n dX12_lot_30 rfl rfl ?_
      refine r_aload_n dX12_lot_31 rfl rfl ?_
      refine r_getR (b := 147) dX12_lot_32 fX12_13 ob_145 (by decide) rfl rfl ?_
      refine r_bipush (x := 12) dX12_lot_35 (by decide +kernel) (by decide) ?_
      refine r_iald dX12_lot_37 ob_147 (by decide) (by decide) ?_
      obtain ⟨s25, V⟩ := V
      refine r_imul dX12_lot_38 s25 ?_
      obtain ⟨s26, V⟩ := V
      obtain ⟨s27, V⟩ := V
      refine r_idiv dX12_lot_39 s26 s27 ?_
      exact r_iret dX12_lot_40 rfl V
  · have V := V2 c23
    refine r_iconst (x := -1) dX12_lot_17 rfl (by decide) ?_
    exact r_iret dX12_lot_18 rfl V

theorem gX12_lot_45 {w : WD} {d : Nat} {G : GM} {Q : Option AV → Hp → Prop} {n : NM} {x2 x3 : Int}
    (V :
    ((n 147 7 ≤ x3 →
      Q (some (vi x2)) (B0, n)) ∧
    (x3 < n 147 7 →
      (inI (3 * x3)) ∧
      (inI (700 + (3 * x3))) ∧
      (inI ((700 + (3 * x3)) + 1)) ∧
      (0 ≤ (700 + (3 * x3)) + 1) ∧
      ((700 + (3 * x3)) + 1 < 1800) ∧
      (n 147 ((700 + (3 * x3)) + 1) ≠ 0 → n 147 10 ≤ n 147 ((700 + (3 * x3)) + 1) → inI (3 * x3)) ∧
      (n 147 ((700 + (3 * x3)) + 1) ≠ 0 → n 147 10 ≤ n 147 ((700 + (3 * x3)) + 1) → inI (700 + (3 * x3))) ∧
      (n 147 ((700 + (3 * x3)) + 1) ≠ 0 → n 147 10 ≤ n 147 ((700 + (3 * x3)) + 1) → inI ((700 + (3 * x3)) + 2)) ∧
      (n 147 ((700 + (3 * x3)) + 1) ≠ 0 → n 147 10 ≤ n 147 ((700 + (3 * x3)) + 1) → 0 ≤ (700 + (3 * x3)) + 2) ∧
      (n 147 ((700 + (3 * x3)) + 1) ≠ 0 → n 147 10 ≤ n 147 ((700 + (3 * x3)) + 1) → (700 + (3 * x3)) + 2 < 1800) ∧
      (n 147 ((700 + (3 * x3)) + 1) ≠ 0 → n 147 10 ≤ n 147 ((700 + (3 * x3)) + 1) → inI ((n 147 ((700 + (3 * x3)) + 1)) * (n 147 ((700 + (3 * x3)) + 2)))) ∧
      (n 147 ((700 + (3 * x3)) + 1) ≠ 0 → n 147 10 ≤ n 147 ((700 + (3 * x3)) + 1) → inI (((n 147 ((700 + (3 * x3)) + 1)) * (n 147 ((700 + (3 * x3)) + 2))) * (n 147 12))) ∧
      (∀ z37 : Int, z37 = (if n 147 ((700 + (3 * x3)) + 1) = 0 then 1 else (if n 147 ((700 + (3 * x3)) + 1) < n 147 10 then 0 else (if n 147 11 < ((n 147 ((700 + (3 * x3)) + 1)) * (n 147 ((700 + (3 * x3)) + 2))) * (n 147 12) then 0 else 1))) → 
      ((z37 = 0 →
        (inI (x3 + 1)) ∧
        Rn w mX12_lot d G Q 45 [(0, vr 145), (2, vi (ior x2 0)), (3, vi (x3 + 1))] [] (B0, n)) ∧
      (z37 ≠ 0 →
        (∃ k40 : Nat, x3 = (k40 : Int) ∧ k40 < 32 ∧
        (inI (1 * ((2 ^ k40 : Nat) : Int))) ∧
        (inI (x3 + 1)) ∧
        Rn w mX12_lot d G Q 45 [(0, vr 145), (2, vi (ior x2 (1 * ((2 ^ k40 : Nat) : Int)))), (3, vi (x3 + 1))] [] (B0, n)))))))) :
    Rn w mX12_lot d G Q 45 [(0, vr 145), (2, vi x2), (3, vi x3)] [] (B0, n) := by
  refine r_iload_n dX12_lot_45 rfl rfl ?_
  refine r_aload_n dX12_lot_46 rfl rfl ?_
  refine r_getR (b := 147) dX12_lot_47 fX12_13 ob_145 (by decide) rfl rfl ?_
  refine r_bipush (x := 7) dX12_lot_50 (by decide +kernel) (by decide) ?_
  refine r_iald dX12_lot_52 ob_147 (by decide) (by decide) ?_
  obtain ⟨V1, V2⟩ := V
  refine r_jge (tgt := 152) dX12_lot_53 (by decide) (fun c21 => ?_) (fun c21 => ?_)
  · have V := V1 c21
    refine r_iload_n dX12_lot_152 rfl rfl ?_
    exact r_iret dX12_lot_153 rfl V
  · have V := V2 c21
    refine r_aload_n dX12_lot_56 rfl rfl ?_
    refine r_getR (b := 147) dX12_lot_57 fX12_13 ob_145 (by decide) rfl rfl ?_
    refine r_sipush (x := 700) dX12_lot_60 (by decide +kernel) (by decide) ?_
    refine r_iconst (x := 3) dX12_lot_63 rfl (by decide) ?_
    refine r_iload_n dX12_lot_64 rfl rfl ?_
    obtain ⟨s22, V⟩ := V
    refine r_imul dX12_lot_65 s22 ?_
    obtain ⟨s23, V⟩ := V
    refine r_iadd dX12_lot_66 s23 ?_
    refine r_iconst (x := 1) dX12_lot_67 rfl (by decide) ?_
    obtain ⟨s24, V⟩ := V
    refine r_iadd dX12_lot_68 s24 ?_
    obtain ⟨s25, V⟩ := V
    obtain ⟨s26, V⟩ := V
    refine r_iald dX12_lot_69 ob_147 s25 s26 ?_
    refine r_istore (ls' := [(0, vr 145), (2, vi x2), (3, vi x3), (4, vi (n 147 ((700 + (3 * x3)) + 1)))]) dX12_lot_70 (by decide) rfl ?_
    refine r_iload dX12_lot_72 rfl ?_
    obtain ⟨s29, V⟩ := V
    obtain ⟨s30, V⟩ := V
    obtain ⟨s31, V⟩ := V
    obtain ⟨s32, V⟩ := V
    obtain ⟨s33, V⟩ := V
    obtain ⟨s34, V⟩ := V
    obtain ⟨s35, V⟩ := V
    have K : ∀ z37 : Int, z37 = (if n 147 ((700 + (3 * x3)) + 1) = 0 then 1 else (if n 147 ((700 + (3 * x3)) + 1) < n 147 10 then 0 else (if n 147 11 < ((n 147 ((700 + (3 * x3)) + 1)) * (n 147 ((700 + (3 * x3)) + 2))) * (n 147 12) then 0 else 1))) → Rn w mX12_lot d G Q 129 [(0, vr 145), (2, vi x2), (3, vi x3)] [vi z37] (B0, n) := by
      intro z37 ez37
      have V := V z37 ez37
      refine r_istore (ls' := [(0, vr 145), (2, vi x2), (3, vi x3), (5, vi z37)]) dX12_lot_129 (by decide) rfl ?_
      refine r_iload_n dX12_lot_131 rfl rfl ?_
      refine r_iload dX12_lot_132 rfl ?_
      obtain ⟨V1, V2⟩ := V
      refine r_zeq (tgt := 143) dX12_lot_134 (by decide) (fun c38 => ?_) (fun c38 => ?_)
      · have V := V1 c38
        refine r_iconst (x := 0) dX12_lot_143 rfl (by decide) ?_
        refine r_ior dX12_lot_144 ?_
        refine r_istore_n (ls' := [(0, vr 145), (2, vi (ior x2 0)), (3, vi x3), (5, vi z37)]) dX12_lot_145 rfl (by decide) rfl ?_
        obtain ⟨s39, V⟩ := V
        refine r_iinc (y := x3 + 1) (ls' := [(0, vr 145), (2, vi (ior x2 0)), (3, vi (x3 + 1)), (5, vi z37)]) dX12_lot_146 rfl rfl s39 (by decide) rfl ?_
        refine r_goto (tgt := 45) dX12_lot_149 (by decide) ?_
        refine r_pick [0, 1, 2] (ls' := [(0, vr 145), (2, vi (ior x2 0)), (3, vi (x3 + 1))]) rfl ?_
        exact V
      · have V := V2 c38
        refine r_iconst (x := 1) dX12_lot_137 rfl (by decide) ?_
        refine r_iload_n dX12_lot_138 rfl rfl ?_
        obtain ⟨k40, hk40, lk40, V⟩ := V
        obtain ⟨s41, V⟩ := V
        refine r_ishl (n := k40) dX12_lot_139 hk40 lk40 s41 ?_
        refine r_goto (tgt := 144) dX12_lot_140 (by decide) ?_
        refine r_ior dX12_lot_144 ?_
        refine r_istore_n (ls' := [(0, vr 145), (2, vi (ior x2 (1 * ((2 ^ k40 : Nat) : Int)))), (3, vi x3), (5, vi z37)]) dX12_lot_145 rfl (by decide) rfl ?_
        obtain ⟨s42, V⟩ := V
        refine r_iinc (y := x3 + 1) (ls' := [(0, vr 145), (2, vi (ior x2 (1 * ((2 ^ k40 : Nat) : Int)))), (3, vi (x3 + 1)), (5, vi z37)]) dX12_lot_146 rfl rfl s42 (by decide) rfl ?_
        refine r_goto (tgt := 45) dX12_lot_149 (by decide) ?_
        refine r_pick [0, 1, 2] (ls' := [(0, vr 145), (2, vi (ior x2 (1 * ((2 ^ k40 : Nat) : Int)))), (3, vi (x3 + 1))]) rfl ?_
        exact V
    refine r_zeq (tgt := 124) dX12_lot_74 (by decide) (fun c27 => ?_) (fun c27 => ?_)
    · refine r_iconst (x := 1) dX12_lot_124 rfl (by decide) ?_
      refine r_goto (tgt := 129) dX12_lot_125 (by decide) ?_
      refine r_pick [0, 1, 2] (ls' := [(0, vr 145), (2, vi x2), (3, vi x3)]) rfl ?_
      exact K 1 (by first | rfl | (simp only [if_pos c27]))
    · refine r_iload dX12_lot_77 rfl ?_
      refine r_aload_n dX12_lot_79 rfl rfl ?_
      refine r_getR (b := 147) dX12_lot_80 fX12_13 ob_145 (by decide) rfl rfl ?_
      refine r_bipush (x := 10) dX12_lot_83 (by decide +kernel) (by decide) ?_
      refine r_iald dX12_lot_85 ob_147 (by decide) (by decide) ?_
      refine r_jlt (tgt := 128) dX12_lot_86 (by decide) (fun c28 => ?_) (fun c28 => ?_)
      · refine r_iconst (x := 0) dX12_lot_128 rfl (by decide) ?_
        refine r_pick [0, 1, 2] (ls' := [(0, vr 145), (2, vi x2), (3, vi x3)]) rfl ?_
        exact K 0 (by first | rfl | (simp only [if_neg c27, if_pos c28]))
      · refine r_iload dX12_lot_89 rfl ?_
        refine r_aload_n dX12_lot_91 rfl rfl ?_
        refine r_getR (b := 147) dX12_lot_92 fX12_13 ob_145 (by decide) rfl rfl ?_
        refine r_sipush (x := 700) dX12_lot_95 (by decide +kernel) (by decide) ?_
        refine r_iconst (x := 3) dX12_lot_98 rfl (by decide) ?_
        refine r_iload_n dX12_lot_99 rfl rfl ?_
        refine r_imul dX12_lot_100 (s29 c27 c28) ?_
        refine r_iadd dX12_lot_101 (s30 c27 c28) ?_
        refine r_iconst (x := 2) dX12_lot_102 rfl (by decide) ?_
        refine r_iadd dX12_lot_103 (s31 c27 c28) ?_
        refine r_iald dX12_lot_104 ob_147 (s32 c27 c28) (s33 c27 c28) ?_
        refine r_imul dX12_lot_105 (s34 c27 c28) ?_
        refine r_aload_n dX12_lot_106 rfl rfl ?_
        refine r_getR (b := 147) dX12_lot_107 fX12_13 ob_145 (by decide) rfl rfl ?_
        refine r_bipush (x := 12) dX12_lot_110 (by decide +kernel) (by decide) ?_
        refine r_iald dX12_lot_112 ob_147 (by decide) (by decide) ?_
        refine r_imul dX12_lot_113 (s35 c27 c28) ?_
        refine r_aload_n dX12_lot_114 rfl rfl ?_
        refine r_getR (b := 147) dX12_lot_115 fX12_13 ob_145 (by decide) rfl rfl ?_
        refine r_bipush (x := 11) dX12_lot_118 (by decide +kernel) (by decide) ?_
        refine r_iald dX12_lot_120 ob_147 (by decide) (by decide) ?_
        refine r_jgt (tgt := 128) dX12_lot_121 (by decide) (fun c36 => ?_) (fun c36 => ?_)
        · refine r_iconst (x := 0) dX12_lot_128 rfl (by decide) ?_
          refine r_pick [0, 1, 2] (ls' := [(0, vr 145), (2, vi x2), (3, vi x3)]) rfl ?_
          exact K 0 (by first | rfl | (simp only [if_neg c27, if_neg (Int.not_lt.mpr c28), if_pos c36]))
        · refine r_iconst (x := 1) dX12_lot_124 rfl (by decide) ?_
          refine r_goto (tgt := 129) dX12_lot_125 (by decide) ?_
          refine r_pick [0, 1, 2] (ls' := [(0, vr 145), (2, vi x2), (3, vi x3)]) rfl ?_
          exact K 1 (by first | rfl | (simp only [if_neg c27, if_neg (Int.not_lt.mpr c28), if_neg (Int.not_lt.mpr c36)]))

theorem gX12_offer_0 {w : WD} {d : Nat} {G : GM} {Q : Option AV → Hp → Prop} {n : NM} {x1 x2 x3 x4 : Int}
    (V :
    (Ev w d 0 0 mX12_isNet [vi x1, vi x2, vi x3] (B0, upn n 145 0 0) (fun r h' => ∃ (x22 : Int) (n21 : NM), r = some (vi x22) ∧ h' = (B0, n21) ∧ 
      ((x22 = 0 →
        (Ev w d 0 0 mX12_tell [vr 145, vi (-1)] (B0, n21) (fun r h' => ∃ (x25 : Int) (n24 : NM), r = some (vi x25) ∧ h' = (B0, n24) ∧ 
          Q (some (vi x25)) (B0, n24)))) ∧
      (x22 ≠ 0 →
        (Ev w d 0 0 mX12_in [vl x4, vl 1, vl 100] (B0, n21) (fun r h' => ∃ (x27 : Int) (n26 : NM), r = some (vi x27) ∧ h' = (B0, n26) ∧ 
          ((x27 ≠ 0 →
            (Ev w d 0 0 mX12_add [vr 145, vi 9, vi 10, vi 770, vi 4, vi x1, vi x2, vi x3, vi x4] (B0, n26) (fun r h' => ∃ (x30 : Int) (n29 : NM), r = some (vi x30) ∧ h' = (B0, n29) ∧ 
              Q (some (vi x30)) (B0, n29)))) ∧
          (x27 = 0 →
            (Ev w d 0 0 mX12_tell [vr 145, vi (-1)] (B0, n26) (fun r h' => ∃ (x32 : Int) (n31 : NM), r = some (vi x32) ∧ h' = (B0, n31) ∧ 
              Q (some (vi x32)) (B0, n31)))))))))))) :
    Rn w mX12_offer (d + 1) G Q 0 [(0, vr 145), (1, vi x1), (2, vi x2), (3, vi x3), (4, vi x4)] [] (B0, n) := by
  refine r_aload_n dX12_offer_0 rfl rfl ?_
  refine r_iconst (x := 0) dX12_offer_1 rfl (by decide) ?_
  refine r_putI (fi := 0) (h' := (B0, upn n 145 0 0)) dX12_offer_2 pX12_76 ob_145 (by decide) rfl rfl rfl ?_
  refine r_iload_n dX12_offer_5 rfl rfl ?_
  refine r_iload_n dX12_offer_6 rfl rfl ?_
  refine r_iload_n dX12_offer_7 rfl rfl ?_
  refine r_callS (args := [vi x1, vi x2, vi x3]) dX12_offer_8 kX12_390 rfl rfl (Nat.le_of_ble_eq_true rfl) cap0 (Ev.mono V ?_)
  rintro r h' ⟨x22, n21, rfl, rfl, V⟩
  show Rn w mX12_offer (d + 1) G Q 11 [(0, vr 145), (1, vi x1), (2, vi x2), (3, vi x3), (4, vi x4)] [vi x22] (B0, n21)
  obtain ⟨V1, V2⟩ := V
  refine r_zeq (tgt := 27) dX12_offer_11 (by decide) (fun c23 => ?_) (fun c23 => ?_)
  · have V := V1 c23
    refine r_aload_n dX12_offer_27 rfl rfl ?_
    refine r_iconst (x := -1) dX12_offer_28 rfl (by decide) ?_
    refine r_callV (args := [vi (-1)]) dX12_offer_29 kX12_86 ob_145 ⟨_, _, rfl⟩ (by decide) rfl rfl (Nat.le_of_ble_eq_true rfl) cap0 (Ev.mono V ?_)
    rintro r h' ⟨x25, n24, rfl, rfl, V⟩
    show Rn w mX12_offer (d + 1) G Q 32 [(0, vr 145), (1, vi x1), (2, vi x2), (3, vi x3), (4, vi x4)] [vi x25] (B0, n24)
    exact r_iret dX12_offer_32 rfl V
  · have V := V2 c23
    refine r_iload dX12_offer_14 rfl ?_
    refine r_i2l dX12_offer_16 ?_
    refine r_lconst (x := 1) dX12_offer_17 rfl (by decide) ?_
    refine r_ldc2 (x := 100) dX12_offer_18 qX12_116 (by decide) ?_
    refine r_callS (args := [vl x4, vl 1, vl 100]) dX12_offer_21 kX12_82 rfl rfl (Nat.le_of_ble_eq_true rfl) cap0 (Ev.mono V ?_)
    rintro r h' ⟨x27, n26, rfl, rfl, V⟩
    show Rn w mX12_offer (d + 1) G Q 24 [(0, vr 145), (1, vi x1), (2, vi x2), (3, vi x3), (4, vi x4)] [vi x27] (B0, n26)
    obtain ⟨V1, V2⟩ := V
    refine r_zne (tgt := 33) dX12_offer_24 (by decide) (fun c28 => ?_) (fun c28 => ?_)
    · have V := V1 c28
      refine r_aload_n dX12_offer_33 rfl rfl ?_
      refine r_bipush (x := 9) dX12_offer_34 (by decide +kernel) (by decide) ?_
      refine r_bipush (x := 10) dX12_offer_36 (by decide +kernel) (by decide) ?_
      refine r_sipush (x := 770) dX12_offer_38 (by decide +kernel) (by decide) ?_
      refine r_iconst (x := 4) dX12_offer_41 rfl (by decide) ?_
      refine r_iload_n dX12_offer_42 rfl rfl ?_
      refine r_iload_n dX12_offer_43 rfl rfl ?_
      refine r_iload_n dX12_offer_44 rfl rfl ?_
      refine r_iload dX12_offer_45 rfl ?_
      refine r_callV (args := [vi 9, vi 10, vi 770, vi 4, vi x1, vi x2, vi x3, vi x4]) dX12_offer_47 kX12_109 ob_145 ⟨_, _, rfl⟩ (by decide) rfl rfl (Nat.le_of_ble_eq_true rfl) cap0 (Ev.mono V ?_)
      rintro r h' ⟨x30, n29, rfl, rfl, V⟩
      show Rn w mX12_offer (d + 1) G Q 50 [(0, vr 145), (1, vi x1), (2, vi x2), (3, vi x3), (4, vi x4)] [vi x30] (B0, n29)
      exact r_iret dX12_offer_50 rfl V
    · have V := V2 c28
      refine r_aload_n dX12_offer_27 rfl rfl ?_
      refine r_iconst (x := -1) dX12_offer_28 rfl (by decide) ?_
      refine r_callV (args := [vi (-1)]) dX12_offer_29 kX12_86 ob_145 ⟨_, _, rfl⟩ (by decide) rfl rfl (Nat.le_of_ble_eq_true rfl) cap0 (Ev.mono V ?_)
      rintro r h' ⟨x32, n31, rfl, rfl, V⟩
      show Rn w mX12_offer (d + 1) G Q 32 [(0, vr 145), (1, vi x1), (2, vi x2), (3, vi x3), (4, vi x4)] [vi x32] (B0, n31)
      exact r_iret dX12_offer_32 rfl V

theorem gX12_findOdds_0 {w : WD} {d : Nat} {G : GM} {Q : Option AV → Hp → Prop} {n : NM}
    (V :
    Rn w mX12_findOdds d G Q 2 [(0, vr 145), (1, vi 0)] [] (B0, n)) :
    Rn w mX12_findOdds d G Q 0 [(0, vr 145)] [] (B0, n) := by
  refine r_iconst (x := 0) dX12_findOdds_0 rfl (by decide) ?_
  refine r_istore_n (ls' := [(0, vr 145), (1, vi 0)]) dX12_findOdds_1 rfl (by decide) rfl ?_
  exact V

theorem gX12_findOdds_2 {w : WD} {d : Nat} {G : GM} {Q : Option AV → Hp → Prop} {n : NM} {x1 : Int}
    (V :
    ((n 147 7 ≤ x1 →
      Q none (B0, n)) ∧
    (x1 < n 147 7 →
      (Ev w d 0 0 mX12_oddsOf [vr 145, vi x1, vi (-1)] (B0, n) (fun r h' => ∃ (x23 : Int) (n22 : NM), r = some (vi x23) ∧ h' = (B0, n22) ∧ 
        (0 ≤ x1) ∧
        (x1 < 6) ∧
        (inI (x1 + 1)) ∧
        Rn w mX12_findOdds (d + 1) G Q 2 [(0, vr 145), (1, vi (x1 + 1))] [] (B0, upn n22 163 x1 x23)))))) :
    Rn w mX12_findOdds (d + 1) G Q 2 [(0, vr 145), (1, vi x1)] [] (B0, n) := by
  refine r_iload_n dX12_findOdds_2 rfl rfl ?_
  refine r_aload_n dX12_findOdds_3 rfl rfl ?_
  refine r_getR (b := 147) dX12_findOdds_4 fX12_13 ob_145 (by decide) rfl rfl ?_
  refine r_bipush (x := 7) dX12_findOdds_7 (by decide +kernel) (by decide) ?_
  refine r_iald dX12_findOdds_9 ob_147 (by decide) (by decide) ?_
  obtain ⟨V1, V2⟩ := V
  refine r_jge (tgt := 31) dX12_findOdds_10 (by decide) (fun c21 => ?_) (fun c21 => ?_)
  · have V := V1 c21
    exact r_ret dX12_findOdds_31 rfl V
  · have V := V2 c21
    refine r_aload_n dX12_findOdds_13 rfl rfl ?_
    refine r_getR (b := 163) dX12_findOdds_14 fX12_67 ob_145 (by decide) rfl rfl ?_
    refine r_iload_n dX12_findOdds_17 rfl rfl ?_
    refine r_aload_n dX12_findOdds_18 rfl rfl ?_
    refine r_iload_n dX12_findOdds_19 rfl rfl ?_
    refine r_iconst (x := -1) dX12_findOdds_20 rfl (by decide) ?_
    refine r_callV (args := [vi x1, vi (-1)]) dX12_findOdds_21 kX12_394 ob_145 ⟨_, _, rfl⟩ (by decide) rfl rfl (Nat.le_of_ble_eq_true rfl) cap0 (Ev.mono V ?_)
    rintro r h' ⟨x23, n22, rfl, rfl, V⟩
    show Rn w mX12_findOdds (d + 1) G Q 24 [(0, vr 145), (1, vi x1)] [vi x23, vi x1, vr 163] (B0, n22)
    obtain ⟨s24, V⟩ := V
    obtain ⟨s25, V⟩ := V
    refine r_iast (h' := (B0, upn n22 163 x1 x23)) dX12_findOdds_24 ob_163 s24 s25 rfl ?_
    obtain ⟨s26, V⟩ := V
    refine r_iinc (y := x1 + 1) (ls' := [(0, vr 145), (1, vi (x1 + 1))]) dX12_findOdds_25 rfl rfl s26 (by decide) rfl ?_
    refine r_goto (tgt := 2) dX12_findOdds_28 (by decide) ?_
    exact V

theorem gX12_silent_0 {w : WD} {d : Nat} {G : GM} {Q : Option AV → Hp → Prop} {n : NM} {x1 x2 : Int}
    (V :
    Rn w mX12_silent d G Q 7 [(0, vr 145), (1, vi x1), (2, vi x2), (3, vl 1000000), (5, vi 0)] [] (B0, n)) :
    Rn w mX12_silent d G Q 0 [(0, vr 145), (1, vi x1), (2, vi x2)] [] (B0, n) := by
  refine r_ldc2 (x := 1000000) dX12_silent_0 qX12_176 (by decide) ?_
  refine r_lstore_n (ls' := [(0, vr 145), (1, vi x1), (2, vi x2), (3, vl 1000000)]) dX12_silent_3 rfl (by decide) rfl ?_
  refine r_iconst (x := 0) dX12_silent_4 rfl (by decide) ?_
  refine r_istore (ls' := [(0, vr 145), (1, vi x1), (2, vi x2), (3, vl 1000000), (5, vi 0)]) dX12_silent_5 (by decide) rfl ?_
  exact V

theorem gX12_silent_7 {w : WD} {d : Nat} {G : GM} {Q : Option AV → Hp → Prop} {n : NM} {x1 x2 x3 x5 : Int}
    (V :
    ((n 147 9 ≤ x5 →
      Q (some (vl x3)) (B0, n)) ∧
    (x5 < n 147 9 →
      (inI (4 * x5)) ∧
      (inI (770 + (4 * x5))) ∧
      (inI (3 * x1)) ∧
      (inI (700 + (3 * x1))) ∧
      (inI ((700 + (3 * x1)) + 2)) ∧
      (0 ≤ (700 + (3 * x1)) + 2) ∧
      ((700 + (3 * x1)) + 2 < 1800) ∧
      (inI ((770 + (4 * x5)) + 1)) ∧
      (0 ≤ (770 + (4 * x5)) + 1) ∧
      ((770 + (4 * x5)) + 1 < 1800) ∧
      (n 147 ((770 + (4 * x5)) + 1) ≤ n 147 ((700 + (3 * x1)) + 2) → inI (3 * x1)) ∧
      (n 147 ((770 + (4 * x5)) + 1) ≤ n 147 ((700 + (3 * x1)) + 2) → inI (700 + (3 * x1))) ∧
      (n 147 ((770 + (4 * x5)) + 1) ≤ n 147 ((700 + (3 * x1)) + 2) → inI ((700 + (3 * x1)) + 1)) ∧
      (n 147 ((770 + (4 * x5)) + 1) ≤ n 147 ((700 + (3 * x1)) + 2) → 0 ≤ (700 + (3 * x1)) + 1) ∧
      (n 147 ((770 + (4 * x5)) + 1) ≤ n 147 ((700 + (3 * x1)) + 2) → (700 + (3 * x1)) + 1 < 1800) ∧
      (∀ z38 : Int, z38 = (if n 147 ((700 + (3 * x1)) + 2) < n 147 ((770 + (4 * x5)) + 1) then 0 else n 147 ((700 + (3 * x1)) + 1)) → 
      (∃ k39 : Nat, x5 = (k39 : Int) ∧ k39 < 32 ∧
      (((x2 / ((2 ^ k39 : Nat) : Int)) % 2 ≠ 1 →
        (inI (x5 + 1)) ∧
        Rn w mX12_silent d G Q 7 [(0, vr 145), (1, vi x1), (2, vi x2), (3, vl x3), (5, vi (x5 + 1))] [] (B0, n)) ∧
      ((x2 / ((2 ^ k39 : Nat) : Int)) % 2 = 1 →
        Rn w mX12_silent d G Q 88 [(0, vr 145), (1, vi x1), (2, vi x2), (3, vl x3), (5, vi x5), (6, vi (770 + (4 * x5))), (7, vi z38), (8, vi 0)] [] (B0, n)))))))) :
    Rn w mX12_silent d G Q 7 [(0, vr 145), (1, vi x1), (2, vi x2), (3, vl x3), (5, vi x5)] [] (B0, n) := by
  refine r_iload dX12_silent_7 rfl ?_
  refine r_aload_n dX12_silent_9 rfl rfl ?_
  refine r_getR (b := 147) dX12_silent_10 fX12_13 ob_145 (by decide) rfl rfl ?_
  refine r_bipush (x := 9) dX12_silent_13 (by decide +kernel) (by decide) ?_
  refine r_iald dX12_silent_15 ob_147 (by decide) (by decide) ?_
  obtain ⟨V1, V2⟩ := V
  refine r_jge (tgt := 147) dX12_silent_16 (by decide) (fun c21 => ?_) (fun c21 => ?_)
  · have V := V1 c21
    refine r_lload_n dX12_silent_147 rfl rfl ?_
    exact r_lret dX12_silent_148 rfl V
  · have V := V2 c21
    refine r_sipush (x := 770) dX12_silent_19 (by decide +kernel) (by decide) ?_
    refine r_iconst (x := 4) dX12_silent_22 rfl (by decide) ?_
    refine r_iload dX12_silent_23 rfl ?_
    obtain ⟨s22, V⟩ := V
    refine r_imul dX12_silent_25 s22 ?_
    obtain ⟨s23, V⟩ := V
    refine r_iadd dX12_silent_26 s23 ?_
    refine r_istore (ls' := [(0, vr 145), (1, vi x1), (2, vi x2), (3, vl x3), (5, vi x5), (6, vi (770 + (4 * x5)))]) dX12_silent_27 (by decide) rfl ?_
    refine r_aload_n dX12_silent_29 rfl rfl ?_
    refine r_getR (b := 147) dX12_silent_30 fX12_13 ob_145 (by decide) rfl rfl ?_
    refine r_sipush (x := 700) dX12_silent_33 (by decide +kernel) (by decide) ?_
    refine r_iconst (x := 3) dX12_silent_36 rfl (by decide) ?_
    refine r_iload_n dX12_silent_37 rfl rfl ?_
    obtain ⟨s24, V⟩ := V
    refine r_imul dX12_silent_38 s24 ?_
    obtain ⟨s25, V⟩ := V
    refine r_iadd dX12_silent_39 s25 ?_
    refine r_iconst (x := 2) dX12_silent_40 rfl (by decide) ?_
    obtain ⟨s26, V⟩ := V
    refine r_iadd dX12_silent_41 s26 ?_
    obtain ⟨s27, V⟩ := V
    obtain ⟨s28, V⟩ := V
    refine r_iald dX12_silent_42 ob_147 s27 s28 ?_
    refine r_aload_n dX12_silent_43 rfl rfl ?_
    refine r_getR (b := 147) dX12_silent_44 fX12_13 ob_145 (by decide) rfl rfl ?_
    refine r_iload dX12_silent_47 rfl ?_
    refine r_iconst (x := 1) dX12_silent_49 rfl (by decide) ?_
    obtain ⟨s29, V⟩ := V
    refine r_iadd dX12_silent_50 s29 ?_
    obtain ⟨s30, V⟩ := V
    obtain ⟨s31, V⟩ := V
    refine r_iald dX12_silent_51 ob_147 s30 s31 ?_
    obtain ⟨s33, V⟩ := V
    obtain ⟨s34, V⟩ := V
    obtain ⟨s35, V⟩ := V
    obtain ⟨s36, V⟩ := V
    obtain ⟨s37, V⟩ := V
    have K : ∀ z38 : Int, z38 = (if n 147 ((700 + (3 * x1)) + 2) < n 147 ((770 + (4 * x5)) + 1) then 0 else n 147 ((700 + (3 * x1)) + 1)) → Rn w mX12_silent d G Q 73 [(0, vr 145), (1, vi x1), (2, vi x2), (3, vl x3), (5, vi x5), (6, vi (770 + (4 * x5)))] [vi z38] (B0, n) := by
      intro z38 ez38
      have V := V z38 ez38
      refine r_istore (ls' := [(0, vr 145), (1, vi x1), (2, vi x2), (3, vl x3), (5, vi x5), (6, vi (770 + (4 * x5))), (7, vi z38)]) dX12_silent_73 (by decide) rfl ?_
      refine r_iload_n dX12_silent_75 rfl rfl ?_
      refine r_iload dX12_silent_76 rfl ?_
      obtain ⟨k39, hk39, lk39, V⟩ := V
      refine r_ishr (n := k39) dX12_silent_78 hk39 lk39 (fun _ => ?_)
      refine r_iconst (x := 1) dX12_silent_79 rfl (by decide) ?_
      refine r_iand (n := 1) dX12_silent_80 (by decide) (by decide) ?_
      show Rn w mX12_silent d G Q 81 [(0, vr 145), (1, vi x1), (2, vi x2), (3, vl x3), (5, vi x5), (6, vi (770 + (4 * x5))), (7, vi z38)] [vi ((x2 / ((2 ^ k39 : Nat) : Int)) % 2)] (B0, n)
      refine r_iconst (x := 1) dX12_silent_81 rfl (by decide) ?_
      obtain ⟨V1, V2⟩ := V
      refine r_jne (tgt := 141) dX12_silent_82 (by decide) (fun c40 => ?_) (fun c40 => ?_)
      · have V := V1 c40
        obtain ⟨s41, V⟩ := V
        refine r_iinc (y := x5 + 1) (ls' := [(0, vr 145), (1, vi x1), (2, vi x2), (3, vl x3), (5, vi (x5 + 1)), (6, vi (770 + (4 * x5))), (7, vi z38)]) dX12_silent_141 rfl rfl s41 (by decide) rfl ?_
        refine r_goto (tgt := 7) dX12_silent_144 (by decide) ?_
        refine r_pick [0, 1, 2, 3, 4] (ls' := [(0, vr 145), (1, vi x1), (2, vi x2), (3, vl x3), (5, vi (x5 + 1))]) rfl ?_
        exact V
      · have V := V2 c40
        refine r_iconst (x := 0) dX12_silent_85 rfl (by decide) ?_
        refine r_istore (ls' := [(0, vr 145), (1, vi x1), (2, vi x2), (3, vl x3), (5, vi x5), (6, vi (770 + (4 * x5))), (7, vi z38), (8, vi 0)]) dX12_silent_86 (by decide) rfl ?_
        exact V
    refine r_jlt (tgt := 72) dX12_silent_52 (by decide) (fun c32 => ?_) (fun c32 => ?_)
    · refine r_iconst (x := 0) dX12_silent_72 rfl (by decide) ?_
      exact K 0 (by first | rfl | (simp only [if_pos c32]))
    · refine r_aload_n dX12_silent_55 rfl rfl ?_
      refine r_getR (b := 147) dX12_silent_56 fX12_13 ob_145 (by decide) rfl rfl ?_
      refine r_sipush (x := 700) dX12_silent_59 (by decide +kernel) (by decide) ?_
      refine r_iconst (x := 3) dX12_silent_62 rfl (by decide) ?_
      refine r_iload_n dX12_silent_63 rfl rfl ?_
      refine r_imul dX12_silent_64 (s33 c32) ?_
      refine r_iadd dX12_silent_65 (s34 c32) ?_
      refine r_iconst (x := 1) dX12_silent_66 rfl (by decide) ?_
      refine r_iadd dX12_silent_67 (s35 c32) ?_
      refine r_iald dX12_silent_68 ob_147 (s36 c32) (s37 c32) ?_
      refine r_goto (tgt := 73) dX12_silent_69 (by decide) ?_
      exact K (n 147 ((700 + (3 * x1)) + 1)) (by first | rfl | (simp only [if_neg (Int.not_lt.mpr c32)]))

theorem gX12_silent_88 {w : WD} {d : Nat} {G : GM} {Q : Option AV → Hp → Prop} {n : NM} {x1 x2 x3 x5 x6 x7 x8 : Int}
    (V :
    ((x7 ≤ x8 →
      (inI (x6 + 2)) ∧
      (0 ≤ x6 + 2) ∧
      (x6 + 2 < 1800) ∧
      (inJ (100 - (n 147 (x6 + 2)))) ∧
      (inJ (x3 * (100 - (n 147 (x6 + 2))))) ∧
      (0 ≤ x3 * (100 - (n 147 (x6 + 2)))) ∧
      (inI (x5 + 1)) ∧
      Rn w mX12_silent d G Q 7 [(0, vr 145), (1, vi x1), (2, vi x2), (3, vl ((x3 * (100 - (n 147 (x6 + 2)))) / 100)), (5, vi (x5 + 1))] [] (B0, n)) ∧
    (x8 < x7 →
      (0 ≤ x6) ∧
      (x6 < 1800) ∧
      (inJ (100 - (n 147 x6))) ∧
      (inJ (x3 * (100 - (n 147 x6)))) ∧
      (0 ≤ x3 * (100 - (n 147 x6))) ∧
      (inI (x8 + 1)) ∧
      Rn w mX12_silent d G Q 88 [(0, vr 145), (1, vi x1), (2, vi x2), (3, vl ((x3 * (100 - (n 147 x6))) / 100)), (5, vi x5), (6, vi x6), (7, vi x7), (8, vi (x8 + 1))] [] (B0, n)))) :
    Rn w mX12_silent d G Q 88 [(0, vr 145), (1, vi x1), (2, vi x2), (3, vl x3), (5, vi x5), (6, vi x6), (7, vi x7), (8, vi x8)] [] (B0, n) := by
  refine r_iload dX12_silent_88 rfl ?_
  refine r_iload dX12_silent_90 rfl ?_
  obtain ⟨V1, V2⟩ := V
  refine r_jge (tgt := 120) dX12_silent_92 (by decide) (fun c21 => ?_) (fun c21 => ?_)
  · have V := V1 c21
    refine r_lload_n dX12_silent_120 rfl rfl ?_
    refine r_ldc2 (x := 100) dX12_silent_121 qX12_116 (by decide) ?_
    refine r_aload_n dX12_silent_124 rfl rfl ?_
    refine r_getR (b := 147) dX12_silent_125 fX12_13 ob_145 (by decide) rfl rfl ?_
    refine r_iload dX12_silent_128 rfl ?_
    refine r_iconst (x := 2) dX12_silent_130 rfl (by decide) ?_
    obtain ⟨s22, V⟩ := V
    refine r_iadd dX12_silent_131 s22 ?_
    obtain ⟨s23, V⟩ := V
    obtain ⟨s24, V⟩ := V
    refine r_iald dX12_silent_132 ob_147 s23 s24 ?_
    refine r_i2l dX12_silent_133 ?_
    obtain ⟨s25, V⟩ := V
    refine r_lsub dX12_silent_134 s25 ?_
    obtain ⟨s26, V⟩ := V
    refine r_lmul dX12_silent_135 s26 ?_
    refine r_ldc2 (x := 100) dX12_silent_136 qX12_116 (by decide) ?_
    obtain ⟨s27, V⟩ := V
    refine r_ldiv dX12_silent_139 s27 (by decide) ?_
    refine r_lstore_n (ls' := [(0, vr 145), (1, vi x1), (2, vi x2), (3, vl ((x3 * (100 - (n 147 (x6 + 2)))) / 100)), (5, vi x5), (6, vi x6), (7, vi x7), (8, vi x8)]) dX12_silent_140 rfl (by decide) rfl ?_
    obtain ⟨s28, V⟩ := V
    refine r_iinc (y := x5 + 1) (ls' := [(0, vr 145), (1, vi x1), (2, vi x2), (3, vl ((x3 * (100 - (n 147 (x6 + 2)))) / 100)), (5, vi (x5 + 1)), (6, vi x6), (7, vi x7), (8, vi x8)]) dX12_silent_141 rfl rfl s28 (by decide) rfl ?_
    refine r_goto (tgt := 7) dX12_silent_144 (by decide) ?_
    refine r_pick [0, 1, 2, 3, 4] (ls' := [(0, vr 145), (1, vi x1), (2, vi x2), (3, vl ((x3 * (100 - (n 147 (x6 + 2)))) / 100)), (5, vi (x5 + 1))]) rfl ?_
    exact V
  · have V := V2 c21
    refine r_lload_n dX12_silent_95 rfl rfl ?_
    refine r_ldc2 (x := 100) dX12_silent_96 qX12_116 (by decide) ?_
    refine r_aload_n dX12_silent_99 rfl rfl ?_
    refine r_getR (b := 147) dX12_silent_100 fX12_13 ob_145 (by decide) rfl rfl ?_
    refine r_iload dX12_silent_103 rfl ?_
    obtain ⟨s29, V⟩ := V
    obtain ⟨s30, V⟩ := V
    refine r_iald dX12_silent_105 ob_147 s29 s30 ?_
    refine r_i2l dX12_silent_106 ?_
    obtain ⟨s31, V⟩ := V
    refine r_lsub dX12_silent_107 s31 ?_
    obtain ⟨s32, V⟩ := V
    refine r_lmul dX12_silent_108 s32 ?_
    refine r_ldc2 (x := 100) dX12_silent_109 qX12_116 (by decide) ?_
    obtain ⟨s33, V⟩ := V
    refine r_ldiv dX12_silent_112 s33 (by decide) ?_
    refine r_lstore_n (ls' := [(0, vr 145), (1, vi x1), (2, vi x2), (3, vl ((x3 * (100 - (n 147 x6))) / 100)), (5, vi x5), (6, vi x6), (7, vi x7), (8, vi x8)]) dX12_silent_113 rfl (by decide) rfl ?_
    obtain ⟨s34, V⟩ := V
    refine r_iinc (y := x8 + 1) (ls' := [(0, vr 145), (1, vi x1), (2, vi x2), (3, vl ((x3 * (100 - (n 147 x6))) / 100)), (5, vi x5), (6, vi x6), (7, vi x7), (8, vi (x8 + 1))]) dX12_silent_114 rfl rfl s34 (by decide) rfl ?_
    refine r_goto (tgt := 88) dX12_silent_117 (by decide) ?_
    exact V

theorem gX12_saysOf_0 {w : WD} {d : Nat} {G : GM} {Q : Option AV → Hp → Prop} {n : NM} {x1 : Int}
    (V :
    Rn w mX12_saysOf d G Q 5 [(0, vr 145), (1, vi x1), (2, vl 0), (4, vi 0)] [] (B0, n)) :
    Rn w mX12_saysOf d G Q 0 [(0, vr 145), (1, vi x1)] [] (B0, n) := by
  refine r_lconst (x := 0) dX12_saysOf_0 rfl (by decide) ?_
  refine r_lstore_n (ls' := [(0, vr 145), (1, vi x1), (2, vl 0)]) dX12_saysOf_1 rfl (by decide) rfl ?_
  refine r_iconst (x := 0) dX12_saysOf_2 rfl (by decide) ?_
  refine r_istore (ls' := [(0, vr 145), (1, vi x1), (2, vl 0), (4, vi 0)]) dX12_saysOf_3 (by decide) rfl ?_
  exact V

theorem gX12_saysOf_5 {w : WD} {d : Nat} {G : GM} {Q : Option AV → Hp → Prop} {n : NM} {x1 x2 x4 : Int}
    (V :
    ((n 147 7 ≤ x4 →
      (inI (x2)) ∧
      Q (some (vi x2)) (B0, n)) ∧
    (x4 < n 147 7 →
      (0 ≤ x4) ∧
      (x4 < 6) ∧
      (Ev w d 0 0 mX12_silent [vr 145, vi x4, vi x1] (B0, n) (fun r h' => ∃ (y26 : Int) (n25 : NM), r = some (vl y26) ∧ h' = (B0, n25) ∧ 
        (inJ (1000000 - y26)) ∧
        (inJ ((n 163 x4) * (1000000 - y26))) ∧
        (0 ≤ (n 163 x4) * (1000000 - y26)) ∧
        (inJ (x2 + (((n 163 x4) * (1000000 - y26)) / 1000000))) ∧
        (inI (x4 + 1)) ∧
        Rn w mX12_saysOf (d + 1) G Q 5 [(0, vr 145), (1, vi x1), (2, vl (x2 + (((n 163 x4) * (1000000 - y26)) / 1000000))), (4, vi (x4 + 1))] [] (B0, n25)))))) :
    Rn w mX12_saysOf (d + 1) G Q 5 [(0, vr 145), (1, vi x1), (2, vl x2), (4, vi x4)] [] (B0, n) := by
  refine r_iload dX12_saysOf_5 rfl ?_
  refine r_aload_n dX12_saysOf_7 rfl rfl ?_
  refine r_getR (b := 147) dX12_saysOf_8 fX12_13 ob_145 (by decide) rfl rfl ?_
  refine r_bipush (x := 7) dX12_saysOf_11 (by decide +kernel) (by decide) ?_
  refine r_iald dX12_saysOf_13 ob_147 (by decide) (by decide) ?_
  obtain ⟨V1, V2⟩ := V
  refine r_jge (tgt := 50) dX12_saysOf_14 (by decide) (fun c21 => ?_) (fun c21 => ?_)
  · have V := V1 c21
    refine r_lload_n dX12_saysOf_50 rfl rfl ?_
    obtain ⟨s22, V⟩ := V
    refine r_l2i dX12_saysOf_51 s22 ?_
    exact r_iret dX12_saysOf_52 rfl V
  · have V := V2 c21
    refine r_lload_n dX12_saysOf_17 rfl rfl ?_
    refine r_aload_n dX12_saysOf_18 rfl rfl ?_
    refine r_getR (b := 163) dX12_saysOf_19 fX12_67 ob_145 (by decide) rfl rfl ?_
    refine r_iload dX12_saysOf_22 rfl ?_
    obtain ⟨s23, V⟩ := V
    obtain ⟨s24, V⟩ := V
    refine r_iald dX12_saysOf_24 ob_163 s23 s24 ?_
    refine r_i2l dX12_saysOf_25 ?_
    refine r_ldc2 (x := 1000000) dX12_saysOf_26 qX12_176 (by decide) ?_
    refine r_aload_n dX12_saysOf_29 rfl rfl ?_
    refine r_iload dX12_saysOf_30 rfl ?_
    refine r_iload_n dX12_saysOf_32 rfl rfl ?_
    refine r_callV (args := [vi x4, vi x1]) dX12_saysOf_33 kX12_402 ob_145 ⟨_, _, rfl⟩ (by decide) rfl rfl (Nat.le_of_ble_eq_true rfl) cap0 (Ev.mono V ?_)
    rintro r h' ⟨y26, n25, rfl, rfl, V⟩
    show Rn w mX12_saysOf (d + 1) G Q 36 [(0, vr 145), (1, vi x1), (2, vl x2), (4, vi x4)] [vl y26, vl 1000000, vl (n 163 x4), vl x2] (B0, n25)
    obtain ⟨s27, V⟩ := V
    refine r_lsub dX12_saysOf_36 s27 ?_
    obtain ⟨s28, V⟩ := V
    refine r_lmul dX12_saysOf_37 s28 ?_
    refine r_ldc2 (x := 1000000) dX12_saysOf_38 qX12_176 (by decide) ?_
    obtain ⟨s29, V⟩ := V
    refine r_ldiv dX12_saysOf_41 s29 (by decide) ?_
    obtain ⟨s30, V⟩ := V
    refine r_ladd dX12_saysOf_42 s30 ?_
    refine r_lstore_n (ls' := [(0, vr 145), (1, vi x1), (2, vl (x2 + (((n 163 x4) * (1000000 - y26)) / 1000000))), (4, vi x4)]) dX12_saysOf_43 rfl (by decide) rfl ?_
    obtain ⟨s31, V⟩ := V
    refine r_iinc (y := x4 + 1) (ls' := [(0, vr 145), (1, vi x1), (2, vl (x2 + (((n 163 x4) * (1000000 - y26)) / 1000000))), (4, vi (x4 + 1))]) dX12_saysOf_44 rfl rfl s31 (by decide) rfl ?_
    refine r_goto (tgt := 5) dX12_saysOf_47 (by decide) ?_
    exact V

theorem gX12_says_0 {w : WD} {d : Nat} {G : GM} {Q : Option AV → Hp → Prop} {n : NM} {x1 : Int}
    (V :
    (∃ k21 : Nat, n 147 9 = (k21 : Int) ∧ k21 < 32 ∧
    (inJ (1 * ((2 ^ k21 : Nat) : Int))) ∧
    (inJ ((1 * ((2 ^ k21 : Nat) : Int)) - 1)) ∧
    (Ev w d 0 0 mX12_in [vl x1, vl 0, vl ((1 * ((2 ^ k21 : Nat) : Int)) - 1)] (B0, upn n 145 0 0) (fun r h' => ∃ (x25 : Int) (n24 : NM), r = some (vi x25) ∧ h' = (B0, n24) ∧ 
      ((x25 ≠ 0 →
        (Ev w d 0 0 mX12_findOdds [vr 145] (B0, n24) (fun r h' => ∃ n27 : NM, r = none ∧ h' = (B0, n27) ∧ 
          (Ev w d 0 0 mX12_saysOf [vr 145, vi x1] (B0, n27) (fun r h' => ∃ (x29 : Int) (n28 : NM), r = some (vi x29) ∧ h' = (B0, n28) ∧ 
            Q (some (vi x29)) (B0, n28)))))) ∧
      (x25 = 0 →
        Q (some (vi (-1))) (B0, n24))))))) :
    Rn w mX12_says (d + 1) G Q 0 [(0, vr 145), (1, vi x1)] [] (B0, n) := by
  refine r_aload_n dX12_says_0 rfl rfl ?_
  refine r_iconst (x := 0) dX12_says_1 rfl (by decide) ?_
  refine r_putI (fi := 0) (h' := (B0, upn n 145 0 0)) dX12_says_2 pX12_76 ob_145 (by decide) rfl rfl rfl ?_
  refine r_iload_n dX12_says_5 rfl rfl ?_
  refine r_i2l dX12_says_6 ?_
  refine r_lconst (x := 0) dX12_says_7 rfl (by decide) ?_
  refine r_lconst (x := 1) dX12_says_8 rfl (by decide) ?_
  refine r_aload_n dX12_says_9 rfl rfl ?_
  refine r_getR (b := 147) dX12_says_10 fX12_13 ob_145 (by decide) rfl rfl ?_
  refine r_bipush (x := 9) dX12_says_13 (by decide +kernel) (by decide) ?_
  refine r_iald dX12_says_15 ob_147 (by decide) (by decide) ?_
  show Rn w mX12_says (d + 1) G Q 16 [(0, vr 145), (1, vi x1)] [vi (n 147 9), vl 1, vl 0, vl x1] (B0, upn n 145 0 0)
  obtain ⟨k21, hk21, lk21, V⟩ := V
  obtain ⟨s22, V⟩ := V
  refine r_lshl (n := k21) dX12_says_16 hk21 lk21 s22 ?_
  refine r_lconst (x := 1) dX12_says_17 rfl (by decide) ?_
  obtain ⟨s23, V⟩ := V
  refine r_lsub dX12_says_18 s23 ?_
  refine r_callS (args := [vl x1, vl 0, vl ((1 * ((2 ^ k21 : Nat) : Int)) - 1)]) dX12_says_19 kX12_82 rfl rfl (Nat.le_of_ble_eq_true rfl) cap0 (Ev.mono V ?_)
  rintro r h' ⟨x25, n24, rfl, rfl, V⟩
  show Rn w mX12_says (d + 1) G Q 22 [(0, vr 145), (1, vi x1)] [vi x25] (B0, n24)
  obtain ⟨V1, V2⟩ := V
  refine r_zne (tgt := 27) dX12_says_22 (by decide) (fun c26 => ?_) (fun c26 => ?_)
  · have V := V1 c26
    refine r_aload_n dX12_says_27 rfl rfl ?_
    refine r_callV (args := []) dX12_says_28 kX12_406 ob_145 ⟨_, _, rfl⟩ (by decide) rfl rfl (Nat.le_of_ble_eq_true rfl) cap0 (Ev.mono V ?_)
    rintro r h' ⟨n27, rfl, rfl, V⟩
    show Rn w mX12_says (d + 1) G Q 31 [(0, vr 145), (1, vi x1)] [] (B0, n27)
    refine r_aload_n dX12_says_31 rfl rfl ?_
    refine r_iload_n dX12_says_32 rfl rfl ?_
    refine r_callV (args := [vi x1]) dX12_says_33 kX12_409 ob_145 ⟨_, _, rfl⟩ (by decide) rfl rfl (Nat.le_of_ble_eq_true rfl) cap0 (Ev.mono V ?_)
    rintro r h' ⟨x29, n28, rfl, rfl, V⟩
    show Rn w mX12_says (d + 1) G Q 36 [(0, vr 145), (1, vi x1)] [vi x29] (B0, n28)
    exact r_iret dX12_says_36 rfl V
  · have V := V2 c26
    refine r_iconst (x := -1) dX12_says_25 rfl (by decide) ?_
    exact r_iret dX12_says_26 rfl V

theorem gX12_costOf_0 {w : WD} {d : Nat} {G : GM} {Q : Option AV → Hp → Prop} {n : NM} {x1 : Int}
    (V :
    Rn w mX12_costOf d G Q 4 [(0, vr 145), (1, vi x1), (2, vi 0), (3, vi 0)] [] (B0, n)) :
    Rn w mX12_costOf d G Q 0 [(0, vr 145), (1, vi x1)] [] (B0, n) := by
  refine r_iconst (x := 0) dX12_costOf_0 rfl (by decide) ?_
  refine r_istore_n (ls' := [(0, vr 145), (1, vi x1), (2, vi 0)]) dX12_costOf_1 rfl (by decide) rfl ?_
  refine r_iconst (x := 0) dX12_costOf_2 rfl (by decide) ?_
  refine r_istore_n (ls' := [(0, vr 145), (1, vi x1), (2, vi 0), (3, vi 0)]) dX12_costOf_3 rfl (by decide) rfl ?_
  exact V

theorem gX12_costOf_4 {w : WD} {d : Nat} {G : GM} {Q : Option AV → Hp → Prop} {n : NM} {x1 x2 x3 : Int}
    (V :
    ((n 147 9 ≤ x3 →
      Q (some (vi x2)) (B0, n)) ∧
    (x3 < n 147 9 →
      (∃ k22 : Nat, x3 = (k22 : Int) ∧ k22 < 32 ∧
      ((x1 / ((2 ^ k22 : Nat) : Int)) % 2 = 1 → inI (4 * x3)) ∧
      ((x1 / ((2 ^ k22 : Nat) : Int)) % 2 = 1 → inI (770 + (4 * x3))) ∧
      ((x1 / ((2 ^ k22 : Nat) : Int)) % 2 = 1 → inI ((770 + (4 * x3)) + 3)) ∧
      ((x1 / ((2 ^ k22 : Nat) : Int)) % 2 = 1 → 0 ≤ (770 + (4 * x3)) + 3) ∧
      ((x1 / ((2 ^ k22 : Nat) : Int)) % 2 = 1 → (770 + (4 * x3)) + 3 < 1800) ∧
      (∀ z29 : Int, z29 = (if (x1 / ((2 ^ k22 : Nat) : Int)) % 2 ≠ 1 then 0 else n 147 ((770 + (4 * x3)) + 3)) → 
      (inI (x2 + z29)) ∧
      (inI (x3 + 1)) ∧
      Rn w mX12_costOf d G Q 4 [(0, vr 145), (1, vi x1), (2, vi (x2 + z29)), (3, vi (x3 + 1))] [] (B0, n)))))) :
    Rn w mX12_costOf d G Q 4 [(0, vr 145), (1, vi x1), (2, vi x2), (3, vi x3)] [] (B0, n) := by
  refine r_iload_n dX12_costOf_4 rfl rfl ?_
  refine r_aload_n dX12_costOf_5 rfl rfl ?_
  refine r_getR (b := 147) dX12_costOf_6 fX12_13 ob_145 (by decide) rfl rfl ?_
  refine r_bipush (x := 9) dX12_costOf_9 (by decide +kernel) (by decide) ?_
  refine r_iald dX12_costOf_11 ob_147 (by decide) (by decide) ?_
  obtain ⟨V1, V2⟩ := V
  refine r_jge (tgt := 51) dX12_costOf_12 (by decide) (fun c21 => ?_) (fun c21 => ?_)
  · have V := V1 c21
    refine r_iload_n dX12_costOf_51 rfl rfl ?_
    exact r_iret dX12_costOf_52 rfl V
  · have V := V2 c21
    refine r_iload_n dX12_costOf_15 rfl rfl ?_
    refine r_iload_n dX12_costOf_16 rfl rfl ?_
    refine r_iload_n dX12_costOf_17 rfl rfl ?_
    obtain ⟨k22, hk22, lk22, V⟩ := V
    refine r_ishr (n := k22) dX12_costOf_18 hk22 lk22 (fun _ => ?_)
    refine r_iconst (x := 1) dX12_costOf_19 rfl (by decide) ?_
    refine r_iand (n := 1) dX12_costOf_20 (by decide) (by decide) ?_
    show Rn w mX12_costOf d G Q 21 [(0, vr 145), (1, vi x1), (2, vi x2), (3, vi x3)] [vi ((x1 / ((2 ^ k22 : Nat) : Int)) % 2), vi x2] (B0, n)
    refine r_iconst (x := 1) dX12_costOf_21 rfl (by decide) ?_
    obtain ⟨s24, V⟩ := V
    obtain ⟨s25, V⟩ := V
    obtain ⟨s26, V⟩ := V
    obtain ⟨s27, V⟩ := V
    obtain ⟨s28, V⟩ := V
    have K : ∀ z29 : Int, z29 = (if (x1 / ((2 ^ k22 : Nat) : Int)) % 2 ≠ 1 then 0 else n 147 ((770 + (4 * x3)) + 3)) → Rn w mX12_costOf d G Q 43 [(0, vr 145), (1, vi x1), (3, vi x3)] [vi z29, vi x2] (B0, n) := by
      intro z29 ez29
      have V := V z29 ez29
      obtain ⟨s30, V⟩ := V
      refine r_iadd dX12_costOf_43 s30 ?_
      refine r_istore_n (ls' := [(0, vr 145), (1, vi x1), (2, vi (x2 + z29)), (3, vi x3)]) dX12_costOf_44 rfl (by decide) rfl ?_
      obtain ⟨s31, V⟩ := V
      refine r_iinc (y := x3 + 1) (ls' := [(0, vr 145), (1, vi x1), (2, vi (x2 + z29)), (3, vi (x3 + 1))]) dX12_costOf_45 rfl rfl s31 (by decide) rfl ?_
      refine r_goto (tgt := 4) dX12_costOf_48 (by decide) ?_
      exact V
    refine r_jne (tgt := 42) dX12_costOf_22 (by decide) (fun c23 => ?_) (fun c23 => ?_)
    · refine r_iconst (x := 0) dX12_costOf_42 rfl (by decide) ?_
      refine r_pick [0, 1, 3] (ls' := [(0, vr 145), (1, vi x1), (3, vi x3)]) rfl ?_
      exact K 0 (by first | rfl | (simp only [if_pos c23]))
    · refine r_aload_n dX12_costOf_25 rfl rfl ?_
      refine r_getR (b := 147) dX12_costOf_26 fX12_13 ob_145 (by decide) rfl rfl ?_
      refine r_sipush (x := 770) dX12_costOf_29 (by decide +kernel) (by decide) ?_
      refine r_iconst (x := 4) dX12_costOf_32 rfl (by decide) ?_
      refine r_iload_n dX12_costOf_33 rfl rfl ?_
      refine r_imul dX12_costOf_34 (s24 c23) ?_
      refine r_iadd dX12_costOf_35 (s25 c23) ?_
      refine r_iconst (x := 3) dX12_costOf_36 rfl (by decide) ?_
      refine r_iadd dX12_costOf_37 (s26 c23) ?_
      refine r_iald dX12_costOf_38 ob_147 (s27 c23) (s28 c23) ?_
      refine r_goto (tgt := 43) dX12_costOf_39 (by decide) ?_
      refine r_pick [0, 1, 3] (ls' := [(0, vr 145), (1, vi x1), (3, vi x3)]) rfl ?_
      exact K (n 147 ((770 + (4 * x3)) + 3)) (by first | rfl | (simp only [if_neg (show ¬ ((x1 / ((2 ^ k22 : Nat) : Int)) % 2 ≠ 1) from not_not_intro c23)]))

theorem gX12_plan_0 {w : WD} {d : Nat} {G : GM} {Q : Option AV → Hp → Prop} {n : NM} {x1 : Int}
    (V :
    (Ev w d 0 0 mX12_in [vl x1, vl 0, vl 1000] (B0, upn n 145 0 0) (fun r h' => ∃ (x22 : Int) (n21 : NM), r = some (vi x22) ∧ h' = (B0, n21) ∧ 
      ((x22 ≠ 0 →
        (Ev w d 0 0 mX12_findOdds [vr 145] (B0, n21) (fun r h' => ∃ n24 : NM, r = none ∧ h' = (B0, n24) ∧ 
          (Ev w d 0 0 mX12_saysOf [vr 145, vi 0] (B0, n24) (fun r h' => ∃ (x26 : Int) (n25 : NM), r = some (vi x26) ∧ h' = (B0, n25) ∧ 
            Rn w mX12_plan (d + 1) G Q 34 [(0, vr 145), (1, vi x1), (2, vi 0), (3, vi x26), (4, vi 1)] [] (B0, n25)))))) ∧
      (x22 = 0 →
        Q (some (vi (-1))) (B0, n21)))))) :
    Rn w mX12_plan (d + 1) G Q 0 [(0, vr 145), (1, vi x1)] [] (B0, n) := by
  refine r_aload_n dX12_plan_0 rfl rfl ?_
  refine r_iconst (x := 0) dX12_plan_1 rfl (by decide) ?_
  refine r_putI (fi := 0) (h' := (B0, upn n 145 0 0)) dX12_plan_2 pX12_76 ob_145 (by decide) rfl rfl rfl ?_
  refine r_iload_n dX12_plan_5 rfl rfl ?_
  refine r_i2l dX12_plan_6 ?_
  refine r_lconst (x := 0) dX12_plan_7 rfl (by decide) ?_
  refine r_ldc2 (x := 1000) dX12_plan_8 qX12_412 (by decide) ?_
  refine r_callS (args := [vl x1, vl 0, vl 1000]) dX12_plan_11 kX12_82 rfl rfl (Nat.le_of_ble_eq_true rfl) cap0 (Ev.mono V ?_)
  rintro r h' ⟨x22, n21, rfl, rfl, V⟩
  show Rn w mX12_plan (d + 1) G Q 14 [(0, vr 145), (1, vi x1)] [vi x22] (B0, n21)
  obtain ⟨V1, V2⟩ := V
  refine r_zne (tgt := 19) dX12_plan_14 (by decide) (fun c23 => ?_) (fun c23 => ?_)
  · have V := V1 c23
    refine r_aload_n dX12_plan_19 rfl rfl ?_
    refine r_callV (args := []) dX12_plan_20 kX12_406 ob_145 ⟨_, _, rfl⟩ (by decide) rfl rfl (Nat.le_of_ble_eq_true rfl) cap0 (Ev.mono V ?_)
    rintro r h' ⟨n24, rfl, rfl, V⟩
    show Rn w mX12_plan (d + 1) G Q 23 [(0, vr 145), (1, vi x1)] [] (B0, n24)
    refine r_iconst (x := 0) dX12_plan_23 rfl (by decide) ?_
    refine r_istore_n (ls' := [(0, vr 145), (1, vi x1), (2, vi 0)]) dX12_plan_24 rfl (by decide) rfl ?_
    refine r_aload_n dX12_plan_25 rfl rfl ?_
    refine r_iconst (x := 0) dX12_plan_26 rfl (by decide) ?_
    refine r_callV (args := [vi 0]) dX12_plan_27 kX12_409 ob_145 ⟨_, _, rfl⟩ (by decide) rfl rfl (Nat.le_of_ble_eq_true rfl) cap0 (Ev.mono V ?_)
    rintro r h' ⟨x26, n25, rfl, rfl, V⟩
    show Rn w mX12_plan (d + 1) G Q 30 [(0, vr 145), (1, vi x1), (2, vi 0)] [vi x26] (B0, n25)
    refine r_istore_n (ls' := [(0, vr 145), (1, vi x1), (2, vi 0), (3, vi x26)]) dX12_plan_30 rfl (by decide) rfl ?_
    refine r_iconst (x := 1) dX12_plan_31 rfl (by decide) ?_
    refine r_istore (ls' := [(0, vr 145), (1, vi x1), (2, vi 0), (3, vi x26), (4, vi 1)]) dX12_plan_32 (by decide) rfl ?_
    exact V
  · have V := V2 c23
    refine r_iconst (x := -1) dX12_plan_17 rfl (by decide) ?_
    exact r_iret dX12_plan_18 rfl V

theorem gX12_plan_34 {w : WD} {d : Nat} {G : GM} {Q : Option AV → Hp → Prop} {n : NM} {x1 x2 x3 x4 : Int}
    (V :
    (∃ k21 : Nat, n 147 9 = (k21 : Int) ∧ k21 < 32 ∧
    (inI (1 * ((2 ^ k21 : Nat) : Int))) ∧
    ((1 * ((2 ^ k21 : Nat) : Int) ≤ x4 →
      Q (some (vi x2)) (B0, n)) ∧
    (x4 < 1 * ((2 ^ k21 : Nat) : Int) →
      (Ev w d 0 0 mX12_costOf [vr 145, vi x4] (B0, n) (fun r h' => ∃ (x25 : Int) (n24 : NM), r = some (vi x25) ∧ h' = (B0, n24) ∧ 
        ((x1 < x25 →
          Rn w mX12_plan (d + 1) G Q 72 [(0, vr 145), (1, vi x1), (2, vi x2), (3, vi x3), (4, vi x4), (5, vi x25)] [vi (-1)] (B0, n24)) ∧
        (x25 ≤ x1 →
          (Ev w d 0 0 mX12_saysOf [vr 145, vi x4] (B0, n24) (fun r h' => ∃ (x28 : Int) (n27 : NM), r = some (vi x28) ∧ h' = (B0, n27) ∧ 
            Rn w mX12_plan (d + 1) G Q 72 [(0, vr 145), (1, vi x1), (2, vi x2), (3, vi x3), (4, vi x4), (5, vi x25)] [vi x28] (B0, n27))))))))))) :
    Rn w mX12_plan (d + 1) G Q 34 [(0, vr 145), (1, vi x1), (2, vi x2), (3, vi x3), (4, vi x4)] [] (B0, n) := by
  refine r_iload dX12_plan_34 rfl ?_
  refine r_iconst (x := 1) dX12_plan_36 rfl (by decide) ?_
  refine r_aload_n dX12_plan_37 rfl rfl ?_
  refine r_getR (b := 147) dX12_plan_38 fX12_13 ob_145 (by decide) rfl rfl ?_
  refine r_bipush (x := 9) dX12_plan_41 (by decide +kernel) (by decide) ?_
  refine r_iald dX12_plan_43 ob_147 (by decide) (by decide) ?_
  obtain ⟨k21, hk21, lk21, V⟩ := V
  obtain ⟨s22, V⟩ := V
  refine r_ishl (n := k21) dX12_plan_44 hk21 lk21 s22 ?_
  obtain ⟨V1, V2⟩ := V
  refine r_jge (tgt := 108) dX12_plan_45 (by decide) (fun c23 => ?_) (fun c23 => ?_)
  · have V := V1 c23
    refine r_iload_n dX12_plan_108 rfl rfl ?_
    exact r_iret dX12_plan_109 rfl V
  · have V := V2 c23
    refine r_aload_n dX12_plan_48 rfl rfl ?_
    refine r_iload dX12_plan_49 rfl ?_
    refine r_callV (args := [vi x4]) dX12_plan_51 kX12_414 ob_145 ⟨_, _, rfl⟩ (by decide) rfl rfl (Nat.le_of_ble_eq_true rfl) cap0 (Ev.mono V ?_)
    rintro r h' ⟨x25, n24, rfl, rfl, V⟩
    show Rn w mX12_plan (d + 1) G Q 54 [(0, vr 145), (1, vi x1), (2, vi x2), (3, vi x3), (4, vi x4)] [vi x25] (B0, n24)
    refine r_istore (ls' := [(0, vr 145), (1, vi x1), (2, vi x2), (3, vi x3), (4, vi x4), (5, vi x25)]) dX12_plan_54 (by decide) rfl ?_
    refine r_iload dX12_plan_56 rfl ?_
    refine r_iload_n dX12_plan_58 rfl rfl ?_
    obtain ⟨V1, V2⟩ := V
    refine r_jgt (tgt := 71) dX12_plan_59 (by decide) (fun c26 => ?_) (fun c26 => ?_)
    · have V := V1 c26
      refine r_iconst (x := -1) dX12_plan_71 rfl (by decide) ?_
      exact V
    · have V := V2 c26
      refine r_aload_n dX12_plan_62 rfl rfl ?_
      refine r_iload dX12_plan_63 rfl ?_
      refine r_callV (args := [vi x4]) dX12_plan_65 kX12_409 ob_145 ⟨_, _, rfl⟩ (by decide) rfl rfl (Nat.le_of_ble_eq_true rfl) cap0 (Ev.mono V ?_)
      rintro r h' ⟨x28, n27, rfl, rfl, V⟩
      show Rn w mX12_plan (d + 1) G Q 68 [(0, vr 145), (1, vi x1), (2, vi x2), (3, vi x3), (4, vi x4), (5, vi x25)] [vi x28] (B0, n27)
      refine r_goto (tgt := 72) dX12_plan_68 (by decide) ?_
      exact V

theorem gX12_plan_72 {w : WD} {d : Nat} {G : GM} {Q : Option AV → Hp → Prop} {n : NM} {x1 x2 x3 x4 x5 t0 : Int}
    (V :
    ((x3 < t0 →
      (inI (x4 + 1)) ∧
      Rn w mX12_plan (d + 1) G Q 34 [(0, vr 145), (1, vi x1), (2, vi x4), (3, vi t0), (4, vi (x4 + 1))] [] (B0, n)) ∧
    (t0 ≤ x3 →
      ((t0 ≠ x3 →
        (inI (x4 + 1)) ∧
        Rn w mX12_plan (d + 1) G Q 34 [(0, vr 145), (1, vi x1), (2, vi x2), (3, vi x3), (4, vi (x4 + 1))] [] (B0, n)) ∧
      (t0 = x3 →
        (Ev w d 0 0 mX12_costOf [vr 145, vi x2] (B0, n) (fun r h' => ∃ (x26 : Int) (n25 : NM), r = some (vi x26) ∧ h' = (B0, n25) ∧ 
          (∀ z28 z29 : Int, z28 = (if x26 ≤ x5 then x2 else x4) → z29 = (if x26 ≤ x5 then x3 else t0) → 
          (inI (x4 + 1)) ∧
          Rn w mX12_plan (d + 1) G Q 34 [(0, vr 145), (1, vi x1), (2, vi z28), (3, vi z29), (4, vi (x4 + 1))] [] (B0, n25))))))))) :
    Rn w mX12_plan (d + 1) G Q 72 [(0, vr 145), (1, vi x1), (2, vi x2), (3, vi x3), (4, vi x4), (5, vi x5)] [vi t0] (B0, n) := by
  refine r_istore (ls' := [(0, vr 145), (1, vi x1), (2, vi x2), (3, vi x3), (4, vi x4), (5, vi x5), (6, vi t0)]) dX12_plan_72 (by decide) rfl ?_
  refine r_iload dX12_plan_74 rfl ?_
  refine r_iload_n dX12_plan_76 rfl rfl ?_
  obtain ⟨V1, V2⟩ := V
  refine r_jgt (tgt := 96) dX12_plan_77 (by decide) (fun c21 => ?_) (fun c21 => ?_)
  · have V := V1 c21
    refine r_iload dX12_plan_96 rfl ?_
    refine r_istore_n (ls' := [(0, vr 145), (1, vi x1), (2, vi x4), (3, vi x3), (4, vi x4), (5, vi x5), (6, vi t0)]) dX12_plan_98 rfl (by decide) rfl ?_
    refine r_iload dX12_plan_99 rfl ?_
    refine r_istore_n (ls' := [(0, vr 145), (1, vi x1), (2, vi x4), (3, vi t0), (4, vi x4), (5, vi x5), (6, vi t0)]) dX12_plan_101 rfl (by decide) rfl ?_
    obtain ⟨s22, V⟩ := V
    refine r_iinc (y := x4 + 1) (ls' := [(0, vr 145), (1, vi x1), (2, vi x4), (3, vi t0), (4, vi (x4 + 1)), (5, vi x5), (6, vi t0)]) dX12_plan_102 rfl rfl s22 (by decide) rfl ?_
    refine r_goto (tgt := 34) dX12_plan_105 (by decide) ?_
    refine r_pick [0, 1, 2, 3, 4] (ls' := [(0, vr 145), (1, vi x1), (2, vi x4), (3, vi t0), (4, vi (x4 + 1))]) rfl ?_
    exact V
  · have V := V2 c21
    refine r_iload dX12_plan_80 rfl ?_
    refine r_iload_n dX12_plan_82 rfl rfl ?_
    obtain ⟨V1, V2⟩ := V
    refine r_jne (tgt := 102) dX12_plan_83 (by decide) (fun c23 => ?_) (fun c23 => ?_)
    · have V := V1 c23
      obtain ⟨s24, V⟩ := V
      refine r_iinc (y := x4 + 1) (ls' := [(0, vr 145), (1, vi x1), (2, vi x2), (3, vi x3), (4, vi (x4 + 1)), (5, vi x5), (6, vi t0)]) dX12_plan_102 rfl rfl s24 (by decide) rfl ?_
      refine r_goto (tgt := 34) dX12_plan_105 (by decide) ?_
      refine r_pick [0, 1, 2, 3, 4] (ls' := [(0, vr 145), (1, vi x1), (2, vi x2), (3, vi x3), (4, vi (x4 + 1))]) rfl ?_
      exact V
    · have V := V2 c23
      refine r_iload dX12_plan_86 rfl ?_
      refine r_aload_n dX12_plan_88 rfl rfl ?_
      refine r_iload_n dX12_plan_89 rfl rfl ?_
      refine r_callV (args := [vi x2]) dX12_plan_90 kX12_414 ob_145 ⟨_, _, rfl⟩ (by decide) rfl rfl (Nat.le_of_ble_eq_true rfl) cap0 (Ev.mono V ?_)
      rintro r h' ⟨x26, n25, rfl, rfl, V⟩
      show Rn w mX12_plan (d + 1) G Q 93 [(0, vr 145), (1, vi x1), (2, vi x2), (3, vi x3), (4, vi x4), (5, vi x5), (6, vi t0)] [vi x26, vi x5] (B0, n25)
      have K : ∀ z28 z29 : Int, z28 = (if x26 ≤ x5 then x2 else x4) → z29 = (if x26 ≤ x5 then x3 else t0) → Rn w mX12_plan (d + 1) G Q 102 [(0, vr 145), (1, vi x1), (2, vi z28), (3, vi z29), (4, vi x4)] [] (B0, n25) := by
        intro z28 z29 ez28 ez29
        have V := V z28 z29 ez28 ez29
        obtain ⟨s30, V⟩ := V
        refine r_iinc (y := x4 + 1) (ls' := [(0, vr 145), (1, vi x1), (2, vi z28), (3, vi z29), (4, vi (x4 + 1))]) dX12_plan_102 rfl rfl s30 (by decide) rfl ?_
        refine r_goto (tgt := 34) dX12_plan_105 (by decide) ?_
        exact V
      refine r_jge (tgt := 102) dX12_plan_93 (by decide) (fun c27 => ?_) (fun c27 => ?_)
      · refine r_pick [0, 1, 2, 3, 4] (ls' := [(0, vr 145), (1, vi x1), (2, vi x2), (3, vi x3), (4, vi x4)]) rfl ?_
        exact K x2 x3 (by first | rfl | (simp only [if_pos c27])) (by first | rfl | (simp only [if_pos c27]))
      · refine r_iload dX12_plan_96 rfl ?_
        refine r_istore_n (ls' := [(0, vr 145), (1, vi x1), (2, vi x4), (3, vi x3), (4, vi x4), (5, vi x5), (6, vi t0)]) dX12_plan_98 rfl (by decide) rfl ?_
        refine r_iload dX12_plan_99 rfl ?_
        refine r_istore_n (ls' := [(0, vr 145), (1, vi x1), (2, vi x4), (3, vi t0), (4, vi x4), (5, vi x5), (6, vi t0)]) dX12_plan_101 rfl (by decide) rfl ?_
        refine r_pick [0, 1, 2, 3, 4] (ls' := [(0, vr 145), (1, vi x1), (2, vi x4), (3, vi t0), (4, vi x4)]) rfl ?_
        exact K x4 t0 (by first | rfl | (simp only [if_neg (Int.not_le.mpr c27)])) (by first | rfl | (simp only [if_neg (Int.not_le.mpr c27)]))

theorem gX12_year_0 {w : WD} {d : Nat} {G : GM} {Q : Option AV → Hp → Prop} {n : NM} {x1 x2 x3 : Int}
    (V :
    (Ev w d 0 0 mX12_in [vl x1, vl 0, vl 29] (B0, upn n 145 0 0) (fun r h' => ∃ (x22 : Int) (n21 : NM), r = some (vi x22) ∧ h' = (B0, n21) ∧ 
      ((x22 = 0 →
        (Ev w d 0 0 mX12_tell [vr 145, vi (-1)] (B0, n21) (fun r h' => ∃ (x25 : Int) (n24 : NM), r = some (vi x25) ∧ h' = (B0, n24) ∧ 
          Q (some (vi x25)) (B0, n24)))) ∧
      (x22 ≠ 0 →
        (Ev w d 0 0 mX12_in [vl x2, vl 0, vl 1000] (B0, n21) (fun r h' => ∃ (x27 : Int) (n26 : NM), r = some (vi x27) ∧ h' = (B0, n26) ∧ 
          ((x27 = 0 →
            (Ev w d 0 0 mX12_tell [vr 145, vi (-1)] (B0, n26) (fun r h' => ∃ (x30 : Int) (n29 : NM), r = some (vi x30) ∧ h' = (B0, n29) ∧ 
              Q (some (vi x30)) (B0, n29)))) ∧
          (x27 ≠ 0 →
            (Ev w d 0 0 mX12_in [vl x3, vl 0, vl 1000] (B0, n26) (fun r h' => ∃ (x32 : Int) (n31 : NM), r = some (vi x32) ∧ h' = (B0, n31) ∧ 
              ((x32 ≠ 0 →
                (inI (2 * x1)) ∧
                (inI (810 + (2 * x1))) ∧
                (0 ≤ 810 + (2 * x1)) ∧
                (810 + (2 * x1) < 1800) ∧
                (inI (2 * x1)) ∧
                (inI (810 + (2 * x1))) ∧
                (inI ((810 + (2 * x1)) + 1)) ∧
                (0 ≤ (810 + (2 * x1)) + 1) ∧
                ((810 + (2 * x1)) + 1 < 1800) ∧
                (Ev w d 0 0 mX12_tell [vr 145, vi 0] (B0, upn (upn n31 147 (810 + (2 * x1)) x2) 147 ((810 + (2 * x1)) + 1) x3) (fun r h' => ∃ (x44 : Int) (n43 : NM), r = some (vi x44) ∧ h' = (B0, n43) ∧ 
                  Q (some (vi x44)) (B0, n43)))) ∧
              (x32 = 0 →
                (Ev w d 0 0 mX12_tell [vr 145, vi (-1)] (B0, n31) (fun r h' => ∃ (x46 : Int) (n45 : NM), r = some (vi x46) ∧ h' = (B0, n45) ∧ 
                  Q (some (vi x46)) (B0, n45)))))))))))))))) :
    Rn w mX12_year (d + 1) G Q 0 [(0, vr 145), (1, vi x1), (2, vi x2), (3, vi x3)] [] (B0, n) := by
  refine r_aload_n dX12_year_0 rfl rfl ?_
  refine r_iconst (x := 0) dX12_year_1 rfl (by decide) ?_
  refine r_putI (fi := 0) (h' := (B0, upn n 145 0 0)) dX12_year_2 pX12_76 ob_145 (by decide) rfl rfl rfl ?_
  refine r_iload_n dX12_year_5 rfl rfl ?_
  refine r_i2l dX12_year_6 ?_
  refine r_lconst (x := 0) dX12_year_7 rfl (by decide) ?_
  refine r_ldc2 (x := 29) dX12_year_8 qX12_417 (by decide) ?_
  refine r_callS (args := [vl x1, vl 0, vl 29]) dX12_year_11 kX12_82 rfl rfl (Nat.le_of_ble_eq_true rfl) cap0 (Ev.mono V ?_)
  rintro r h' ⟨x22, n21, rfl, rfl, V⟩
  show Rn w mX12_year (d + 1) G Q 14 [(0, vr 145), (1, vi x1), (2, vi x2), (3, vi x3)] [vi x22] (B0, n21)
  obtain ⟨V1, V2⟩ := V
  refine r_zeq (tgt := 41) dX12_year_14 (by decide) (fun c23 => ?_) (fun c23 => ?_)
  · have V := V1 c23
    refine r_aload_n dX12_year_41 rfl rfl ?_
    refine r_iconst (x := -1) dX12_year_42 rfl (by decide) ?_
    refine r_callV (args := [vi (-1)]) dX12_year_43 kX12_86 ob_145 ⟨_, _, rfl⟩ (by decide) rfl rfl (Nat.le_of_ble_eq_true rfl) cap0 (Ev.mono V ?_)
    rintro r h' ⟨x25, n24, rfl, rfl, V⟩
    show Rn w mX12_year (d + 1) G Q 46 [(0, vr 145), (1, vi x1), (2, vi x2), (3, vi x3)] [vi x25] (B0, n24)
    exact r_iret dX12_year_46 rfl V
  · have V := V2 c23
    refine r_iload_n dX12_year_17 rfl rfl ?_
    refine r_i2l dX12_year_18 ?_
    refine r_lconst (x := 0) dX12_year_19 rfl (by decide) ?_
    refine r_ldc2 (x := 1000) dX12_year_20 qX12_412 (by decide) ?_
    refine r_callS (args := [vl x2, vl 0, vl 1000]) dX12_year_23 kX12_82 rfl rfl (Nat.le_of_ble_eq_true rfl) cap0 (Ev.mono V ?_)
    rintro r h' ⟨x27, n26, rfl, rfl, V⟩
    show Rn w mX12_year (d + 1) G Q 26 [(0, vr 145), (1, vi x1), (2, vi x2), (3, vi x3)] [vi x27] (B0, n26)
    obtain ⟨V1, V2⟩ := V
    refine r_zeq (tgt := 41) dX12_year_26 (by decide) (fun c28 => ?_) (fun c28 => ?_)
    · have V := V1 c28
      refine r_aload_n dX12_year_41 rfl rfl ?_
      refine r_iconst (x := -1) dX12_year_42 rfl (by decide) ?_
      refine r_callV (args := [vi (-1)]) dX12_year_43 kX12_86 ob_145 ⟨_, _, rfl⟩ (by decide) rfl rfl (Nat.le_of_ble_eq_true rfl) cap0 (Ev.mono V ?_)
      rintro r h' ⟨x30, n29, rfl, rfl, V⟩
      show Rn w mX12_year (d + 1) G Q 46 [(0, vr 145), (1, vi x1), (2, vi x2), (3, vi x3)] [vi x30] (B0, n29)
      exact r_iret dX12_year_46 rfl V
    · have V := V2 c28
      refine r_iload_n dX12_year_29 rfl rfl ?_
      refine r_i2l dX12_year_30 ?_
      refine r_lconst (x := 0) dX12_year_31 rfl (by decide) ?_
      refine r_ldc2 (x := 1000) dX12_year_32 qX12_412 (by decide) ?_
      refine r_callS (args := [vl x3, vl 0, vl 1000]) dX12_year_35 kX12_82 rfl rfl (Nat.le_of_ble_eq_true rfl) cap0 (Ev.mono V ?_)
      rintro r h' ⟨x32, n31, rfl, rfl, V⟩
      show Rn w mX12_year (d + 1) G Q 38 [(0, vr 145), (1, vi x1), (2, vi x2), (3, vi x3)] [vi x32] (B0, n31)
      obtain ⟨V1, V2⟩ := V
      refine r_zne (tgt := 47) dX12_year_38 (by decide) (fun c33 => ?_) (fun c33 => ?_)
      · have V := V1 c33
        refine r_aload_n dX12_year_47 rfl rfl ?_
        refine r_getR (b := 147) dX12_year_48 fX12_13 ob_145 (by decide) rfl rfl ?_
        refine r_sipush (x := 810) dX12_year_51 (by decide +kernel) (by decide) ?_
        refine r_iconst (x := 2) dX12_year_54 rfl (by decide) ?_
        refine r_iload_n dX12_year_55 rfl rfl ?_
        obtain ⟨s34, V⟩ := V
        refine r_imul dX12_year_56 s34 ?_
        obtain ⟨s35, V⟩ := V
        refine r_iadd dX12_year_57 s35 ?_
        refine r_iload_n dX12_year_58 rfl rfl ?_
        obtain ⟨s36, V⟩ := V
        obtain ⟨s37, V⟩ := V
        refine r_iast (h' := (B0, upn n31 147 (810 + (2 * x1)) x2)) dX12_year_59 ob_147 s36 s37 rfl ?_
        refine r_aload_n dX12_year_60 rfl rfl ?_
        refine r_getR (b := 147) dX12_year_61 fX12_13 ob_145 (by decide) rfl rfl ?_
        refine r_sipush (x := 810) dX12_year_64 (by decide +kernel) (by decide) ?_
        refine r_iconst (x := 2) dX12_year_67 rfl (by decide) ?_
        refine r_iload_n dX12_year_68 rfl rfl ?_
        obtain ⟨s38, V⟩ := V
        refine r_imul dX12_year_69 s38 ?_
        obtain ⟨s39, V⟩ := V
        refine r_iadd dX12_year_70 s39 ?_
        refine r_iconst (x := 1) dX12_year_71 rfl (by decide) ?_
        obtain ⟨s40, V⟩ := V
        refine r_iadd dX12_year_72 s40 ?_
        refine r_iload_n dX12_year_73 rfl rfl ?_
        obtain ⟨s41, V⟩ := V
        obtain ⟨s42, V⟩ := V
        refine r_iast (h' := (B0, upn (upn n31 147 (810 + (2 * x1)) x2) 147 ((810 + (2 * x1)) + 1) x3)) dX12_year_74 ob_147 s41 s42 rfl ?_
        refine r_aload_n dX12_year_75 rfl rfl ?_
        refine r_iconst (x := 0) dX12_year_76 rfl (by decide) ?_
        refine r_callV (args := [vi 0]) dX12_year_77 kX12_86 ob_145 ⟨_, _, rfl⟩ (by decide) rfl rfl (Nat.le_of_ble_eq_true rfl) cap0 (Ev.mono V ?_)
        rintro r h' ⟨x44, n43, rfl, rfl, V⟩
        show Rn w mX12_year (d + 1) G Q 80 [(0, vr 145), (1, vi x1), (2, vi x2), (3, vi x3)] [vi x44] (B0, n43)
        exact r_iret dX12_year_80 rfl V
      · have V := V2 c33
        refine r_aload_n dX12_year_41 rfl rfl ?_
        refine r_iconst (x := -1) dX12_year_42 rfl (by decide) ?_
        refine r_callV (args := [vi (-1)]) dX12_year_43 kX12_86 ob_145 ⟨_, _, rfl⟩ (by decide) rfl rfl (Nat.le_of_ble_eq_true rfl) cap0 (Ev.mono V ?_)
        rintro r h' ⟨x46, n45, rfl, rfl, V⟩
        show Rn w mX12_year (d + 1) G Q 46 [(0, vr 145), (1, vi x1), (2, vi x2), (3, vi x3)] [vi x46] (B0, n45)
        exact r_iret dX12_year_46 rfl V

theorem gX12_isBase_0 {w : WD} {d : Nat} {G : GM} {Q : Option AV → Hp → Prop} {n : NM} {x1 : Int}
    (V :
    (Ev w d 0 0 mX12_in [vl x1, vl 0, vl 29] (B0, n) (fun r h' => ∃ (x22 : Int) (n21 : NM), r = some (vi x22) ∧ h' = (B0, n21) ∧ 
      ((x22 = 0 →
        Q (some (vi 0)) (B0, n21)) ∧
      (x22 ≠ 0 →
        (inI (2 * x1)) ∧
        (inI (810 + (2 * x1))) ∧
        (0 ≤ 810 + (2 * x1)) ∧
        (810 + (2 * x1) < 1800) ∧
        ((n21 147 (810 + (2 * x1)) ≤ 0 →
          Q (some (vi 0)) (B0, n21)) ∧
        (0 < n21 147 (810 + (2 * x1)) →
          Q (some (vi 1)) (B0, n21)))))))) :
    Rn w mX12_isBase (d + 1) G Q 0 [(0, vr 145), (1, vi x1)] [] (B0, n) := by
  refine r_iload_n dX12_isBase_0 rfl rfl ?_
  refine r_i2l dX12_isBase_1 ?_
  refine r_lconst (x := 0) dX12_isBase_2 rfl (by decide) ?_
  refine r_ldc2 (x := 29) dX12_isBase_3 qX12_417 (by decide) ?_
  refine r_callS (args := [vl x1, vl 0, vl 29]) dX12_isBase_6 kX12_82 rfl rfl (Nat.le_of_ble_eq_true rfl) cap0 (Ev.mono V ?_)
  rintro r h' ⟨x22, n21, rfl, rfl, V⟩
  show Rn w mX12_isBase (d + 1) G Q 9 [(0, vr 145), (1, vi x1)] [vi x22] (B0, n21)
  obtain ⟨V1, V2⟩ := V
  refine r_zeq (tgt := 31) dX12_isBase_9 (by decide) (fun c23 => ?_) (fun c23 => ?_)
  · have V := V1 c23
    refine r_iconst (x := 0) dX12_isBase_31 rfl (by decide) ?_
    exact r_zret dX12_isBase_32 rfl (by decide) V
  · have V := V2 c23
    refine r_aload_n dX12_isBase_12 rfl rfl ?_
    refine r_getR (b := 147) dX12_isBase_13 fX12_13 ob_145 (by decide) rfl rfl ?_
    refine r_sipush (x := 810) dX12_isBase_16 (by decide +kernel) (by decide) ?_
    refine r_iconst (x := 2) dX12_isBase_19 rfl (by decide) ?_
    refine r_iload_n dX12_isBase_20 rfl rfl ?_
    obtain ⟨s24, V⟩ := V
    refine r_imul dX12_isBase_21 s24 ?_
    obtain ⟨s25, V⟩ := V
    refine r_iadd dX12_isBase_22 s25 ?_
    obtain ⟨s26, V⟩ := V
    obtain ⟨s27, V⟩ := V
    refine r_iald dX12_isBase_23 ob_147 s26 s27 ?_
    obtain ⟨V1, V2⟩ := V
    refine r_zle (tgt := 31) dX12_isBase_24 (by decide) (fun c28 => ?_) (fun c28 => ?_)
    · have V := V1 c28
      refine r_iconst (x := 0) dX12_isBase_31 rfl (by decide) ?_
      exact r_zret dX12_isBase_32 rfl (by decide) V
    · have V := V2 c28
      refine r_iconst (x := 1) dX12_isBase_27 rfl (by decide) ?_
      refine r_goto (tgt := 32) dX12_isBase_28 (by decide) ?_
      exact r_zret dX12_isBase_32 rfl (by decide) V

theorem gX12_nothingNew_0 {w : WD} {d : Nat} {G : GM} {Q : Option AV → Hp → Prop} {n : NM} {x1 x2 : Int}
    (V :
    (inI (2 * x2)) ∧
    (inI (810 + (2 * x2))) ∧
    (0 ≤ 810 + (2 * x2)) ∧
    (810 + (2 * x2) < 1800) ∧
    (inI (2 * x1)) ∧
    (inI (810 + (2 * x1))) ∧
    (inI ((810 + (2 * x1)) + 1)) ∧
    (0 ≤ (810 + (2 * x1)) + 1) ∧
    ((810 + (2 * x1)) + 1 < 1800) ∧
    (inI ((n 147 (810 + (2 * x2))) * (n 147 ((810 + (2 * x1)) + 1)))) ∧
    (inI (2 * x1)) ∧
    (inI (810 + (2 * x1))) ∧
    (0 ≤ 810 + (2 * x1)) ∧
    (810 + (2 * x1) < 1800) ∧
    (0 ≤ (n 147 (810 + (2 * x2))) * (n 147 ((810 + (2 * x1)) + 1))) ∧
    (0 < n 147 (810 + (2 * x1))) ∧
    Q (some (vi (((n 147 (810 + (2 * x2))) * (n 147 ((810 + (2 * x1)) + 1))) / (n 147 (810 + (2 * x1)))))) (B0, n)) :
    Rn w mX12_nothingNew d G Q 0 [(0, vr 145), (1, vi x1), (2, vi x2)] [] (B0, n) := by
  refine r_aload_n dX12_nothingNew_0 rfl rfl ?_
  refine r_getR (b := 147) dX12_nothingNew_1 fX12_13 ob_145 (by decide) rfl rfl ?_
  refine r_sipush (x := 810) dX12_nothingNew_4 (by decide +kernel) (by decide) ?_
  refine r_iconst (x := 2) dX12_nothingNew_7 rfl (by decide) ?_
  refine r_iload_n dX12_nothingNew_8 rfl rfl ?_
  obtain ⟨s21, V⟩ := V
  refine r_imul dX12_nothingNew_9 s21 ?_
  obtain ⟨s22, V⟩ := V
  refine r_iadd dX12_nothingNew_10 s22 ?_
  obtain ⟨s23, V⟩ := V
  obtain ⟨s24, V⟩ := V
  refine r_iald dX12_nothingNew_11 ob_147 s23 s24 ?_
  refine r_aload_n dX12_nothingNew_12 rfl rfl ?_
  refine r_getR (b := 147) dX12_nothingNew_13 fX12_13 ob_145 (by decide) rfl rfl ?_
  refine r_sipush (x := 810) dX12_nothingNew_16 (by decide +kernel) (by decide) ?_
  refine r_iconst (x := 2) dX12_nothingNew_19 rfl (by decide) ?_
  refine r_iload_n dX12_nothingNew_20 rfl rfl ?_
  obtain ⟨s25, V⟩ := V
  refine r_imul dX12_nothingNew_21 s25 ?_
  obtain ⟨s26, V⟩ := V
  refine r_iadd dX12_nothingNew_22 s26 ?_
  refine r_iconst (x := 1) dX12_nothingNew_23 rfl (by decide) ?_
  obtain ⟨s27, V⟩ := V
  refine r_iadd dX12_nothingNew_24 s27 ?_
  obtain ⟨s28, V⟩ := V
  obtain ⟨s29, V⟩ := V
  refine r_iald dX12_nothingNew_25 ob_147 s28 s29 ?_
  obtain ⟨s30, V⟩ := V
  refine r_imul dX12_nothingNew_26 s30 ?_
  refine r_aload_n dX12_nothingNew_27 rfl rfl ?_
  refine r_getR (b := 147) dX12_nothingNew_28 fX12_13 ob_145 (by decide) rfl rfl ?_
  refine r_sipush (x := 810) dX12_nothingNew_31 (by decide +kernel) (by decide) ?_
  refine r_iconst (x := 2) dX12_nothingNew_34 rfl (by decide) ?_
  refine r_iload_n dX12_nothingNew_35 rfl rfl ?_
  obtain ⟨s31, V⟩ := V
  refine r_imul dX12_nothingNew_36 s31 ?_
  obtain ⟨s32, V⟩ := V
  refine r_iadd dX12_nothingNew_37 s32 ?_
  obtain ⟨s33, V⟩ := V
  obtain ⟨s34, V⟩ := V
  refine r_iald dX12_nothingNew_38 ob_147 s33 s34 ?_
  obtain ⟨s35, V⟩ := V
  obtain ⟨s36, V⟩ := V
  refine r_idiv dX12_nothingNew_39 s35 s36 ?_
  exact r_iret dX12_nothingNew_40 rfl V

theorem gX12_more_0 {w : WD} {d : Nat} {G : GM} {Q : Option AV → Hp → Prop} {n : NM} {x1 x2 x3 : Int}
    (V :
    (Ev w d 0 0 mX12_isBase [vr 145, vi x1] (B0, upn n 145 0 0) (fun r h' => ∃ (x22 : Int) (n21 : NM), r = some (vi x22) ∧ h' = (B0, n21) ∧ 
      ((x22 = 0 →
        Q (some (vi (-10000000))) (B0, n21)) ∧
      (x22 ≠ 0 →
        (Ev w d 0 0 mX12_in [vl x2, vl 0, vl 29] (B0, n21) (fun r h' => ∃ (x25 : Int) (n24 : NM), r = some (vi x25) ∧ h' = (B0, n24) ∧ 
          ((x25 = 0 →
            Q (some (vi (-10000000))) (B0, n24)) ∧
          (x25 ≠ 0 →
            (Ev w d 0 0 mX12_in [vl x3, vl 0, vl 1] (B0, n24) (fun r h' => ∃ (x28 : Int) (n27 : NM), r = some (vi x28) ∧ h' = (B0, n27) ∧ 
              ((x28 ≠ 0 →
                (Ev w d 0 0 mX12_nothingNew [vr 145, vi x1, vi x2] (B0, n27) (fun r h' => ∃ (x31 : Int) (n30 : NM), r = some (vi x31) ∧ h' = (B0, n30) ∧ 
                  ((x3 ≠ 0 →
                    (inI (2 * x2)) ∧
                    (inI (810 + (2 * x2))) ∧
                    (inI ((810 + (2 * x2)) + 1)) ∧
                    (0 ≤ (810 + (2 * x2)) + 1) ∧
                    ((810 + (2 * x2)) + 1 < 1800) ∧
                    (inI ((n30 147 ((810 + (2 * x2)) + 1)) - x31)) ∧
                    Q (some (vi ((n30 147 ((810 + (2 * x2)) + 1)) - x31))) (B0, n30)) ∧
                  (x3 = 0 →
                    Q (some (vi x31)) (B0, n30)))))) ∧
              (x28 = 0 →
                Q (some (vi (-10000000))) (B0, n27)))))))))))))) :
    Rn w mX12_more (d + 1) G Q 0 [(0, vr 145), (1, vi x1), (2, vi x2), (3, vi x3)] [] (B0, n) := by
  refine r_aload_n dX12_more_0 rfl rfl ?_
  refine r_iconst (x := 0) dX12_more_1 rfl (by decide) ?_
  refine r_putI (fi := 0) (h' := (B0, upn n 145 0 0)) dX12_more_2 pX12_76 ob_145 (by decide) rfl rfl rfl ?_
  refine r_aload_n dX12_more_5 rfl rfl ?_
  refine r_iload_n dX12_more_6 rfl rfl ?_
  refine r_callV (args := [vi x1]) dX12_more_7 kX12_419 ob_145 ⟨_, _, rfl⟩ (by decide) rfl rfl (Nat.le_of_ble_eq_true rfl) cap0 (Ev.mono V ?_)
  rintro r h' ⟨x22, n21, rfl, rfl, V⟩
  show Rn w mX12_more (d + 1) G Q 10 [(0, vr 145), (1, vi x1), (2, vi x2), (3, vi x3)] [vi x22] (B0, n21)
  obtain ⟨V1, V2⟩ := V
  refine r_zeq (tgt := 35) dX12_more_10 (by decide) (fun c23 => ?_) (fun c23 => ?_)
  · have V := V1 c23
    refine r_ldcw (x := -10000000) dX12_more_35 qX12_397 (by decide) ?_
    exact r_iret dX12_more_38 rfl V
  · have V := V2 c23
    refine r_iload_n dX12_more_13 rfl rfl ?_
    refine r_i2l dX12_more_14 ?_
    refine r_lconst (x := 0) dX12_more_15 rfl (by decide) ?_
    refine r_ldc2 (x := 29) dX12_more_16 qX12_417 (by decide) ?_
    refine r_callS (args := [vl x2, vl 0, vl 29]) dX12_more_19 kX12_82 rfl rfl (Nat.le_of_ble_eq_true rfl) cap0 (Ev.mono V ?_)
    rintro r h' ⟨x25, n24, rfl, rfl, V⟩
    show Rn w mX12_more (d + 1) G Q 22 [(0, vr 145), (1, vi x1), (2, vi x2), (3, vi x3)] [vi x25] (B0, n24)
    obtain ⟨V1, V2⟩ := V
    refine r_zeq (tgt := 35) dX12_more_22 (by decide) (fun c26 => ?_) (fun c26 => ?_)
    · have V := V1 c26
      refine r_ldcw (x := -10000000) dX12_more_35 qX12_397 (by decide) ?_
      exact r_iret dX12_more_38 rfl V
    · have V := V2 c26
      refine r_iload_n dX12_more_25 rfl rfl ?_
      refine r_i2l dX12_more_26 ?_
      refine r_lconst (x := 0) dX12_more_27 rfl (by decide) ?_
      refine r_lconst (x := 1) dX12_more_28 rfl (by decide) ?_
      refine r_callS (args := [vl x3, vl 0, vl 1]) dX12_more_29 kX12_82 rfl rfl (Nat.le_of_ble_eq_true rfl) cap0 (Ev.mono V ?_)
      rintro r h' ⟨x28, n27, rfl, rfl, V⟩
      show Rn w mX12_more (d + 1) G Q 32 [(0, vr 145), (1, vi x1), (2, vi x2), (3, vi x3)] [vi x28] (B0, n27)
      obtain ⟨V1, V2⟩ := V
      refine r_zne (tgt := 39) dX12_more_32 (by decide) (fun c29 => ?_) (fun c29 => ?_)
      · have V := V1 c29
        refine r_aload_n dX12_more_39 rfl rfl ?_
        refine r_iload_n dX12_more_40 rfl rfl ?_
        refine r_iload_n dX12_more_41 rfl rfl ?_
        refine r_callV (args := [vi x1, vi x2]) dX12_more_42 kX12_422 ob_145 ⟨_, _, rfl⟩ (by decide) rfl rfl (Nat.le_of_ble_eq_true rfl) cap0 (Ev.mono V ?_)
        rintro r h' ⟨x31, n30, rfl, rfl, V⟩
        show Rn w mX12_more (d + 1) G Q 45 [(0, vr 145), (1, vi x1), (2, vi x2), (3, vi x3)] [vi x31] (B0, n30)
        refine r_istore (ls' := [(0, vr 145), (1, vi x1), (2, vi x2), (3, vi x3), (4, vi x31)]) dX12_more_45 (by decide) rfl ?_
        refine r_iload_n dX12_more_47 rfl rfl ?_
        obtain ⟨V1, V2⟩ := V
        refine r_zne (tgt := 56) dX12_more_48 (by decide) (fun c32 => ?_) (fun c32 => ?_)
        · have V := V1 c32
          refine r_aload_n dX12_more_56 rfl rfl ?_
          refine r_getR (b := 147) dX12_more_57 fX12_13 ob_145 (by decide) rfl rfl ?_
          refine r_sipush (x := 810) dX12_more_60 (by decide +kernel) (by decide) ?_
          refine r_iconst (x := 2) dX12_more_63 rfl (by decide) ?_
          refine r_iload_n dX12_more_64 rfl rfl ?_
          obtain ⟨s33, V⟩ := V
          refine r_imul dX12_more_65 s33 ?_
          obtain ⟨s34, V⟩ := V
          refine r_iadd dX12_more_66 s34 ?_
          refine r_iconst (x := 1) dX12_more_67 rfl (by decide) ?_
          obtain ⟨s35, V⟩ := V
          refine r_iadd dX12_more_68 s35 ?_
          obtain ⟨s36, V⟩ := V
          obtain ⟨s37, V⟩ := V
          refine r_iald dX12_more_69 ob_147 s36 s37 ?_
          refine r_iload dX12_more_70 rfl ?_
          obtain ⟨s38, V⟩ := V
          refine r_isub dX12_more_72 s38 ?_
          exact r_iret dX12_more_73 rfl V
        · have V := V2 c32
          refine r_iload dX12_more_51 rfl ?_
          refine r_goto (tgt := 73) dX12_more_53 (by decide) ?_
          exact r_iret dX12_more_73 rfl V
      · have V := V2 c29
        refine r_ldcw (x := -10000000) dX12_more_35 qX12_397 (by decide) ?_
        exact r_iret dX12_more_38 rfl V

theorem gX12_grew_0 {w : WD} {d : Nat} {G : GM} {Q : Option AV → Hp → Prop} {n : NM} {x1 : Int}
    (V :
    (Ev w d 0 0 mX12_isBase [vr 145, vi x1] (B0, upn n 145 0 0) (fun r h' => ∃ (x22 : Int) (n21 : NM), r = some (vi x22) ∧ h' = (B0, n21) ∧ 
      ((x22 ≠ 0 →
        Rn w mX12_grew (d + 1) G Q 19 [(0, vr 145), (1, vi x1), (2, vi 0), (3, vi 1)] [] (B0, n21)) ∧
      (x22 = 0 →
        Q (some (vi (-1))) (B0, n21)))))) :
    Rn w mX12_grew (d + 1) G Q 0 [(0, vr 145), (1, vi x1)] [] (B0, n) := by
  refine r_aload_n dX12_grew_0 rfl rfl ?_
  refine r_iconst (x := 0) dX12_grew_1 rfl (by decide) ?_
  refine r_putI (fi := 0) (h' := (B0, upn n 145 0 0)) dX12_grew_2 pX12_76 ob_145 (by decide) rfl rfl rfl ?_
  refine r_aload_n dX12_grew_5 rfl rfl ?_
  refine r_iload_n dX12_grew_6 rfl rfl ?_
  refine r_callV (args := [vi x1]) dX12_grew_7 kX12_419 ob_145 ⟨_, _, rfl⟩ (by decide) rfl rfl (Nat.le_of_ble_eq_true rfl) cap0 (Ev.mono V ?_)
  rintro r h' ⟨x22, n21, rfl, rfl, V⟩
  show Rn w mX12_grew (d + 1) G Q 10 [(0, vr 145), (1, vi x1)] [vi x22] (B0, n21)
  obtain ⟨V1, V2⟩ := V
  refine r_zne (tgt := 15) dX12_grew_10 (by decide) (fun c23 => ?_) (fun c23 => ?_)
  · have V := V1 c23
    refine r_iconst (x := 0) dX12_grew_15 rfl (by decide) ?_
    refine r_istore_n (ls' := [(0, vr 145), (1, vi x1), (2, vi 0)]) dX12_grew_16 rfl (by decide) rfl ?_
    refine r_iconst (x := 1) dX12_grew_17 rfl (by decide) ?_
    refine r_istore_n (ls' := [(0, vr 145), (1, vi x1), (2, vi 0), (3, vi 1)]) dX12_grew_18 rfl (by decide) rfl ?_
    exact V
  · have V := V2 c23
    refine r_iconst (x := -1) dX12_grew_13 rfl (by decide) ?_
    exact r_iret dX12_grew_14 rfl V

theorem gX12_grew_19 {w : WD} {d : Nat} {G : GM} {Q : Option AV → Hp → Prop} {n : NM} {x1 x2 x3 : Int}
    (V :
    ((30 ≤ x3 →
      Q (some (vi x2)) (B0, n)) ∧
    (x3 < 30 →
      (inI (2 * x3)) ∧
      (inI (810 + (2 * x3))) ∧
      (inI ((810 + (2 * x3)) + 1)) ∧
      (0 ≤ (810 + (2 * x3)) + 1) ∧
      ((810 + (2 * x3)) + 1 < 1800) ∧
      (Ev w d 0 0 mX12_nothingNew [vr 145, vi x1, vi x3] (B0, n) (fun r h' => ∃ (x28 : Int) (n27 : NM), r = some (vi x28) ∧ h' = (B0, n27) ∧ 
        (inI ((n 147 ((810 + (2 * x3)) + 1)) - x28)) ∧
        (inI (2 * x2)) ∧
        (inI (810 + (2 * x2))) ∧
        (inI ((810 + (2 * x2)) + 1)) ∧
        (0 ≤ (810 + (2 * x2)) + 1) ∧
        ((810 + (2 * x2)) + 1 < 1800) ∧
        (Ev w d 0 0 mX12_nothingNew [vr 145, vi x1, vi x2] (B0, n27) (fun r h' => ∃ (x36 : Int) (n35 : NM), r = some (vi x36) ∧ h' = (B0, n35) ∧ 
          (inI ((n27 147 ((810 + (2 * x2)) + 1)) - x36)) ∧
          (∀ z39 : Int, z39 = (if (n 147 ((810 + (2 * x3)) + 1)) - x28 ≤ (n27 147 ((810 + (2 * x2)) + 1)) - x36 then x2 else x3) → 
          (inI (x3 + 1)) ∧
          Rn w mX12_grew (d + 1) G Q 19 [(0, vr 145), (1, vi x1), (2, vi z39), (3, vi (x3 + 1))] [] (B0, n35))))))))) :
    Rn w mX12_grew (d + 1) G Q 19 [(0, vr 145), (1, vi x1), (2, vi x2), (3, vi x3)] [] (B0, n) := by
  refine r_iload_n dX12_grew_19 rfl rfl ?_
  refine r_bipush (x := 30) dX12_grew_20 (by decide +kernel) (by decide) ?_
  obtain ⟨V1, V2⟩ := V
  refine r_jge (tgt := 90) dX12_grew_22 (by decide) (fun c21 => ?_) (fun c21 => ?_)
  · have V := V1 c21
    refine r_iload_n dX12_grew_90 rfl rfl ?_
    exact r_iret dX12_grew_91 rfl V
  · have V := V2 c21
    refine r_aload_n dX12_grew_25 rfl rfl ?_
    refine r_getR (b := 147) dX12_grew_26 fX12_13 ob_145 (by decide) rfl rfl ?_
    refine r_sipush (x := 810) dX12_grew_29 (by decide +kernel) (by decide) ?_
    refine r_iconst (x := 2) dX12_grew_32 rfl (by decide) ?_
    refine r_iload_n dX12_grew_33 rfl rfl ?_
    obtain ⟨s22, V⟩ := V
    refine r_imul dX12_grew_34 s22 ?_
    obtain ⟨s23, V⟩ := V
    refine r_iadd dX12_grew_35 s23 ?_
    refine r_iconst (x := 1) dX12_grew_36 rfl (by decide) ?_
    obtain ⟨s24, V⟩ := V
    refine r_iadd dX12_grew_37 s24 ?_
    obtain ⟨s25, V⟩ := V
    obtain ⟨s26, V⟩ := V
    refine r_iald dX12_grew_38 ob_147 s25 s26 ?_
    refine r_aload_n dX12_grew_39 rfl rfl ?_
    refine r_iload_n dX12_grew_40 rfl rfl ?_
    refine r_iload_n dX12_grew_41 rfl rfl ?_
    refine r_callV (args := [vi x1, vi x3]) dX12_grew_42 kX12_422 ob_145 ⟨_, _, rfl⟩ (by decide) rfl rfl (Nat.le_of_ble_eq_true rfl) cap0 (Ev.mono V ?_)
    rintro r h' ⟨x28, n27, rfl, rfl, V⟩
    show Rn w mX12_grew (d + 1) G Q 45 [(0, vr 145), (1, vi x1), (2, vi x2), (3, vi x3)] [vi x28, vi (n 147 ((810 + (2 * x3)) + 1))] (B0, n27)
    obtain ⟨s29, V⟩ := V
    refine r_isub dX12_grew_45 s29 ?_
    refine r_istore (ls' := [(0, vr 145), (1, vi x1), (2, vi x2), (3, vi x3), (4, vi ((n 147 ((810 + (2 * x3)) + 1)) - x28))]) dX12_grew_46 (by decide) rfl ?_
    refine r_aload_n dX12_grew_48 rfl rfl ?_
    refine r_getR (b := 147) dX12_grew_49 fX12_13 ob_145 (by decide) rfl rfl ?_
    refine r_sipush (x := 810) dX12_grew_52 (by decide +kernel) (by decide) ?_
    refine r_iconst (x := 2) dX12_grew_55 rfl (by decide) ?_
    refine r_iload_n dX12_grew_56 rfl rfl ?_
    obtain ⟨s30, V⟩ := V
    refine r_imul dX12_grew_57 s30 ?_
    obtain ⟨s31, V⟩ := V
    refine r_iadd dX12_grew_58 s31 ?_
    refine r_iconst (x := 1) dX12_grew_59 rfl (by decide) ?_
    obtain ⟨s32, V⟩ := V
    refine r_iadd dX12_grew_60 s32 ?_
    obtain ⟨s33, V⟩ := V
    obtain ⟨s34, V⟩ := V
    refine r_iald dX12_grew_61 ob_147 s33 s34 ?_
    refine r_aload_n dX12_grew_62 rfl rfl ?_
    refine r_iload_n dX12_grew_63 rfl rfl ?_
    refine r_iload_n dX12_grew_64 rfl rfl ?_
    refine r_callV (args := [vi x1, vi x2]) dX12_grew_65 kX12_422 ob_145 ⟨_, _, rfl⟩ (by decide) rfl rfl (Nat.le_of_ble_eq_true rfl) cap0 (Ev.mono V ?_)
    rintro r h' ⟨x36, n35, rfl, rfl, V⟩
    show Rn w mX12_grew (d + 1) G Q 68 [(0, vr 145), (1, vi x1), (2, vi x2), (3, vi x3), (4, vi ((n 147 ((810 + (2 * x3)) + 1)) - x28))] [vi x36, vi (n27 147 ((810 + (2 * x2)) + 1))] (B0, n35)
    obtain ⟨s37, V⟩ := V
    refine r_isub dX12_grew_68 s37 ?_
    refine r_istore (ls' := [(0, vr 145), (1, vi x1), (2, vi x2), (3, vi x3), (4, vi ((n 147 ((810 + (2 * x3)) + 1)) - x28)), (5, vi ((n27 147 ((810 + (2 * x2)) + 1)) - x36))]) dX12_grew_69 (by decide) rfl ?_
    refine r_iload dX12_grew_71 rfl ?_
    refine r_iload dX12_grew_73 rfl ?_
    have K : ∀ z39 : Int, z39 = (if (n 147 ((810 + (2 * x3)) + 1)) - x28 ≤ (n27 147 ((810 + (2 * x2)) + 1)) - x36 then x2 else x3) → Rn w mX12_grew (d + 1) G Q 83 [(0, vr 145), (1, vi x1), (3, vi x3)] [vi z39] (B0, n35) := by
      intro z39 ez39
      have V := V z39 ez39
      refine r_istore_n (ls' := [(0, vr 145), (1, vi x1), (2, vi z39), (3, vi x3)]) dX12_grew_83 rfl (by decide) rfl ?_
      obtain ⟨s40, V⟩ := V
      refine r_iinc (y := x3 + 1) (ls' := [(0, vr 145), (1, vi x1), (2, vi z39), (3, vi (x3 + 1))]) dX12_grew_84 rfl rfl s40 (by decide) rfl ?_
      refine r_goto (tgt := 19) dX12_grew_87 (by decide) ?_
      exact V
    refine r_jle (tgt := 82) dX12_grew_75 (by decide) (fun c38 => ?_) (fun c38 => ?_)
    · refine r_iload_n dX12_grew_82 rfl rfl ?_
      refine r_pick [0, 1, 3] (ls' := [(0, vr 145), (1, vi x1), (3, vi x3)]) rfl ?_
      exact K x2 (by first | rfl | (simp only [if_pos c38]))
    · refine r_iload_n dX12_grew_78 rfl rfl ?_
      refine r_goto (tgt := 83) dX12_grew_79 (by decide) ?_
      refine r_pick [0, 1, 3] (ls' := [(0, vr 145), (1, vi x1), (3, vi x3)]) rfl ?_
      exact K x3 (by first | rfl | (simp only [if_neg (Int.not_le.mpr c38)]))

theorem gX12_ripple_0 {w : WD} {d : Nat} {G : GM} {Q : Option AV → Hp → Prop} {n : NM} {x1 x2 x3 : Int}
    (V :
    (Ev w d 0 0 mX12_in [vl x1, vl 0, vl 9] (B0, upn n 145 0 0) (fun r h' => ∃ (x22 : Int) (n21 : NM), r = some (vi x22) ∧ h' = (B0, n21) ∧ 
      ((x22 = 0 →
        (Ev w d 0 0 mX12_tell [vr 145, vi (-1)] (B0, n21) (fun r h' => ∃ (x25 : Int) (n24 : NM), r = some (vi x25) ∧ h' = (B0, n24) ∧ 
          Q (some (vi x25)) (B0, n24)))) ∧
      (x22 ≠ 0 →
        (Ev w d 0 0 mX12_in [vl x2, vl 1, vl 99] (B0, n21) (fun r h' => ∃ (x27 : Int) (n26 : NM), r = some (vi x27) ∧ h' = (B0, n26) ∧ 
          ((x27 = 0 →
            (Ev w d 0 0 mX12_tell [vr 145, vi (-1)] (B0, n26) (fun r h' => ∃ (x30 : Int) (n29 : NM), r = some (vi x30) ∧ h' = (B0, n29) ∧ 
              Q (some (vi x30)) (B0, n29)))) ∧
          (x27 ≠ 0 →
            (Ev w d 0 0 mX12_in [vl x3, vl x2, vl 99] (B0, n26) (fun r h' => ∃ (x32 : Int) (n31 : NM), r = some (vi x32) ∧ h' = (B0, n31) ∧ 
              ((x32 ≠ 0 →
                (inI (2 * x1)) ∧
                (inI (870 + (2 * x1))) ∧
                (0 ≤ 870 + (2 * x1)) ∧
                (870 + (2 * x1) < 1800) ∧
                (inI (2 * x1)) ∧
                (inI (870 + (2 * x1))) ∧
                (inI ((870 + (2 * x1)) + 1)) ∧
                (0 ≤ (870 + (2 * x1)) + 1) ∧
                ((870 + (2 * x1)) + 1 < 1800) ∧
                (Ev w d 0 0 mX12_tell [vr 145, vi 0] (B0, upn (upn n31 147 (870 + (2 * x1)) x2) 147 ((870 + (2 * x1)) + 1) x3) (fun r h' => ∃ (x44 : Int) (n43 : NM), r = some (vi x44) ∧ h' = (B0, n43) ∧ 
                  Q (some (vi x44)) (B0, n43)))) ∧
              (x32 = 0 →
                (Ev w d 0 0 mX12_tell [vr 145, vi (-1)] (B0, n31) (fun r h' => ∃ (x46 : Int) (n45 : NM), r = some (vi x46) ∧ h' = (B0, n45) ∧ 
                  Q (some (vi x46)) (B0, n45)))))))))))))))) :
    Rn w mX12_ripple (d + 1) G Q 0 [(0, vr 145), (1, vi x1), (2, vi x2), (3, vi x3)] [] (B0, n) := by
  refine r_aload_n dX12_ripple_0 rfl rfl ?_
  refine r_iconst (x := 0) dX12_ripple_1 rfl (by decide) ?_
  refine r_putI (fi := 0) (h' := (B0, upn n 145 0 0)) dX12_ripple_2 pX12_76 ob_145 (by decide) rfl rfl rfl ?_
  refine r_iload_n dX12_ripple_5 rfl rfl ?_
  refine r_i2l dX12_ripple_6 ?_
  refine r_lconst (x := 0) dX12_ripple_7 rfl (by decide) ?_
  refine r_ldc2 (x := 9) dX12_ripple_8 qX12_102 (by decide) ?_
  refine r_callS (args := [vl x1, vl 0, vl 9]) dX12_ripple_11 kX12_82 rfl rfl (Nat.le_of_ble_eq_true rfl) cap0 (Ev.mono V ?_)
  rintro r h' ⟨x22, n21, rfl, rfl, V⟩
  show Rn w mX12_ripple (d + 1) G Q 14 [(0, vr 145), (1, vi x1), (2, vi x2), (3, vi x3)] [vi x22] (B0, n21)
  obtain ⟨V1, V2⟩ := V
  refine r_zeq (tgt := 42) dX12_ripple_14 (by decide) (fun c23 => ?_) (fun c23 => ?_)
  · have V := V1 c23
    refine r_aload_n dX12_ripple_42 rfl rfl ?_
    refine r_iconst (x := -1) dX12_ripple_43 rfl (by decide) ?_
    refine r_callV (args := [vi (-1)]) dX12_ripple_44 kX12_86 ob_145 ⟨_, _, rfl⟩ (by decide) rfl rfl (Nat.le_of_ble_eq_true rfl) cap0 (Ev.mono V ?_)
    rintro r h' ⟨x25, n24, rfl, rfl, V⟩
    show Rn w mX12_ripple (d + 1) G Q 47 [(0, vr 145), (1, vi x1), (2, vi x2), (3, vi x3)] [vi x25] (B0, n24)
    exact r_iret dX12_ripple_47 rfl V
  · have V := V2 c23
    refine r_iload_n dX12_ripple_17 rfl rfl ?_
    refine r_i2l dX12_ripple_18 ?_
    refine r_lconst (x := 1) dX12_ripple_19 rfl (by decide) ?_
    refine r_ldc2 (x := 99) dX12_ripple_20 qX12_118 (by decide) ?_
    refine r_callS (args := [vl x2, vl 1, vl 99]) dX12_ripple_23 kX12_82 rfl rfl (Nat.le_of_ble_eq_true rfl) cap0 (Ev.mono V ?_)
    rintro r h' ⟨x27, n26, rfl, rfl, V⟩
    show Rn w mX12_ripple (d + 1) G Q 26 [(0, vr 145), (1, vi x1), (2, vi x2), (3, vi x3)] [vi x27] (B0, n26)
    obtain ⟨V1, V2⟩ := V
    refine r_zeq (tgt := 42) dX12_ripple_26 (by decide) (fun c28 => ?_) (fun c28 => ?_)
    · have V := V1 c28
      refine r_aload_n dX12_ripple_42 rfl rfl ?_
      refine r_iconst (x := -1) dX12_ripple_43 rfl (by decide) ?_
      refine r_callV (args := [vi (-1)]) dX12_ripple_44 kX12_86 ob_145 ⟨_, _, rfl⟩ (by decide) rfl rfl (Nat.le_of_ble_eq_true rfl) cap0 (Ev.mono V ?_)
      rintro r h' ⟨x30, n29, rfl, rfl, V⟩
      show Rn w mX12_ripple (d + 1) G Q 47 [(0, vr 145), (1, vi x1), (2, vi x2), (3, vi x3)] [vi x30] (B0, n29)
      exact r_iret dX12_ripple_47 rfl V
    · have V := V2 c28
      refine r_iload_n dX12_ripple_29 rfl rfl ?_
      refine r_i2l dX12_ripple_30 ?_
      refine r_iload_n dX12_ripple_31 rfl rfl ?_
      refine r_i2l dX12_ripple_32 ?_
      refine r_ldc2 (x := 99) dX12_ripple_33 qX12_118 (by decide) ?_
      refine r_callS (args := [vl x3, vl x2, vl 99]) dX12_ripple_36 kX12_82 rfl rfl (Nat.le_of_ble_eq_true rfl) cap0 (Ev.mono V ?_)
      rintro r h' ⟨x32, n31, rfl, rfl, V⟩
      show Rn w mX12_ripple (d + 1) G Q 39 [(0, vr 145), (1, vi x1), (2, vi x2), (3, vi x3)] [vi x32] (B0, n31)
      obtain ⟨V1, V2⟩ := V
      refine r_zne (tgt := 48) dX12_ripple_39 (by decide) (fun c33 => ?_) (fun c33 => ?_)
      · have V := V1 c33
        refine r_aload_n dX12_ripple_48 rfl rfl ?_
        refine r_getR (b := 147) dX12_ripple_49 fX12_13 ob_145 (by decide) rfl rfl ?_
        refine r_sipush (x := 870) dX12_ripple_52 (by decide +kernel) (by decide) ?_
        refine r_iconst (x := 2) dX12_ripple_55 rfl (by decide) ?_
        refine r_iload_n dX12_ripple_56 rfl rfl ?_
        obtain ⟨s34, V⟩ := V
        refine r_imul dX12_ripple_57 s34 ?_
        obtain ⟨s35, V⟩ := V
        refine r_iadd dX12_ripple_58 s35 ?_
        refine r_iload_n dX12_ripple_59 rfl rfl ?_
        obtain ⟨s36, V⟩ := V
        obtain ⟨s37, V⟩ := V
        refine r_iast (h' := (B0, upn n31 147 (870 + (2 * x1)) x2)) dX12_ripple_60 ob_147 s36 s37 rfl ?_
        refine r_aload_n dX12_ripple_61 rfl rfl ?_
        refine r_getR (b := 147) dX12_ripple_62 fX12_13 ob_145 (by decide) rfl rfl ?_
        refine r_sipush (x := 870) dX12_ripple_65 (by decide +kernel) (by decide) ?_
        refine r_iconst (x := 2) dX12_ripple_68 rfl (by decide) ?_
        refine r_iload_n dX12_ripple_69 rfl rfl ?_
        obtain ⟨s38, V⟩ := V
        refine r_imul dX12_ripple_70 s38 ?_
        obtain ⟨s39, V⟩ := V
        refine r_iadd dX12_ripple_71 s39 ?_
        refine r_iconst (x := 1) dX12_ripple_72 rfl (by decide) ?_
        obtain ⟨s40, V⟩ := V
        refine r_iadd dX12_ripple_73 s40 ?_
        refine r_iload_n dX12_ripple_74 rfl rfl ?_
        obtain ⟨s41, V⟩ := V
        obtain ⟨s42, V⟩ := V
        refine r_iast (h' := (B0, upn (upn n31 147 (870 + (2 * x1)) x2) 147 ((870 + (2 * x1)) + 1) x3)) dX12_ripple_75 ob_147 s41 s42 rfl ?_
        refine r_aload_n dX12_ripple_76 rfl rfl ?_
        refine r_iconst (x := 0) dX12_ripple_77 rfl (by decide) ?_
        refine r_callV (args := [vi 0]) dX12_ripple_78 kX12_86 ob_145 ⟨_, _, rfl⟩ (by decide) rfl rfl (Nat.le_of_ble_eq_true rfl) cap0 (Ev.mono V ?_)
        rintro r h' ⟨x44, n43, rfl, rfl, V⟩
        show Rn w mX12_ripple (d + 1) G Q 81 [(0, vr 145), (1, vi x1), (2, vi x2), (3, vi x3)] [vi x44] (B0, n43)
        exact r_iret dX12_ripple_81 rfl V
      · have V := V2 c33
        refine r_aload_n dX12_ripple_42 rfl rfl ?_
        refine r_iconst (x := -1) dX12_ripple_43 rfl (by decide) ?_
        refine r_callV (args := [vi (-1)]) dX12_ripple_44 kX12_86 ob_145 ⟨_, _, rfl⟩ (by decide) rfl rfl (Nat.le_of_ble_eq_true rfl) cap0 (Ev.mono V ?_)
        rintro r h' ⟨x46, n45, rfl, rfl, V⟩
        show Rn w mX12_ripple (d + 1) G Q 47 [(0, vr 145), (1, vi x1), (2, vi x2), (3, vi x3)] [vi x46] (B0, n45)
        exact r_iret dX12_ripple_47 rfl V

theorem gX12_picture_0 {w : WD} {d : Nat} {G : GM} {Q : Option AV → Hp → Prop} {n : NM} {x1 x2 x3 : Int}
    (V :
    (Ev w d 0 0 mX12_isDay [vi x1] (B0, upn n 145 0 0) (fun r h' => ∃ (x22 : Int) (n21 : NM), r = some (vi x22) ∧ h' = (B0, n21) ∧ 
      ((x22 = 0 →
        Q (some (vi (-1))) (B0, n21)) ∧
      (x22 ≠ 0 →
        (Ev w d 0 0 mX12_in [vl x2, vl 0, vl 50] (B0, n21) (fun r h' => ∃ (x25 : Int) (n24 : NM), r = some (vi x25) ∧ h' = (B0, n24) ∧ 
          ((x25 = 0 →
            Q (some (vi (-1))) (B0, n24)) ∧
          (x25 ≠ 0 →
            (Ev w d 0 0 mX12_in [vl x3, vl 0, vl 1] (B0, n24) (fun r h' => ∃ (x28 : Int) (n27 : NM), r = some (vi x28) ∧ h' = (B0, n27) ∧ 
              ((x28 ≠ 0 →
                (inI (3 * x1)) ∧
                (inI (20 + (3 * x1))) ∧
                (0 ≤ 20 + (3 * x1)) ∧
                (20 + (3 * x1) < 1800) ∧
                (inI (2 * (n27 147 (20 + (3 * x1))))) ∧
                (inI (870 + (2 * (n27 147 (20 + (3 * x1)))))) ∧
                ((x3 ≠ 0 →
                  (inI (x2 + 1)) ∧
                  (inI ((870 + (2 * (n27 147 (20 + (3 * x1))))) + 1)) ∧
                  (0 ≤ (870 + (2 * (n27 147 (20 + (3 * x1))))) + 1) ∧
                  ((870 + (2 * (n27 147 (20 + (3 * x1))))) + 1 < 1800) ∧
                  (inI ((x2 + 1) * (n27 147 ((870 + (2 * (n27 147 (20 + (3 * x1))))) + 1)))) ∧
                  Q (some (vi ((x2 + 1) * (n27 147 ((870 + (2 * (n27 147 (20 + (3 * x1))))) + 1))))) (B0, n27)) ∧
                (x3 = 0 →
                  (0 ≤ 870 + (2 * (n27 147 (20 + (3 * x1))))) ∧
                  (870 + (2 * (n27 147 (20 + (3 * x1)))) < 1800) ∧
                  (inI (x2 * (n27 147 (870 + (2 * (n27 147 (20 + (3 * x1)))))))) ∧
                  Q (some (vi (x2 * (n27 147 (870 + (2 * (n27 147 (20 + (3 * x1))))))))) (B0, n27)))) ∧
              (x28 = 0 →
                Q (some (vi (-1))) (B0, n27)))))))))))))) :
    Rn w mX12_picture (d + 1) G Q 0 [(0, vr 145), (1, vi x1), (2, vi x2), (3, vi x3)] [] (B0, n) := by
  refine r_aload_n dX12_picture_0 rfl rfl ?_
  refine r_iconst (x := 0) dX12_picture_1 rfl (by decide) ?_
  refine r_putI (fi := 0) (h' := (B0, upn n 145 0 0)) dX12_picture_2 pX12_76 ob_145 (by decide) rfl rfl rfl ?_
  refine r_iload_n dX12_picture_5 rfl rfl ?_
  refine r_callS (args := [vi x1]) dX12_picture_6 kX12_96 rfl rfl (Nat.le_of_ble_eq_true rfl) cap0 (Ev.mono V ?_)
  rintro r h' ⟨x22, n21, rfl, rfl, V⟩
  show Rn w mX12_picture (d + 1) G Q 9 [(0, vr 145), (1, vi x1), (2, vi x2), (3, vi x3)] [vi x22] (B0, n21)
  obtain ⟨V1, V2⟩ := V
  refine r_zeq (tgt := 34) dX12_picture_9 (by decide) (fun c23 => ?_) (fun c23 => ?_)
  · have V := V1 c23
    refine r_iconst (x := -1) dX12_picture_34 rfl (by decide) ?_
    exact r_iret dX12_picture_35 rfl V
  · have V := V2 c23
    refine r_iload_n dX12_picture_12 rfl rfl ?_
    refine r_i2l dX12_picture_13 ?_
    refine r_lconst (x := 0) dX12_picture_14 rfl (by decide) ?_
    refine r_ldc2 (x := 50) dX12_picture_15 qX12_398 (by decide) ?_
    refine r_callS (args := [vl x2, vl 0, vl 50]) dX12_picture_18 kX12_82 rfl rfl (Nat.le_of_ble_eq_true rfl) cap0 (Ev.mono V ?_)
    rintro r h' ⟨x25, n24, rfl, rfl, V⟩
    show Rn w mX12_picture (d + 1) G Q 21 [(0, vr 145), (1, vi x1), (2, vi x2), (3, vi x3)] [vi x25] (B0, n24)
    obtain ⟨V1, V2⟩ := V
    refine r_zeq (tgt := 34) dX12_picture_21 (by decide) (fun c26 => ?_) (fun c26 => ?_)
    · have V := V1 c26
      refine r_iconst (x := -1) dX12_picture_34 rfl (by decide) ?_
      exact r_iret dX12_picture_35 rfl V
    · have V := V2 c26
      refine r_iload_n dX12_picture_24 rfl rfl ?_
      refine r_i2l dX12_picture_25 ?_
      refine r_lconst (x := 0) dX12_picture_26 rfl (by decide) ?_
      refine r_lconst (x := 1) dX12_picture_27 rfl (by decide) ?_
      refine r_callS (args := [vl x3, vl 0, vl 1]) dX12_picture_28 kX12_82 rfl rfl (Nat.le_of_ble_eq_true rfl) cap0 (Ev.mono V ?_)
      rintro r h' ⟨x28, n27, rfl, rfl, V⟩
      show Rn w mX12_picture (d + 1) G Q 31 [(0, vr 145), (1, vi x1), (2, vi x2), (3, vi x3)] [vi x28] (B0, n27)
      obtain ⟨V1, V2⟩ := V
      refine r_zne (tgt := 36) dX12_picture_31 (by decide) (fun c29 => ?_) (fun c29 => ?_)
      · have V := V1 c29
        refine r_sipush (x := 870) dX12_picture_36 (by decide +kernel) (by decide) ?_
        refine r_iconst (x := 2) dX12_picture_39 rfl (by decide) ?_
        refine r_aload_n dX12_picture_40 rfl rfl ?_
        refine r_getR (b := 147) dX12_picture_41 fX12_13 ob_145 (by decide) rfl rfl ?_
        refine r_bipush (x := 20) dX12_picture_44 (by decide +kernel) (by decide) ?_
        refine r_iconst (x := 3) dX12_picture_46 rfl (by decide) ?_
        refine r_iload_n dX12_picture_47 rfl rfl ?_
        obtain ⟨s30, V⟩ := V
        refine r_imul dX12_picture_48 s30 ?_
        obtain ⟨s31, V⟩ := V
        refine r_iadd dX12_picture_49 s31 ?_
        obtain ⟨s32, V⟩ := V
        obtain ⟨s33, V⟩ := V
        refine r_iald dX12_picture_50 ob_147 s32 s33 ?_
        obtain ⟨s34, V⟩ := V
        refine r_imul dX12_picture_51 s34 ?_
        obtain ⟨s35, V⟩ := V
        refine r_iadd dX12_picture_52 s35 ?_
        refine r_istore (ls' := [(0, vr 145), (1, vi x1), (2, vi x2), (3, vi x3), (4, vi (870 + (2 * (n27 147 (20 + (3 * x1))))))]) dX12_picture_53 (by decide) rfl ?_
        refine r_iload_n dX12_picture_55 rfl rfl ?_
        obtain ⟨V1, V2⟩ := V
        refine r_zne (tgt := 71) dX12_picture_56 (by decide) (fun c36 => ?_) (fun c36 => ?_)
        · have V := V1 c36
          refine r_iload_n dX12_picture_71 rfl rfl ?_
          refine r_iconst (x := 1) dX12_picture_72 rfl (by decide) ?_
          obtain ⟨s37, V⟩ := V
          refine r_iadd dX12_picture_73 s37 ?_
          refine r_aload_n dX12_picture_74 rfl rfl ?_
          refine r_getR (b := 147) dX12_picture_75 fX12_13 ob_145 (by decide) rfl rfl ?_
          refine r_iload dX12_picture_78 rfl ?_
          refine r_iconst (x := 1) dX12_picture_80 rfl (by decide) ?_
          obtain ⟨s38, V⟩ := V
          refine r_iadd dX12_picture_81 s38 ?_
          obtain ⟨s39, V⟩ := V
          obtain ⟨s40, V⟩ := V
          refine r_iald dX12_picture_82 ob_147 s39 s40 ?_
          obtain ⟨s41, V⟩ := V
          refine r_imul dX12_picture_83 s41 ?_
          exact r_iret dX12_picture_84 rfl V
        · have V := V2 c36
          refine r_iload_n dX12_picture_59 rfl rfl ?_
          refine r_aload_n dX12_picture_60 rfl rfl ?_
          refine r_getR (b := 147) dX12_picture_61 fX12_13 ob_145 (by decide) rfl rfl ?_
          refine r_iload dX12_picture_64 rfl ?_
          obtain ⟨s42, V⟩ := V
          obtain ⟨s43, V⟩ := V
          refine r_iald dX12_picture_66 ob_147 s42 s43 ?_
          obtain ⟨s44, V⟩ := V
          refine r_imul dX12_picture_67 s44 ?_
          refine r_goto (tgt := 84) dX12_picture_68 (by decide) ?_
          exact r_iret dX12_picture_84 rfl V
      · have V := V2 c29
        refine r_iconst (x := -1) dX12_picture_34 rfl (by decide) ?_
        exact r_iret dX12_picture_35 rfl V

theorem gX12_draw_0 {w : WD} {d : Nat} {G : GM} {Q : Option AV → Hp → Prop} {n : NM} {x1 : Int}
    (V :
    (inJ ((n 145 36) * 1103)) ∧
    (inJ (((n 145 36) * 1103) + 12345)) ∧
    (0 ≤ ((n 145 36) * 1103) + 12345) ∧
    (0 ≤ (((n 145 36) * 1103) + 12345) % 1000003) ∧
    (0 < x1) ∧
    (inI (((((n 145 36) * 1103) + 12345) % 1000003) % x1)) ∧
    Q (some (vi (((((n 145 36) * 1103) + 12345) % 1000003) % x1))) (B0, upn n 145 36 ((((n 145 36) * 1103) + 12345) % 1000003))) :
    Rn w mX12_draw d G Q 0 [(0, vr 145), (1, vi x1)] [] (B0, n) := by
  refine r_aload_n dX12_draw_0 rfl rfl ?_
  refine r_aload_n dX12_draw_1 rfl rfl ?_
  refine r_getL (fi := 36) dX12_draw_2 fX12_425 ob_145 (by decide) rfl rfl ?_
  refine r_ldc2 (x := 1103) dX12_draw_5 qX12_428 (by decide) ?_
  obtain ⟨s21, V⟩ := V
  refine r_lmul dX12_draw_8 s21 ?_
  refine r_ldc2 (x := 12345) dX12_draw_9 qX12_430 (by decide) ?_
  obtain ⟨s22, V⟩ := V
  refine r_ladd dX12_draw_12 s22 ?_
  refine r_ldc2 (x := 1000003) dX12_draw_13 qX12_432 (by decide) ?_
  obtain ⟨s23, V⟩ := V
  refine r_lrem dX12_draw_16 s23 (by decide) ?_
  refine r_putL (fi := 36) (h' := (B0, upn n 145 36 ((((n 145 36) * 1103) + 12345) % 1000003))) dX12_draw_17 pX12_425 ob_145 (by decide) rfl rfl rfl ?_
  refine r_aload_n dX12_draw_20 rfl rfl ?_
  refine r_getL (fi := 36) dX12_draw_21 fX12_425 ob_145 (by decide) rfl rfl ?_
  show Rn w mX12_draw d G Q 24 [(0, vr 145), (1, vi x1)] [vl ((((n 145 36) * 1103) + 12345) % 1000003)] (B0, upn n 145 36 ((((n 145 36) * 1103) + 12345) % 1000003))
  refine r_iload_n dX12_draw_24 rfl rfl ?_
  refine r_i2l dX12_draw_25 ?_
  obtain ⟨s24, V⟩ := V
  obtain ⟨s25, V⟩ := V
  refine r_lrem dX12_draw_26 s24 s25 ?_
  obtain ⟨s26, V⟩ := V
  refine r_l2i dX12_draw_27 s26 ?_
  exact r_iret dX12_draw_28 rfl V

theorem gX12_hasBoat_0 {w : WD} {d : Nat} {G : GM} {Q : Option AV → Hp → Prop} {n : NM} {x1 : Int}
    (V :
    Rn w mX12_hasBoat d G Q 4 [(0, vr 145), (1, vi x1), (2, vi 0), (3, vi 0)] [] (B0, n)) :
    Rn w mX12_hasBoat d G Q 0 [(0, vr 145), (1, vi x1)] [] (B0, n) := by
  refine r_iconst (x := 0) dX12_hasBoat_0 rfl (by decide) ?_
  refine r_istore_n (ls' := [(0, vr 145), (1, vi x1), (2, vi 0)]) dX12_hasBoat_1 rfl (by decide) rfl ?_
  refine r_iconst (x := 0) dX12_hasBoat_2 rfl (by decide) ?_
  refine r_istore_n (ls' := [(0, vr 145), (1, vi x1), (2, vi 0), (3, vi 0)]) dX12_hasBoat_3 rfl (by decide) rfl ?_
  exact V

theorem gX12_hasBoat_4 {w : WD} {d : Nat} {G : GM} {Q : Option AV → Hp → Prop} {n : NM} {x1 x2 x3 : Int}
    (V :
    ((n 147 0 ≤ x3 →
      (x2 = 0 ∨ x2 = 1) ∧
      Q (some (vi x2)) (B0, n)) ∧
    (x3 < n 147 0 →
      (x2 = 0 → inI (4 * x3)) ∧
      (x2 = 0 → inI (200 + (4 * x3))) ∧
      (x2 = 0 → 0 ≤ 200 + (4 * x3)) ∧
      (x2 = 0 → 200 + (4 * x3) < 1800) ∧
      (∀ z29 : Int, z29 = (if x2 ≠ 0 then 1 else (if n 147 (200 + (4 * x3)) ≠ x1 then 0 else 1)) → 
      (inI (x3 + 1)) ∧
      Rn w mX12_hasBoat d G Q 4 [(0, vr 145), (1, vi x1), (2, vi z29), (3, vi (x3 + 1))] [] (B0, n))))) :
    Rn w mX12_hasBoat d G Q 4 [(0, vr 145), (1, vi x1), (2, vi x2), (3, vi x3)] [] (B0, n) := by
  refine r_iload_n dX12_hasBoat_4 rfl rfl ?_
  refine r_aload_n dX12_hasBoat_5 rfl rfl ?_
  refine r_getR (b := 147) dX12_hasBoat_6 fX12_13 ob_145 (by decide) rfl rfl ?_
  refine r_iconst (x := 0) dX12_hasBoat_9 rfl (by decide) ?_
  refine r_iald dX12_hasBoat_10 ob_147 (by decide) (by decide) ?_
  obtain ⟨V1, V2⟩ := V
  refine r_jge (tgt := 46) dX12_hasBoat_11 (by decide) (fun c21 => ?_) (fun c21 => ?_)
  · have V := V1 c21
    refine r_iload_n dX12_hasBoat_46 rfl rfl ?_
    obtain ⟨s22, V⟩ := V
    exact r_zret dX12_hasBoat_47 rfl s22 V
  · have V := V2 c21
    refine r_iload_n dX12_hasBoat_14 rfl rfl ?_
    obtain ⟨s24, V⟩ := V
    obtain ⟨s25, V⟩ := V
    obtain ⟨s26, V⟩ := V
    obtain ⟨s27, V⟩ := V
    have K : ∀ z29 : Int, z29 = (if x2 ≠ 0 then 1 else (if n 147 (200 + (4 * x3)) ≠ x1 then 0 else 1)) → Rn w mX12_hasBoat d G Q 39 [(0, vr 145), (1, vi x1), (3, vi x3)] [vi z29] (B0, n) := by
      intro z29 ez29
      have V := V z29 ez29
      refine r_istore_n (ls' := [(0, vr 145), (1, vi x1), (2, vi z29), (3, vi x3)]) dX12_hasBoat_39 rfl (by decide) rfl ?_
      obtain ⟨s30, V⟩ := V
      refine r_iinc (y := x3 + 1) (ls' := [(0, vr 145), (1, vi x1), (2, vi z29), (3, vi (x3 + 1))]) dX12_hasBoat_40 rfl rfl s30 (by decide) rfl ?_
      refine r_goto (tgt := 4) dX12_hasBoat_43 (by decide) ?_
      exact V
    refine r_zne (tgt := 34) dX12_hasBoat_15 (by decide) (fun c23 => ?_) (fun c23 => ?_)
    · refine r_iconst (x := 1) dX12_hasBoat_34 rfl (by decide) ?_
      refine r_goto (tgt := 39) dX12_hasBoat_35 (by decide) ?_
      refine r_pick [0, 1, 3] (ls' := [(0, vr 145), (1, vi x1), (3, vi x3)]) rfl ?_
      exact K 1 (by first | rfl | (simp only [if_pos c23]))
    · refine r_aload_n dX12_hasBoat_18 rfl rfl ?_
      refine r_getR (b := 147) dX12_hasBoat_19 fX12_13 ob_145 (by decide) rfl rfl ?_
      refine r_sipush (x := 200) dX12_hasBoat_22 (by decide +kernel) (by decide) ?_
      refine r_iconst (x := 4) dX12_hasBoat_25 rfl (by decide) ?_
      refine r_iload_n dX12_hasBoat_26 rfl rfl ?_
      refine r_imul dX12_hasBoat_27 (s24 c23) ?_
      refine r_iadd dX12_hasBoat_28 (s25 c23) ?_
      refine r_iald dX12_hasBoat_29 ob_147 (s26 c23) (s27 c23) ?_
      refine r_iload_n dX12_hasBoat_30 rfl rfl ?_
      refine r_jne (tgt := 38) dX12_hasBoat_31 (by decide) (fun c28 => ?_) (fun c28 => ?_)
      · refine r_iconst (x := 0) dX12_hasBoat_38 rfl (by decide) ?_
        refine r_pick [0, 1, 3] (ls' := [(0, vr 145), (1, vi x1), (3, vi x3)]) rfl ?_
        exact K 0 (by first | rfl | (simp only [if_neg (show ¬ (x2 ≠ 0) from not_not_intro c23), if_pos c28]))
      · refine r_iconst (x := 1) dX12_hasBoat_34 rfl (by decide) ?_
        refine r_goto (tgt := 39) dX12_hasBoat_35 (by decide) ?_
        refine r_pick [0, 1, 3] (ls' := [(0, vr 145), (1, vi x1), (3, vi x3)]) rfl ?_
        exact K 1 (by first | rfl | (simp only [if_neg (show ¬ (x2 ≠ 0) from not_not_intro c23), if_neg (show ¬ (n 147 (200 + (4 * x3)) ≠ x1) from not_not_intro c28)]))

theorem gX12_looks_0 {w : WD} {d : Nat} {G : GM} {Q : Option AV → Hp → Prop} {n : NM} {x1 x2 : Int}
    (V :
    (Ev w d 0 0 mX12_draw [vr 145, vi 1000] (B0, n) (fun r h' => ∃ (x22 : Int) (n21 : NM), r = some (vi x22) ∧ h' = (B0, n21) ∧ 
      (inI (3 * x1)) ∧
      (inI (700 + (3 * x1))) ∧
      (inI ((700 + (3 * x1)) + 1)) ∧
      (0 ≤ (700 + (3 * x1)) + 1) ∧
      ((700 + (3 * x1)) + 1 < 1800) ∧
      (inI (3 * x1)) ∧
      (inI (700 + (3 * x1))) ∧
      (inI ((700 + (3 * x1)) + 2)) ∧
      (0 ≤ (700 + (3 * x1)) + 2) ∧
      ((700 + (3 * x1)) + 2 < 1800) ∧
      (inI ((n21 147 ((700 + (3 * x1)) + 1)) * (n21 147 ((700 + (3 * x1)) + 2)))) ∧
      (((n21 147 ((700 + (3 * x1)) + 1)) * (n21 147 ((700 + (3 * x1)) + 2)) ≤ x22 →
        (Ev w d 0 0 mX12_hasBoat [vr 145, vi x2] (B0, n21) (fun r h' => ∃ (x36 : Int) (n35 : NM), r = some (vi x36) ∧ h' = (B0, n35) ∧ 
          ((x36 = 0 →
            Q (some (vi 2)) (B0, n35)) ∧
          (x36 ≠ 0 →
            (Ev w d 0 0 mX12_draw [vr 145, vi 10] (B0, n35) (fun r h' => ∃ (x39 : Int) (n38 : NM), r = some (vi x39) ∧ h' = (B0, n38) ∧ 
              (inI (3 * x2)) ∧
              (inI (20 + (3 * x2))) ∧
              (0 ≤ 20 + (3 * x2)) ∧
              (20 + (3 * x2) < 1800) ∧
              ((x39 ≤ n38 147 (20 + (3 * x2)) →
                Q (some (vi 2)) (B0, n38)) ∧
              (n38 147 (20 + (3 * x2)) < x39 →
                Q (some (vi 1)) (B0, n38)))))))))) ∧
      (x22 < (n21 147 ((700 + (3 * x1)) + 1)) * (n21 147 ((700 + (3 * x1)) + 2)) →
        Q (some (vi 0)) (B0, n21)))))) :
    Rn w mX12_looks (d + 1) G Q 0 [(0, vr 145), (1, vi x1), (2, vi x2)] [] (B0, n) := by
  refine r_aload_n dX12_looks_0 rfl rfl ?_
  refine r_sipush (x := 1000) dX12_looks_1 (by decide +kernel) (by decide) ?_
  refine r_callV (args := [vi 1000]) dX12_looks_4 kX12_434 ob_145 ⟨_, _, rfl⟩ (by decide) rfl rfl (Nat.le_of_ble_eq_true rfl) cap0 (Ev.mono V ?_)
  rintro r h' ⟨x22, n21, rfl, rfl, V⟩
  show Rn w mX12_looks (d + 1) G Q 7 [(0, vr 145), (1, vi x1), (2, vi x2)] [vi x22] (B0, n21)
  refine r_aload_n dX12_looks_7 rfl rfl ?_
  refine r_getR (b := 147) dX12_looks_8 fX12_13 ob_145 (by decide) rfl rfl ?_
  refine r_sipush (x := 700) dX12_looks_11 (by decide +kernel) (by decide) ?_
  refine r_iconst (x := 3) dX12_looks_14 rfl (by decide) ?_
  refine r_iload_n dX12_looks_15 rfl rfl ?_
  obtain ⟨s23, V⟩ := V
  refine r_imul dX12_looks_16 s23 ?_
  obtain ⟨s24, V⟩ := V
  refine r_iadd dX12_looks_17 s24 ?_
  refine r_iconst (x := 1) dX12_looks_18 rfl (by decide) ?_
  obtain ⟨s25, V⟩ := V
  refine r_iadd dX12_looks_19 s25 ?_
  obtain ⟨s26, V⟩ := V
  obtain ⟨s27, V⟩ := V
  refine r_iald dX12_looks_20 ob_147 s26 s27 ?_
  refine r_aload_n dX12_looks_21 rfl rfl ?_
  refine r_getR (b := 147) dX12_looks_22 fX12_13 ob_145 (by decide) rfl rfl ?_
  refine r_sipush (x := 700) dX12_looks_25 (by decide +kernel) (by decide) ?_
  refine r_iconst (x := 3) dX12_looks_28 rfl (by decide) ?_
  refine r_iload_n dX12_looks_29 rfl rfl ?_
  obtain ⟨s28, V⟩ := V
  refine r_imul dX12_looks_30 s28 ?_
  obtain ⟨s29, V⟩ := V
  refine r_iadd dX12_looks_31 s29 ?_
  refine r_iconst (x := 2) dX12_looks_32 rfl (by decide) ?_
  obtain ⟨s30, V⟩ := V
  refine r_iadd dX12_looks_33 s30 ?_
  obtain ⟨s31, V⟩ := V
  obtain ⟨s32, V⟩ := V
  refine r_iald dX12_looks_34 ob_147 s31 s32 ?_
  obtain ⟨s33, V⟩ := V
  refine r_imul dX12_looks_35 s33 ?_
  obtain ⟨V1, V2⟩ := V
  refine r_jge (tgt := 41) dX12_looks_36 (by decide) (fun c34 => ?_) (fun c34 => ?_)
  · have V := V1 c34
    refine r_aload_n dX12_looks_41 rfl rfl ?_
    refine r_iload_n dX12_looks_42 rfl rfl ?_
    refine r_callV (args := [vi x2]) dX12_looks_43 kX12_437 ob_145 ⟨_, _, rfl⟩ (by decide) rfl rfl (Nat.le_of_ble_eq_true rfl) cap0 (Ev.mono V ?_)
    rintro r h' ⟨x36, n35, rfl, rfl, V⟩
    show Rn w mX12_looks (d + 1) G Q 46 [(0, vr 145), (1, vi x1), (2, vi x2)] [vi x36] (B0, n35)
    obtain ⟨V1, V2⟩ := V
    refine r_zeq (tgt := 73) dX12_looks_46 (by decide) (fun c37 => ?_) (fun c37 => ?_)
    · have V := V1 c37
      refine r_iconst (x := 2) dX12_looks_73 rfl (by decide) ?_
      exact r_iret dX12_looks_74 rfl V
    · have V := V2 c37
      refine r_aload_n dX12_looks_49 rfl rfl ?_
      refine r_bipush (x := 10) dX12_looks_50 (by decide +kernel) (by decide) ?_
      refine r_callV (args := [vi 10]) dX12_looks_52 kX12_434 ob_145 ⟨_, _, rfl⟩ (by decide) rfl rfl (Nat.le_of_ble_eq_true rfl) cap0 (Ev.mono V ?_)
      rintro r h' ⟨x39, n38, rfl, rfl, V⟩
      show Rn w mX12_looks (d + 1) G Q 55 [(0, vr 145), (1, vi x1), (2, vi x2)] [vi x39] (B0, n38)
      refine r_aload_n dX12_looks_55 rfl rfl ?_
      refine r_getR (b := 147) dX12_looks_56 fX12_13 ob_145 (by decide) rfl rfl ?_
      refine r_bipush (x := 20) dX12_looks_59 (by decide +kernel) (by decide) ?_
      refine r_iconst (x := 3) dX12_looks_61 rfl (by decide) ?_
      refine r_iload_n dX12_looks_62 rfl rfl ?_
      obtain ⟨s40, V⟩ := V
      refine r_imul dX12_looks_63 s40 ?_
      obtain ⟨s41, V⟩ := V
      refine r_iadd dX12_looks_64 s41 ?_
      obtain ⟨s42, V⟩ := V
      obtain ⟨s43, V⟩ := V
      refine r_iald dX12_looks_65 ob_147 s42 s43 ?_
      obtain ⟨V1, V2⟩ := V
      refine r_jle (tgt := 73) dX12_looks_66 (by decide) (fun c44 => ?_) (fun c44 => ?_)
      · have V := V1 c44
        refine r_iconst (x := 2) dX12_looks_73 rfl (by decide) ?_
        exact r_iret dX12_looks_74 rfl V
      · have V := V2 c44
        refine r_iconst (x := 1) dX12_looks_69 rfl (by decide) ?_
        refine r_goto (tgt := 74) dX12_looks_70 (by decide) ?_
        exact r_iret dX12_looks_74 rfl V
  · have V := V2 c34
    refine r_iconst (x := 0) dX12_looks_39 rfl (by decide) ?_
    exact r_iret dX12_looks_40 rfl V

theorem gX12_run_0 {w : WD} {d : Nat} {G : GM} {Q : Option AV → Hp → Prop} {n : NM} {x1 x2 x3 : Int}
    (V :
    (Ev w d 0 0 mX12_in [vl x2, vl 1, vl 60] (B0, upn n 145 0 0) (fun r h' => ∃ (x22 : Int) (n21 : NM), r = some (vi x22) ∧ h' = (B0, n21) ∧ 
      ((x22 = 0 →
        (Ev w d 0 0 mX12_tell [vr 145, vi (-1)] (B0, n21) (fun r h' => ∃ (x25 : Int) (n24 : NM), r = some (vi x25) ∧ h' = (B0, n24) ∧ 
          Q (some (vi x25)) (B0, n24)))) ∧
      (x22 ≠ 0 →
        (Ev w d 0 0 mX12_in [vl x3, vl 0, vl 1000000] (B0, n21) (fun r h' => ∃ (x27 : Int) (n26 : NM), r = some (vi x27) ∧ h' = (B0, n26) ∧ 
          ((x27 ≠ 0 →
            (Ev w d 0 0 mX12_is [vr 145, vi 7, vi x1] (B0, n26) (fun r h' => ∃ (x30 : Int) (n29 : NM), r = some (vi x30) ∧ h' = (B0, n29) ∧ 
              ((x30 ≠ 0 →
                Rn w mX12_run (d + 1) G Q 55 [(0, vr 145), (1, vi x1), (2, vi x2), (3, vi x3), (4, vi 0)] [] (B0, n29)) ∧
              (x30 = 0 →
                (Ev w d 0 0 mX12_tell [vr 145, vi (-2)] (B0, n29) (fun r h' => ∃ (x33 : Int) (n32 : NM), r = some (vi x33) ∧ h' = (B0, n32) ∧ 
                  Q (some (vi x33)) (B0, n32)))))))) ∧
          (x27 = 0 →
            (Ev w d 0 0 mX12_tell [vr 145, vi (-1)] (B0, n26) (fun r h' => ∃ (x35 : Int) (n34 : NM), r = some (vi x35) ∧ h' = (B0, n34) ∧ 
              Q (some (vi x35)) (B0, n34)))))))))))) :
    Rn w mX12_run (d + 1) G Q 0 [(0, vr 145), (1, vi x1), (2, vi x2), (3, vi x3)] [] (B0, n) := by
  refine r_aload_n dX12_run_0 rfl rfl ?_
  refine r_iconst (x := 0) dX12_run_1 rfl (by decide) ?_
  refine r_putI (fi := 0) (h' := (B0, upn n 145 0 0)) dX12_run_2 pX12_76 ob_145 (by decide) rfl rfl rfl ?_
  refine r_iload_n dX12_run_5 rfl rfl ?_
  refine r_i2l dX12_run_6 ?_
  refine r_lconst (x := 1) dX12_run_7 rfl (by decide) ?_
  refine r_ldc2 (x := 60) dX12_run_8 qX12_334 (by decide) ?_
  refine r_callS (args := [vl x2, vl 1, vl 60]) dX12_run_11 kX12_82 rfl rfl (Nat.le_of_ble_eq_true rfl) cap0 (Ev.mono V ?_)
  rintro r h' ⟨x22, n21, rfl, rfl, V⟩
  show Rn w mX12_run (d + 1) G Q 14 [(0, vr 145), (1, vi x1), (2, vi x2), (3, vi x3)] [vi x22] (B0, n21)
  obtain ⟨V1, V2⟩ := V
  refine r_zeq (tgt := 29) dX12_run_14 (by decide) (fun c23 => ?_) (fun c23 => ?_)
  · have V := V1 c23
    refine r_aload_n dX12_run_29 rfl rfl ?_
    refine r_iconst (x := -1) dX12_run_30 rfl (by decide) ?_
    refine r_callV (args := [vi (-1)]) dX12_run_31 kX12_86 ob_145 ⟨_, _, rfl⟩ (by decide) rfl rfl (Nat.le_of_ble_eq_true rfl) cap0 (Ev.mono V ?_)
    rintro r h' ⟨x25, n24, rfl, rfl, V⟩
    show Rn w mX12_run (d + 1) G Q 34 [(0, vr 145), (1, vi x1), (2, vi x2), (3, vi x3)] [vi x25] (B0, n24)
    exact r_iret dX12_run_34 rfl V
  · have V := V2 c23
    refine r_iload_n dX12_run_17 rfl rfl ?_
    refine r_i2l dX12_run_18 ?_
    refine r_lconst (x := 0) dX12_run_19 rfl (by decide) ?_
    refine r_ldc2 (x := 1000000) dX12_run_20 qX12_176 (by decide) ?_
    refine r_callS (args := [vl x3, vl 0, vl 1000000]) dX12_run_23 kX12_82 rfl rfl (Nat.le_of_ble_eq_true rfl) cap0 (Ev.mono V ?_)
    rintro r h' ⟨x27, n26, rfl, rfl, V⟩
    show Rn w mX12_run (d + 1) G Q 26 [(0, vr 145), (1, vi x1), (2, vi x2), (3, vi x3)] [vi x27] (B0, n26)
    obtain ⟨V1, V2⟩ := V
    refine r_zne (tgt := 35) dX12_run_26 (by decide) (fun c28 => ?_) (fun c28 => ?_)
    · have V := V1 c28
      refine r_aload_n dX12_run_35 rfl rfl ?_
      refine r_bipush (x := 7) dX12_run_36 (by decide +kernel) (by decide) ?_
      refine r_iload_n dX12_run_38 rfl rfl ?_
      refine r_callV (args := [vi 7, vi x1]) dX12_run_39 kX12_122 ob_145 ⟨_, _, rfl⟩ (by decide) rfl rfl (Nat.le_of_ble_eq_true rfl) cap0 (Ev.mono V ?_)
      rintro r h' ⟨x30, n29, rfl, rfl, V⟩
      show Rn w mX12_run (d + 1) G Q 42 [(0, vr 145), (1, vi x1), (2, vi x2), (3, vi x3)] [vi x30] (B0, n29)
      obtain ⟨V1, V2⟩ := V
      refine r_zne (tgt := 52) dX12_run_42 (by decide) (fun c31 => ?_) (fun c31 => ?_)
      · have V := V1 c31
        refine r_iconst (x := 0) dX12_run_52 rfl (by decide) ?_
        refine r_istore (ls' := [(0, vr 145), (1, vi x1), (2, vi x2), (3, vi x3), (4, vi 0)]) dX12_run_53 (by decide) rfl ?_
        exact V
      · have V := V2 c31
        refine r_aload_n dX12_run_45 rfl rfl ?_
        refine r_bipush (x := -2) dX12_run_46 (by decide +kernel) (by decide) ?_
        refine r_callV (args := [vi (-2)]) dX12_run_48 kX12_86 ob_145 ⟨_, _, rfl⟩ (by decide) rfl rfl (Nat.le_of_ble_eq_true rfl) cap0 (Ev.mono V ?_)
        rintro r h' ⟨x33, n32, rfl, rfl, V⟩
        show Rn w mX12_run (d + 1) G Q 51 [(0, vr 145), (1, vi x1), (2, vi x2), (3, vi x3)] [vi x33] (B0, n32)
        exact r_iret dX12_run_51 rfl V
    · have V := V2 c28
      refine r_aload_n dX12_run_29 rfl rfl ?_
      refine r_iconst (x := -1) dX12_run_30 rfl (by decide) ?_
      refine r_callV (args := [vi (-1)]) dX12_run_31 kX12_86 ob_145 ⟨_, _, rfl⟩ (by decide) rfl rfl (Nat.le_of_ble_eq_true rfl) cap0 (Ev.mono V ?_)
      rintro r h' ⟨x35, n34, rfl, rfl, V⟩
      show Rn w mX12_run (d + 1) G Q 34 [(0, vr 145), (1, vi x1), (2, vi x2), (3, vi x3)] [vi x35] (B0, n34)
      exact r_iret dX12_run_34 rfl V

theorem gX12_run_55 {w : WD} {d : Nat} {G : GM} {Q : Option AV → Hp → Prop} {n : NM} {x1 x2 x3 x4 : Int}
    (V :
    ((36 ≤ x4 →
      Rn w mX12_run d G Q 98 [(0, vr 145), (1, vi x1), (2, vi x2), (4, vi 0), (5, vi 0)] [] (B0, upn (upn n 145 37 (n 147 3)) 145 36 x3)) ∧
    (x4 < 36 →
      (0 ≤ x4) ∧
      (x4 < 36) ∧
      (inI (x4 + 1)) ∧
      Rn w mX12_run d G Q 55 [(0, vr 145), (1, vi x1), (2, vi x2), (3, vi x3), (4, vi (x4 + 1))] [] (B0, upn n 164 x4 0)))) :
    Rn w mX12_run d G Q 55 [(0, vr 145), (1, vi x1), (2, vi x2), (3, vi x3), (4, vi x4)] [] (B0, n) := by
  refine r_iload dX12_run_55 rfl ?_
  refine r_bipush (x := 36) dX12_run_57 (by decide +kernel) (by decide) ?_
  obtain ⟨V1, V2⟩ := V
  refine r_jge (tgt := 76) dX12_run_59 (by decide) (fun c21 => ?_) (fun c21 => ?_)
  · have V := V1 c21
    refine r_aload_n dX12_run_76 rfl rfl ?_
    refine r_aload_n dX12_run_77 rfl rfl ?_
    refine r_getR (b := 147) dX12_run_78 fX12_13 ob_145 (by decide) rfl rfl ?_
    refine r_iconst (x := 3) dX12_run_81 rfl (by decide) ?_
    refine r_iald dX12_run_82 ob_147 (by decide) (by decide) ?_
    refine r_putI (fi := 37) (h' := (B0, upn n 145 37 (n 147 3))) dX12_run_83 pX12_70 ob_145 (by decide) rfl rfl rfl ?_
    refine r_aload_n dX12_run_86 rfl rfl ?_
    refine r_iload_n dX12_run_87 rfl rfl ?_
    refine r_i2l dX12_run_88 ?_
    refine r_putL (fi := 36) (h' := (B0, upn (upn n 145 37 (n 147 3)) 145 36 x3)) dX12_run_89 pX12_425 ob_145 (by decide) rfl rfl rfl ?_
    refine r_iconst (x := 0) dX12_run_92 rfl (by decide) ?_
    refine r_istore (ls' := [(0, vr 145), (1, vi x1), (2, vi x2), (3, vi x3), (4, vi 0)]) dX12_run_93 (by decide) rfl ?_
    refine r_iconst (x := 0) dX12_run_95 rfl (by decide) ?_
    refine r_istore (ls' := [(0, vr 145), (1, vi x1), (2, vi x2), (3, vi x3), (4, vi 0), (5, vi 0)]) dX12_run_96 (by decide) rfl ?_
    refine r_pick [0, 1, 2, 4, 5] (ls' := [(0, vr 145), (1, vi x1), (2, vi x2), (4, vi 0), (5, vi 0)]) rfl ?_
    exact V
  · have V := V2 c21
    refine r_aload_n dX12_run_62 rfl rfl ?_
    refine r_getR (b := 164) dX12_run_63 fX12_73 ob_145 (by decide) rfl rfl ?_
    refine r_iload dX12_run_66 rfl ?_
    refine r_iconst (x := 0) dX12_run_68 rfl (by decide) ?_
    obtain ⟨s22, V⟩ := V
    obtain ⟨s23, V⟩ := V
    refine r_iast (h' := (B0, upn n 164 x4 0)) dX12_run_69 ob_164 s22 s23 rfl ?_
    obtain ⟨s24, V⟩ := V
    refine r_iinc (y := x4 + 1) (ls' := [(0, vr 145), (1, vi x1), (2, vi x2), (3, vi x3), (4, vi (x4 + 1))]) dX12_run_70 rfl rfl s24 (by decide) rfl ?_
    refine r_goto (tgt := 55) dX12_run_73 (by decide) ?_
    exact V

theorem gX12_run_98 {w : WD} {d : Nat} {G : GM} {Q : Option AV → Hp → Prop} {n : NM} {x1 x2 x4 x5 : Int}
    (V :
    ((x2 ≤ x5 →
      (Ev w d 0 0 mX12_tell [vr 145, vi x4] (B0, n) (fun r h' => ∃ (x23 : Int) (n22 : NM), r = some (vi x23) ∧ h' = (B0, n22) ∧ 
        Q (some (vi x23)) (B0, n22)))) ∧
    (x5 < x2 →
      Rn w mX12_run (d + 1) G Q 107 [(0, vr 145), (1, vi x1), (2, vi x2), (4, vi x4), (5, vi x5), (6, vi 0)] [] (B0, n)))) :
    Rn w mX12_run (d + 1) G Q 98 [(0, vr 145), (1, vi x1), (2, vi x2), (4, vi x4), (5, vi x5)] [] (B0, n) := by
  refine r_iload dX12_run_98 rfl ?_
  refine r_iload_n dX12_run_100 rfl rfl ?_
  obtain ⟨V1, V2⟩ := V
  refine r_jge (tgt := 193) dX12_run_101 (by decide) (fun c21 => ?_) (fun c21 => ?_)
  · have V := V1 c21
    refine r_aload_n dX12_run_193 rfl rfl ?_
    refine r_iload dX12_run_194 rfl ?_
    refine r_callV (args := [vi x4]) dX12_run_196 kX12_86 ob_145 ⟨_, _, rfl⟩ (by decide) rfl rfl (Nat.le_of_ble_eq_true rfl) cap0 (Ev.mono V ?_)
    rintro r h' ⟨x23, n22, rfl, rfl, V⟩
    show Rn w mX12_run (d + 1) G Q 199 [(0, vr 145), (1, vi x1), (2, vi x2), (4, vi x4), (5, vi x5)] [vi x23] (B0, n22)
    exact r_iret dX12_run_199 rfl V
  · have V := V2 c21
    refine r_iconst (x := 0) dX12_run_104 rfl (by decide) ?_
    refine r_istore (ls' := [(0, vr 145), (1, vi x1), (2, vi x2), (4, vi x4), (5, vi x5), (6, vi 0)]) dX12_run_105 (by decide) rfl ?_
    exact V

theorem gX12_run_107 {w : WD} {d : Nat} {G : GM} {Q : Option AV → Hp → Prop} {n : NM} {x1 x2 x4 x5 x6 : Int}
    (V :
    ((n 147 3 ≤ x6 →
      (inI (x5 + 1)) ∧
      Rn w mX12_run (d + 1) G Q 98 [(0, vr 145), (1, vi x1), (2, vi x2), (4, vi x4), (5, vi (x5 + 1))] [] (B0, n)) ∧
    (x6 < n 147 3 →
      (Ev w d 0 0 mX12_draw [vr 145, vi 100] (B0, n) (fun r h' => ∃ (x24 : Int) (n23 : NM), r = some (vi x24) ∧ h' = (B0, n23) ∧ 
        (inI (330 + x6)) ∧
        (0 ≤ 330 + x6) ∧
        (330 + x6 < 1800) ∧
        (inI (3 * x5)) ∧
        (inI (20 + (3 * x5))) ∧
        (inI ((20 + (3 * x5)) + 2)) ∧
        (0 ≤ (20 + (3 * x5)) + 2) ∧
        ((20 + (3 * x5)) + 2 < 1800) ∧
        (inI ((n23 147 (330 + x6)) + (n23 147 ((20 + (3 * x5)) + 2)))) ∧
        (((n23 147 (330 + x6)) + (n23 147 ((20 + (3 * x5)) + 2)) ≤ x24 →
          (inI (x6 + 1)) ∧
          Rn w mX12_run (d + 1) G Q 107 [(0, vr 145), (1, vi x1), (2, vi x2), (4, vi x4), (5, vi x5), (6, vi (x6 + 1))] [] (B0, n23)) ∧
        (x24 < (n23 147 (330 + x6)) + (n23 147 ((20 + (3 * x5)) + 2)) →
          (inI (x4 + 1)) ∧
          (Ev w d 0 0 mX12_looks [vr 145, vi x1, vi x5] (B0, n23) (fun r h' => ∃ (x38 : Int) (n37 : NM), r = some (vi x38) ∧ h' = (B0, n37) ∧ 
            (inI (3 * x6)) ∧
            (inI ((3 * x6) + x38)) ∧
            (0 ≤ (3 * x6) + x38) ∧
            ((3 * x6) + x38 < 36) ∧
            (inI ((n37 164 ((3 * x6) + x38)) + 1)) ∧
            (0 ≤ (3 * x6) + x38) ∧
            ((3 * x6) + x38 < 36) ∧
            (inI (x6 + 1)) ∧
            Rn w mX12_run (d + 1) G Q 107 [(0, vr 145), (1, vi x1), (2, vi x2), (4, vi (x4 + 1)), (5, vi x5), (6, vi (x6 + 1))] [] (B0, upn n37 164 ((3 * x6) + x38) ((n37 164 ((3 * x6) + x38)) + 1))))))))))) :
    Rn w mX12_run (d + 1) G Q 107 [(0, vr 145), (1, vi x1), (2, vi x2), (4, vi x4), (5, vi x5), (6, vi x6)] [] (B0, n) := by
  refine r_iload dX12_run_107 rfl ?_
  refine r_aload_n dX12_run_109 rfl rfl ?_
  refine r_getR (b := 147) dX12_run_110 fX12_13 ob_145 (by decide) rfl rfl ?_
  refine r_iconst (x := 3) dX12_run_113 rfl (by decide) ?_
  refine r_iald dX12_run_114 ob_147 (by decide) (by decide) ?_
  obtain ⟨V1, V2⟩ := V
  refine r_jge (tgt := 187) dX12_run_115 (by decide) (fun c21 => ?_) (fun c21 => ?_)
  · have V := V1 c21
    obtain ⟨s22, V⟩ := V
    refine r_iinc (y := x5 + 1) (ls' := [(0, vr 145), (1, vi x1), (2, vi x2), (4, vi x4), (5, vi (x5 + 1)), (6, vi x6)]) dX12_run_187 rfl rfl s22 (by decide) rfl ?_
    refine r_goto (tgt := 98) dX12_run_190 (by decide) ?_
    refine r_pick [0, 1, 2, 3, 4] (ls' := [(0, vr 145), (1, vi x1), (2, vi x2), (4, vi x4), (5, vi (x5 + 1))]) rfl ?_
    exact V
  · have V := V2 c21
    refine r_aload_n dX12_run_118 rfl rfl ?_
    refine r_bipush (x := 100) dX12_run_119 (by decide +kernel) (by decide) ?_
    refine r_callV (args := [vi 100]) dX12_run_121 kX12_434 ob_145 ⟨_, _, rfl⟩ (by decide) rfl rfl (Nat.le_of_ble_eq_true rfl) cap0 (Ev.mono V ?_)
    rintro r h' ⟨x24, n23, rfl, rfl, V⟩
    show Rn w mX12_run (d + 1) G Q 124 [(0, vr 145), (1, vi x1), (2, vi x2), (4, vi x4), (5, vi x5), (6, vi x6)] [vi x24] (B0, n23)
    refine r_aload_n dX12_run_124 rfl rfl ?_
    refine r_getR (b := 147) dX12_run_125 fX12_13 ob_145 (by decide) rfl rfl ?_
    refine r_sipush (x := 330) dX12_run_128 (by decide +kernel) (by decide) ?_
    refine r_iload dX12_run_131 rfl ?_
    obtain ⟨s25, V⟩ := V
    refine r_iadd dX12_run_133 s25 ?_
    obtain ⟨s26, V⟩ := V
    obtain ⟨s27, V⟩ := V
    refine r_iald dX12_run_134 ob_147 s26 s27 ?_
    refine r_aload_n dX12_run_135 rfl rfl ?_
    refine r_getR (b := 147) dX12_run_136 fX12_13 ob_145 (by decide) rfl rfl ?_
    refine r_bipush (x := 20) dX12_run_139 (by decide +kernel) (by decide) ?_
    refine r_iconst (x := 3) dX12_run_141 rfl (by decide) ?_
    refine r_iload dX12_run_142 rfl ?_
    obtain ⟨s28, V⟩ := V
    refine r_imul dX12_run_144 s28 ?_
    obtain ⟨s29, V⟩ := V
    refine r_iadd dX12_run_145 s29 ?_
    refine r_iconst (x := 2) dX12_run_146 rfl (by decide) ?_
    obtain ⟨s30, V⟩ := V
    refine r_iadd dX12_run_147 s30 ?_
    obtain ⟨s31, V⟩ := V
    obtain ⟨s32, V⟩ := V
    refine r_iald dX12_run_148 ob_147 s31 s32 ?_
    obtain ⟨s33, V⟩ := V
    refine r_iadd dX12_run_149 s33 ?_
    obtain ⟨V1, V2⟩ := V
    refine r_jge (tgt := 181) dX12_run_150 (by decide) (fun c34 => ?_) (fun c34 => ?_)
    · have V := V1 c34
      obtain ⟨s35, V⟩ := V
      refine r_iinc (y := x6 + 1) (ls' := [(0, vr 145), (1, vi x1), (2, vi x2), (4, vi x4), (5, vi x5), (6, vi (x6 + 1))]) dX12_run_181 rfl rfl s35 (by decide) rfl ?_
      refine r_goto (tgt := 107) dX12_run_184 (by decide) ?_
      exact V
    · have V := V2 c34
      obtain ⟨s36, V⟩ := V
      refine r_iinc (y := x4 + 1) (ls' := [(0, vr 145), (1, vi x1), (2, vi x2), (4, vi (x4 + 1)), (5, vi x5), (6, vi x6)]) dX12_run_153 rfl rfl s36 (by decide) rfl ?_
      refine r_aload_n dX12_run_156 rfl rfl ?_
      refine r_iload_n dX12_run_157 rfl rfl ?_
      refine r_iload dX12_run_158 rfl ?_
      refine r_callV (args := [vi x1, vi x5]) dX12_run_160 kX12_440 ob_145 ⟨_, _, rfl⟩ (by decide) rfl rfl (Nat.le_of_ble_eq_true rfl) cap0 (Ev.mono V ?_)
      rintro r h' ⟨x38, n37, rfl, rfl, V⟩
      show Rn w mX12_run (d + 1) G Q 163 [(0, vr 145), (1, vi x1), (2, vi x2), (4, vi (x4 + 1)), (5, vi x5), (6, vi x6)] [vi x38] (B0, n37)
      refine r_istore (ls' := [(0, vr 145), (1, vi x1), (2, vi x2), (4, vi (x4 + 1)), (5, vi x5), (6, vi x6), (7, vi x38)]) dX12_run_163 (by decide) rfl ?_
      refine r_aload_n dX12_run_165 rfl rfl ?_
      refine r_getR (b := 164) dX12_run_166 fX12_73 ob_145 (by decide) rfl rfl ?_
      refine r_iconst (x := 3) dX12_run_169 rfl (by decide) ?_
      refine r_iload dX12_run_170 rfl ?_
      obtain ⟨s39, V⟩ := V
      refine r_imul dX12_run_172 s39 ?_
      refine r_iload dX12_run_173 rfl ?_
      obtain ⟨s40, V⟩ := V
      refine r_iadd dX12_run_175 s40 ?_
      refine r_dup2 dX12_run_176 rfl rfl ?_
      obtain ⟨s41, V⟩ := V
      obtain ⟨s42, V⟩ := V
      refine r_iald dX12_run_177 ob_164 s41 s42 ?_
      refine r_iconst (x := 1) dX12_run_178 rfl (by decide) ?_
      obtain ⟨s43, V⟩ := V
      refine r_iadd dX12_run_179 s43 ?_
      obtain ⟨s44, V⟩ := V
      obtain ⟨s45, V⟩ := V
      refine r_iast (h' := (B0, upn n37 164 ((3 * x6) + x38) ((n37 164 ((3 * x6) + x38)) + 1))) dX12_run_180 ob_164 s44 s45 rfl ?_
      obtain ⟨s46, V⟩ := V
      refine r_iinc (y := x6 + 1) (ls' := [(0, vr 145), (1, vi x1), (2, vi x2), (4, vi (x4 + 1)), (5, vi x5), (6, vi (x6 + 1)), (7, vi x38)]) dX12_run_181 rfl rfl s46 (by decide) rfl ?_
      refine r_goto (tgt := 107) dX12_run_184 (by decide) ?_
      refine r_pick [0, 1, 2, 3, 4, 5] (ls' := [(0, vr 145), (1, vi x1), (2, vi x2), (4, vi (x4 + 1)), (5, vi x5), (6, vi (x6 + 1))]) rfl ?_
      exact V

theorem gX12_world_0 {w : WD} {d : Nat} {G : GM} {Q : Option AV → Hp → Prop} {n : NM} {x1 x2 : Int}
    (V :
    (Ev w d 0 0 mX12_in [vl x1, vl 0, vl 2] (B0, upn n 145 0 0) (fun r h' => ∃ (x22 : Int) (n21 : NM), r = some (vi x22) ∧ h' = (B0, n21) ∧ 
      ((x22 = 0 →
        Q (some (vi (-1))) (B0, n21)) ∧
      (x22 ≠ 0 →
        ((n21 145 37 = (-1) →
          Q (some (vi (-1))) (B0, n21)) ∧
        (n21 145 37 ≠ (-1) →
          (inJ ((n21 145 37) - 1)) ∧
          (Ev w d 0 0 mX12_in [vl x2, vl (-1), vl ((n21 145 37) - 1)] (B0, n21) (fun r h' => ∃ (x27 : Int) (n26 : NM), r = some (vi x27) ∧ h' = (B0, n26) ∧ 
            ((x27 ≠ 0 →
              Rn w mX12_world (d + 1) G Q 50 [(0, vr 145), (1, vi x1), (2, vi x2), (3, vi 0), (4, vi 0)] [] (B0, n26)) ∧
            (x27 = 0 →
              Q (some (vi (-1))) (B0, n26)))))))))))) :
    Rn w mX12_world (d + 1) G Q 0 [(0, vr 145), (1, vi x1), (2, vi x2)] [] (B0, n) := by
  refine r_aload_n dX12_world_0 rfl rfl ?_
  refine r_iconst (x := 0) dX12_world_1 rfl (by decide) ?_
  refine r_putI (fi := 0) (h' := (B0, upn n 145 0 0)) dX12_world_2 pX12_76 ob_145 (by decide) rfl rfl rfl ?_
  refine r_iload_n dX12_world_5 rfl rfl ?_
  refine r_i2l dX12_world_6 ?_
  refine r_lconst (x := 0) dX12_world_7 rfl (by decide) ?_
  refine r_ldc2 (x := 2) dX12_world_8 qX12_100 (by decide) ?_
  refine r_callS (args := [vl x1, vl 0, vl 2]) dX12_world_11 kX12_82 rfl rfl (Nat.le_of_ble_eq_true rfl) cap0 (Ev.mono V ?_)
  rintro r h' ⟨x22, n21, rfl, rfl, V⟩
  show Rn w mX12_world (d + 1) G Q 14 [(0, vr 145), (1, vi x1), (2, vi x2)] [vi x22] (B0, n21)
  obtain ⟨V1, V2⟩ := V
  refine r_zeq (tgt := 43) dX12_world_14 (by decide) (fun c23 => ?_) (fun c23 => ?_)
  · have V := V1 c23
    refine r_iconst (x := -1) dX12_world_43 rfl (by decide) ?_
    exact r_iret dX12_world_44 rfl V
  · have V := V2 c23
    refine r_aload_n dX12_world_17 rfl rfl ?_
    refine r_getI (fi := 37) dX12_world_18 fX12_70 ob_145 (by decide) (by decide) rfl ?_
    refine r_iconst (x := -1) dX12_world_21 rfl (by decide) ?_
    obtain ⟨V1, V2⟩ := V
    refine r_jeq (tgt := 43) dX12_world_22 (by decide) (fun c24 => ?_) (fun c24 => ?_)
    · have V := V1 c24
      refine r_iconst (x := -1) dX12_world_43 rfl (by decide) ?_
      exact r_iret dX12_world_44 rfl V
    · have V := V2 c24
      refine r_iload_n dX12_world_25 rfl rfl ?_
      refine r_i2l dX12_world_26 ?_
      refine r_ldc2 (x := -1) dX12_world_27 qX12_174 (by decide) ?_
      refine r_aload_n dX12_world_30 rfl rfl ?_
      refine r_getI (fi := 37) dX12_world_31 fX12_70 ob_145 (by decide) (by decide) rfl ?_
      refine r_i2l dX12_world_34 ?_
      refine r_lconst (x := 1) dX12_world_35 rfl (by decide) ?_
      obtain ⟨s25, V⟩ := V
      refine r_lsub dX12_world_36 s25 ?_
      refine r_callS (args := [vl x2, vl (-1), vl ((n21 145 37) - 1)]) dX12_world_37 kX12_82 rfl rfl (Nat.le_of_ble_eq_true rfl) cap0 (Ev.mono V ?_)
      rintro r h' ⟨x27, n26, rfl, rfl, V⟩
      show Rn w mX12_world (d + 1) G Q 40 [(0, vr 145), (1, vi x1), (2, vi x2)] [vi x27] (B0, n26)
      obtain ⟨V1, V2⟩ := V
      refine r_zne (tgt := 45) dX12_world_40 (by decide) (fun c28 => ?_) (fun c28 => ?_)
      · have V := V1 c28
        refine r_iconst (x := 0) dX12_world_45 rfl (by decide) ?_
        refine r_istore_n (ls' := [(0, vr 145), (1, vi x1), (2, vi x2), (3, vi 0)]) dX12_world_46 rfl (by decide) rfl ?_
        refine r_iconst (x := 0) dX12_world_47 rfl (by decide) ?_
        refine r_istore (ls' := [(0, vr 145), (1, vi x1), (2, vi x2), (3, vi 0), (4, vi 0)]) dX12_world_48 (by decide) rfl ?_
        exact V
      · have V := V2 c28
        refine r_iconst (x := -1) dX12_world_43 rfl (by decide) ?_
        exact r_iret dX12_world_44 rfl V

theorem gX12_world_50 {w : WD} {d : Nat} {G : GM} {Q : Option AV → Hp → Prop} {n : NM} {x1 x2 x3 x4 : Int}
    (V :
    ((n 145 37 ≤ x4 →
      Q (some (vi x3)) (B0, n)) ∧
    (x4 < n 145 37 →
      (x2 = (-1) → inI (3 * x4)) ∧
      (x2 = (-1) → inI ((3 * x4) + x1)) ∧
      (x2 = (-1) → 0 ≤ (3 * x4) + x1) ∧
      (x2 = (-1) → (3 * x4) + x1 < 36) ∧
      (x2 ≠ (-1) → x2 = x4 → inI (3 * x4)) ∧
      (x2 ≠ (-1) → x2 = x4 → inI ((3 * x4) + x1)) ∧
      (x2 ≠ (-1) → x2 = x4 → 0 ≤ (3 * x4) + x1) ∧
      (x2 ≠ (-1) → x2 = x4 → (3 * x4) + x1 < 36) ∧
      (∀ z32 : Int, z32 = (if x2 = (-1) then n 164 ((3 * x4) + x1) else (if x2 ≠ x4 then 0 else n 164 ((3 * x4) + x1))) → 
      (inI (x3 + z32)) ∧
      (inI (x4 + 1)) ∧
      Rn w mX12_world d G Q 50 [(0, vr 145), (1, vi x1), (2, vi x2), (3, vi (x3 + z32)), (4, vi (x4 + 1))] [] (B0, n))))) :
    Rn w mX12_world d G Q 50 [(0, vr 145), (1, vi x1), (2, vi x2), (3, vi x3), (4, vi x4)] [] (B0, n) := by
  refine r_iload dX12_world_50 rfl ?_
  refine r_aload_n dX12_world_52 rfl rfl ?_
  refine r_getI (fi := 37) dX12_world_53 fX12_70 ob_145 (by decide) (by decide) rfl ?_
  obtain ⟨V1, V2⟩ := V
  refine r_jge (tgt := 94) dX12_world_56 (by decide) (fun c21 => ?_) (fun c21 => ?_)
  · have V := V1 c21
    refine r_iload_n dX12_world_94 rfl rfl ?_
    exact r_iret dX12_world_95 rfl V
  · have V := V2 c21
    refine r_iload_n dX12_world_59 rfl rfl ?_
    refine r_iload_n dX12_world_60 rfl rfl ?_
    refine r_iconst (x := -1) dX12_world_61 rfl (by decide) ?_
    obtain ⟨s23, V⟩ := V
    obtain ⟨s24, V⟩ := V
    obtain ⟨s25, V⟩ := V
    obtain ⟨s26, V⟩ := V
    obtain ⟨s28, V⟩ := V
    obtain ⟨s29, V⟩ := V
    obtain ⟨s30, V⟩ := V
    obtain ⟨s31, V⟩ := V
    have K : ∀ z32 : Int, z32 = (if x2 = (-1) then n 164 ((3 * x4) + x1) else (if x2 ≠ x4 then 0 else n 164 ((3 * x4) + x1))) → Rn w mX12_world d G Q 86 [(0, vr 145), (1, vi x1), (2, vi x2), (4, vi x4)] [vi z32, vi x3] (B0, n) := by
      intro z32 ez32
      have V := V z32 ez32
      obtain ⟨s33, V⟩ := V
      refine r_iadd dX12_world_86 s33 ?_
      refine r_istore_n (ls' := [(0, vr 145), (1, vi x1), (2, vi x2), (3, vi (x3 + z32)), (4, vi x4)]) dX12_world_87 rfl (by decide) rfl ?_
      obtain ⟨s34, V⟩ := V
      refine r_iinc (y := x4 + 1) (ls' := [(0, vr 145), (1, vi x1), (2, vi x2), (3, vi (x3 + z32)), (4, vi (x4 + 1))]) dX12_world_88 rfl rfl s34 (by decide) rfl ?_
      refine r_goto (tgt := 50) dX12_world_91 (by decide) ?_
      exact V
    refine r_jeq (tgt := 71) dX12_world_62 (by decide) (fun c22 => ?_) (fun c22 => ?_)
    · refine r_aload_n dX12_world_71 rfl rfl ?_
      refine r_getR (b := 164) dX12_world_72 fX12_73 ob_145 (by decide) rfl rfl ?_
      refine r_iconst (x := 3) dX12_world_75 rfl (by decide) ?_
      refine r_iload dX12_world_76 rfl ?_
      refine r_imul dX12_world_78 (s23 c22) ?_
      refine r_iload_n dX12_world_79 rfl rfl ?_
      refine r_iadd dX12_world_80 (s24 c22) ?_
      refine r_iald dX12_world_81 ob_164 (s25 c22) (s26 c22) ?_
      refine r_goto (tgt := 86) dX12_world_82 (by decide) ?_
      refine r_pick [0, 1, 2, 4] (ls' := [(0, vr 145), (1, vi x1), (2, vi x2), (4, vi x4)]) rfl ?_
      exact K (n 164 ((3 * x4) + x1)) (by first | rfl | (simp only [if_pos c22]))
    · refine r_iload_n dX12_world_65 rfl rfl ?_
      refine r_iload dX12_world_66 rfl ?_
      refine r_jne (tgt := 85) dX12_world_68 (by decide) (fun c27 => ?_) (fun c27 => ?_)
      · refine r_iconst (x := 0) dX12_world_85 rfl (by decide) ?_
        refine r_pick [0, 1, 2, 4] (ls' := [(0, vr 145), (1, vi x1), (2, vi x2), (4, vi x4)]) rfl ?_
        exact K 0 (by first | rfl | (simp only [if_neg c22, if_pos c27]))
      · refine r_aload_n dX12_world_71 rfl rfl ?_
        refine r_getR (b := 164) dX12_world_72 fX12_73 ob_145 (by decide) rfl rfl ?_
        refine r_iconst (x := 3) dX12_world_75 rfl (by decide) ?_
        refine r_iload dX12_world_76 rfl ?_
        refine r_imul dX12_world_78 (s28 c22 c27) ?_
        refine r_iload_n dX12_world_79 rfl rfl ?_
        refine r_iadd dX12_world_80 (s29 c22 c27) ?_
        refine r_iald dX12_world_81 ob_164 (s30 c22 c27) (s31 c22 c27) ?_
        refine r_goto (tgt := 86) dX12_world_82 (by decide) ?_
        refine r_pick [0, 1, 2, 4] (ls' := [(0, vr 145), (1, vi x1), (2, vi x2), (4, vi x4)]) rfl ?_
        exact K (n 164 ((3 * x4) + x1)) (by first | rfl | (simp only [if_neg c22, if_neg (show ¬ (x2 ≠ x4) from not_not_intro c27)]))

theorem gX12_count_0 {w : WD} {d : Nat} {G : GM} {Q : Option AV → Hp → Prop} {n : NM} {x1 : Int}
    (V :
    (x1 = 6 →
      Q (some (vi (n 147 901))) (B0, upn n 145 0 0)) ∧
    (x1 = 10 →
      Q (some (vi (n 145 8))) (B0, upn n 145 0 0)) ∧
    (x1 = 11 →
      Q (some (vi (n 146 1))) (B0, upn n 145 0 0)) ∧
    (x1 = 12 →
      Q (some (vi (n 146 2))) (B0, upn n 145 0 0)) ∧
    (x1 = 13 →
      Q (some (vi (n 146 5))) (B0, upn n 145 0 0)) ∧
    (x1 = 14 →
      Q (some (vi (n 146 6))) (B0, upn n 145 0 0)) ∧
    (¬ x1 = 6 → ¬ x1 = 10 → ¬ x1 = 11 → ¬ x1 = 12 → ¬ x1 = 13 → ¬ x1 = 14 →
      (Ev w d 0 0 mX12_in [vl x1, vl 0, vl 9] (B0, upn n 145 0 0) (fun r h' => ∃ (x22 : Int) (n21 : NM), r = some (vi x22) ∧ h' = (B0, n21) ∧ 
        ((x22 = 0 →
          Q (some (vi (-1))) (B0, n21)) ∧
        (x22 ≠ 0 →
          (0 ≤ x1) ∧
          (x1 < 1800) ∧
          Q (some (vi (n21 147 x1))) (B0, n21))))))) :
    Rn w mX12_count (d + 1) G Q 0 [(0, vr 145), (1, vi x1)] [] (B0, n) := by
  refine r_aload_n dX12_count_0 rfl rfl ?_
  refine r_iconst (x := 0) dX12_count_1 rfl (by decide) ?_
  refine r_putI (fi := 0) (h' := (B0, upn n 145 0 0)) dX12_count_2 pX12_76 ob_145 (by decide) rfl rfl rfl ?_
  refine r_iload_n dX12_count_5 rfl rfl ?_
  obtain ⟨V0, V1, V2, V3, V4, V5, VD⟩ := V
  by_cases c0 : x1 = 6
  · have V := V0 c0
    refine r_tableIn (k := 6) (tgt := 56) dX12_count_6 c0 (by decide) (by decide) rfl (by decide) ?_
    refine r_aload_n dX12_count_56 rfl rfl ?_
    refine r_getR (b := 147) dX12_count_57 fX12_13 ob_145 (by decide) rfl rfl ?_
    refine r_sipush (x := 901) dX12_count_60 (by decide +kernel) (by decide) ?_
    refine r_iald dX12_count_63 ob_147 (by decide) (by decide) ?_
    show Rn w mX12_count (d + 1) G Q 64 [(0, vr 145), (1, vi x1)] [vi (n 147 901)] (B0, upn n 145 0 0)
    exact r_iret dX12_count_64 rfl V
  by_cases c1 : x1 = 10
  · have V := V1 c1
    refine r_tableIn (k := 10) (tgt := 65) dX12_count_6 c1 (by decide) (by decide) rfl (by decide) ?_
    refine r_aload_n dX12_count_65 rfl rfl ?_
    refine r_getI (fi := 8) dX12_count_66 fX12_134 ob_145 (by decide) (by decide) rfl ?_
    show Rn w mX12_count (d + 1) G Q 69 [(0, vr 145), (1, vi x1)] [vi (n 145 8)] (B0, upn n 145 0 0)
    exact r_iret dX12_count_69 rfl V
  by_cases c2 : x1 = 11
  · have V := V2 c2
    refine r_tableIn (k := 11) (tgt := 70) dX12_count_6 c2 (by decide) (by decide) rfl (by decide) ?_
    refine r_aload_n dX12_count_70 rfl rfl ?_
    refine r_getR (b := 146) dX12_count_71 fX12_7 ob_145 (by decide) rfl rfl ?_
    refine r_iconst (x := 1) dX12_count_74 rfl (by decide) ?_
    refine r_iald dX12_count_75 ob_146 (by decide) (by decide) ?_
    show Rn w mX12_count (d + 1) G Q 76 [(0, vr 145), (1, vi x1)] [vi (n 146 1)] (B0, upn n 145 0 0)
    exact r_iret dX12_count_76 rfl V
  by_cases c3 : x1 = 12
  · have V := V3 c3
    refine r_tableIn (k := 12) (tgt := 77) dX12_count_6 c3 (by decide) (by decide) rfl (by decide) ?_
    refine r_aload_n dX12_count_77 rfl rfl ?_
    refine r_getR (b := 146) dX12_count_78 fX12_7 ob_145 (by decide) rfl rfl ?_
    refine r_iconst (x := 2) dX12_count_81 rfl (by decide) ?_
    refine r_iald dX12_count_82 ob_146 (by decide) (by decide) ?_
    show Rn w mX12_count (d + 1) G Q 83 [(0, vr 145), (1, vi x1)] [vi (n 146 2)] (B0, upn n 145 0 0)
    exact r_iret dX12_count_83 rfl V
  by_cases c4 : x1 = 13
  · have V := V4 c4
    refine r_tableIn (k := 13) (tgt := 84) dX12_count_6 c4 (by decide) (by decide) rfl (by decide) ?_
    refine r_aload_n dX12_count_84 rfl rfl ?_
    refine r_getR (b := 146) dX12_count_85 fX12_7 ob_145 (by decide) rfl rfl ?_
    refine r_iconst (x := 5) dX12_count_88 rfl (by decide) ?_
    refine r_iald dX12_count_89 ob_146 (by decide) (by decide) ?_
    show Rn w mX12_count (d + 1) G Q 90 [(0, vr 145), (1, vi x1)] [vi (n 146 5)] (B0, upn n 145 0 0)
    exact r_iret dX12_count_90 rfl V
  by_cases c5 : x1 = 14
  · have V := V5 c5
    refine r_tableIn (k := 14) (tgt := 91) dX12_count_6 c5 (by decide) (by decide) rfl (by decide) ?_
    refine r_aload_n dX12_count_91 rfl rfl ?_
    refine r_getR (b := 146) dX12_count_92 fX12_7 ob_145 (by decide) rfl rfl ?_
    refine r_bipush (x := 6) dX12_count_95 (by decide +kernel) (by decide) ?_
    refine r_iald dX12_count_97 ob_146 (by decide) (by decide) ?_
    show Rn w mX12_count (d + 1) G Q 98 [(0, vr 145), (1, vi x1)] [vi (n 146 6)] (B0, upn n 145 0 0)
    exact r_iret dX12_count_98 rfl V
  have V := VD c0 c1 c2 c3 c4 c5
  by_cases e0 : x1 = 7
  · refine r_tableIn (k := 7) (tgt := 99) dX12_count_6 e0 (by decide) (by decide) rfl (by decide) ?_
    refine r_iload_n dX12_count_99 rfl rfl ?_
    refine r_i2l dX12_count_100 ?_
    refine r_lconst (x := 0) dX12_count_101 rfl (by decide) ?_
    refine r_ldc2 (x := 9) dX12_count_102 qX12_102 (by decide) ?_
    refine r_callS (args := [vl x1, vl 0, vl 9]) dX12_count_105 kX12_82 rfl rfl (Nat.le_of_ble_eq_true rfl) cap0 (Ev.mono V ?_)
    rintro r h' ⟨x22, n21, rfl, rfl, V⟩
    show Rn w mX12_count (d + 1) G Q 108 [(0, vr 145), (1, vi x1)] [vi x22] (B0, n21)
    obtain ⟨V1, V2⟩ := V
    refine r_zeq (tgt := 120) dX12_count_108 (by decide) (fun c23 => ?_) (fun c23 => ?_)
    · have V := V1 c23
      refine r_iconst (x := -1) dX12_count_120 rfl (by decide) ?_
      exact r_iret dX12_count_121 rfl V
    · have V := V2 c23
      refine r_aload_n dX12_count_111 rfl rfl ?_
      refine r_getR (b := 147) dX12_count_112 fX12_13 ob_145 (by decide) rfl rfl ?_
      refine r_iload_n dX12_count_115 rfl rfl ?_
      obtain ⟨s24, V⟩ := V
      obtain ⟨s25, V⟩ := V
      refine r_iald dX12_count_116 ob_147 s24 s25 ?_
      refine r_goto (tgt := 121) dX12_count_117 (by decide) ?_
      exact r_iret dX12_count_121 rfl V
  by_cases e1 : x1 = 8
  · refine r_tableIn (k := 8) (tgt := 99) dX12_count_6 e1 (by decide) (by decide) rfl (by decide) ?_
    refine r_iload_n dX12_count_99 rfl rfl ?_
    refine r_i2l dX12_count_100 ?_
    refine r_lconst (x := 0) dX12_count_101 rfl (by decide) ?_
    refine r_ldc2 (x := 9) dX12_count_102 qX12_102 (by decide) ?_
    refine r_callS (args := [vl x1, vl 0, vl 9]) dX12_count_105 kX12_82 rfl rfl (Nat.le_of_ble_eq_true rfl) cap0 (Ev.mono V ?_)
    rintro r h' ⟨x22, n21, rfl, rfl, V⟩
    show Rn w mX12_count (d + 1) G Q 108 [(0, vr 145), (1, vi x1)] [vi x22] (B0, n21)
    obtain ⟨V1, V2⟩ := V
    refine r_zeq (tgt := 120) dX12_count_108 (by decide) (fun c23 => ?_) (fun c23 => ?_)
    · have V := V1 c23
      refine r_iconst (x := -1) dX12_count_120 rfl (by decide) ?_
      exact r_iret dX12_count_121 rfl V
    · have V := V2 c23
      refine r_aload_n dX12_count_111 rfl rfl ?_
      refine r_getR (b := 147) dX12_count_112 fX12_13 ob_145 (by decide) rfl rfl ?_
      refine r_iload_n dX12_count_115 rfl rfl ?_
      obtain ⟨s24, V⟩ := V
      obtain ⟨s25, V⟩ := V
      refine r_iald dX12_count_116 ob_147 s24 s25 ?_
      refine r_goto (tgt := 121) dX12_count_117 (by decide) ?_
      exact r_iret dX12_count_121 rfl V
  by_cases e2 : x1 = 9
  · refine r_tableIn (k := 9) (tgt := 99) dX12_count_6 e2 (by decide) (by decide) rfl (by decide) ?_
    refine r_iload_n dX12_count_99 rfl rfl ?_
    refine r_i2l dX12_count_100 ?_
    refine r_lconst (x := 0) dX12_count_101 rfl (by decide) ?_
    refine r_ldc2 (x := 9) dX12_count_102 qX12_102 (by decide) ?_
    refine r_callS (args := [vl x1, vl 0, vl 9]) dX12_count_105 kX12_82 rfl rfl (Nat.le_of_ble_eq_true rfl) cap0 (Ev.mono V ?_)
    rintro r h' ⟨x22, n21, rfl, rfl, V⟩
    show Rn w mX12_count (d + 1) G Q 108 [(0, vr 145), (1, vi x1)] [vi x22] (B0, n21)
    obtain ⟨V1, V2⟩ := V
    refine r_zeq (tgt := 120) dX12_count_108 (by decide) (fun c23 => ?_) (fun c23 => ?_)
    · have V := V1 c23
      refine r_iconst (x := -1) dX12_count_120 rfl (by decide) ?_
      exact r_iret dX12_count_121 rfl V
    · have V := V2 c23
      refine r_aload_n dX12_count_111 rfl rfl ?_
      refine r_getR (b := 147) dX12_count_112 fX12_13 ob_145 (by decide) rfl rfl ?_
      refine r_iload_n dX12_count_115 rfl rfl ?_
      obtain ⟨s24, V⟩ := V
      obtain ⟨s25, V⟩ := V
      refine r_iald dX12_count_116 ob_147 s24 s25 ?_
      refine r_goto (tgt := 121) dX12_count_117 (by decide) ?_
      exact r_iret dX12_count_121 rfl V
  refine r_tableOut (tgt := 99) dX12_count_6 (by omega) (by decide) ?_
  refine r_iload_n dX12_count_99 rfl rfl ?_
  refine r_i2l dX12_count_100 ?_
  refine r_lconst (x := 0) dX12_count_101 rfl (by decide) ?_
  refine r_ldc2 (x := 9) dX12_count_102 qX12_102 (by decide) ?_
  refine r_callS (args := [vl x1, vl 0, vl 9]) dX12_count_105 kX12_82 rfl rfl (Nat.le_of_ble_eq_true rfl) cap0 (Ev.mono V ?_)
  rintro r h' ⟨x22, n21, rfl, rfl, V⟩
  show Rn w mX12_count (d + 1) G Q 108 [(0, vr 145), (1, vi x1)] [vi x22] (B0, n21)
  obtain ⟨V1, V2⟩ := V
  refine r_zeq (tgt := 120) dX12_count_108 (by decide) (fun c23 => ?_) (fun c23 => ?_)
  · have V := V1 c23
    refine r_iconst (x := -1) dX12_count_120 rfl (by decide) ?_
    exact r_iret dX12_count_121 rfl V
  · have V := V2 c23
    refine r_aload_n dX12_count_111 rfl rfl ?_
    refine r_getR (b := 147) dX12_count_112 fX12_13 ob_145 (by decide) rfl rfl ?_
    refine r_iload_n dX12_count_115 rfl rfl ?_
    obtain ⟨s24, V⟩ := V
    obtain ⟨s25, V⟩ := V
    refine r_iald dX12_count_116 ob_147 s24 s25 ?_
    refine r_goto (tgt := 121) dX12_count_117 (by decide) ?_
    exact r_iret dX12_count_121 rfl V

theorem gX12_status_0 {w : WD} {d : Nat} {G : GM} {Q : Option AV → Hp → Prop} {n : NM}
    (V :
    Q (some (vi (n 145 1))) (B0, upn n 145 0 0)) :
    Rn w mX12_status d G Q 0 [(0, vr 145)] [] (B0, n) := by
  refine r_aload_n dX12_status_0 rfl rfl ?_
  refine r_iconst (x := 0) dX12_status_1 rfl (by decide) ?_
  refine r_putI (fi := 0) (h' := (B0, upn n 145 0 0)) dX12_status_2 pX12_76 ob_145 (by decide) rfl rfl rfl ?_
  refine r_aload_n dX12_status_5 rfl rfl ?_
  refine r_getI (fi := 1) dX12_status_6 fX12_79 ob_145 (by decide) (by decide) rfl ?_
  show Rn w mX12_status d G Q 9 [(0, vr 145)] [vi (n 145 1)] (B0, upn n 145 0 0)
  exact r_iret dX12_status_9 rfl V
