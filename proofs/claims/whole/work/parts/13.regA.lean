theorem gJ7_fill_d0a16_0 {w : WD} {d : Nat} {G : GM} {Q : Option AV → Hp → Prop} {B : HB} {a L : Nat} {n : NM} {x1 : Int} (oa : Obj B a 101 L)
    (V :
    (inI (L : Int)) ∧
    Rn w mJ7_fill_d0a16 d G Q 6 [(0, vr a), (1, vl x1), (3, vi 0), (4, vi (L : Int))] [] (B, n)) :
    Rn w mJ7_fill_d0a16 d G Q 0 [(0, vr a), (1, vl x1)] [] (B, n) := by
  refine r_iconst (x := 0) dJ7_fill_d0a16_0 rfl (by decide) ?_
  refine r_istore_n (ls' := [(0, vr a), (1, vl x1), (3, vi 0)]) dJ7_fill_d0a16_1 rfl (by decide) rfl ?_
  refine r_aload_n dJ7_fill_d0a16_2 rfl rfl ?_
  obtain ⟨s21, V⟩ := V
  refine r_alen (c := 1) (x := (L : Int)) dJ7_fill_d0a16_3 oa (by decide) rfl s21 ?_
  refine r_istore (ls' := [(0, vr a), (1, vl x1), (3, vi 0), (4, vi (L : Int))]) dJ7_fill_d0a16_4 (by decide) rfl ?_
  exact V

theorem gJ7_fill_d0a16_6 {w : WD} {d : Nat} {G : GM} {Q : Option AV → Hp → Prop} {B : HB} {a L : Nat} {n : NM} {x1 x3 x4 : Int} (oa : Obj B a 101 L)
    (V :
    ((x4 ≤ x3 →
      Q none (B, n)) ∧
    (x3 < x4 →
      (0 ≤ x3) ∧
      (x3 < L) ∧
      (inI (x3 + 1)) ∧
      Rn w mJ7_fill_d0a16 d G Q 6 [(0, vr a), (1, vl x1), (3, vi (x3 + 1)), (4, vi x4)] [] (B, upn n a x3 x1)))) :
    Rn w mJ7_fill_d0a16 d G Q 6 [(0, vr a), (1, vl x1), (3, vi x3), (4, vi x4)] [] (B, n) := by
  refine r_iload_n dJ7_fill_d0a16_6 rfl rfl ?_
  refine r_iload dJ7_fill_d0a16_7 rfl ?_
  obtain ⟨V1, V2⟩ := V
  refine r_jge (tgt := 22) dJ7_fill_d0a16_9 (by decide) (fun c21 => ?_) (fun c21 => ?_)
  · have V := V1 c21
    exact r_ret dJ7_fill_d0a16_22 rfl V
  · have V := V2 c21
    refine r_aload_n dJ7_fill_d0a16_12 rfl rfl ?_
    refine r_iload_n dJ7_fill_d0a16_13 rfl rfl ?_
    refine r_lload_n dJ7_fill_d0a16_14 rfl rfl ?_
    obtain ⟨s22, V⟩ := V
    obtain ⟨s23, V⟩ := V
    refine r_last (h' := (B, upn n a x3 x1)) dJ7_fill_d0a16_15 oa s22 s23 rfl ?_
    obtain ⟨s24, V⟩ := V
    refine r_iinc (y := x3 + 1) (ls' := [(0, vr a), (1, vl x1), (3, vi (x3 + 1)), (4, vi x4)]) dJ7_fill_d0a16_16 rfl rfl s24 (by decide) rfl ?_
    refine r_goto (tgt := 6) dJ7_fill_d0a16_19 (by decide) ?_
    exact V

theorem gJ7_fill_53178_0 {w : WD} {d : Nat} {G : GM} {Q : Option AV → Hp → Prop} {B : HB} {a L : Nat} {n : NM} {x1 : Int} (oa : Obj B a 100 L)
    (V :
    (inI (L : Int)) ∧
    Rn w mJ7_fill_53178 d G Q 5 [(0, vr a), (1, vi x1), (2, vi 0), (3, vi (L : Int))] [] (B, n)) :
    Rn w mJ7_fill_53178 d G Q 0 [(0, vr a), (1, vi x1)] [] (B, n) := by
  refine r_iconst (x := 0) dJ7_fill_53178_0 rfl (by decide) ?_
  refine r_istore_n (ls' := [(0, vr a), (1, vi x1), (2, vi 0)]) dJ7_fill_53178_1 rfl (by decide) rfl ?_
  refine r_aload_n dJ7_fill_53178_2 rfl rfl ?_
  obtain ⟨s21, V⟩ := V
  refine r_alen (c := 0) (x := (L : Int)) dJ7_fill_53178_3 oa (by decide) rfl s21 ?_
  refine r_istore_n (ls' := [(0, vr a), (1, vi x1), (2, vi 0), (3, vi (L : Int))]) dJ7_fill_53178_4 rfl (by decide) rfl ?_
  exact V

theorem gJ7_fill_53178_5 {w : WD} {d : Nat} {G : GM} {Q : Option AV → Hp → Prop} {B : HB} {a L : Nat} {n : NM} {x1 x2 x3 : Int} (oa : Obj B a 100 L)
    (V :
    ((x3 ≤ x2 →
      Q none (B, n)) ∧
    (x2 < x3 →
      (0 ≤ x2) ∧
      (x2 < L) ∧
      (inI (x2 + 1)) ∧
      Rn w mJ7_fill_53178 d G Q 5 [(0, vr a), (1, vi x1), (2, vi (x2 + 1)), (3, vi x3)] [] (B, upn n a x2 x1)))) :
    Rn w mJ7_fill_53178 d G Q 5 [(0, vr a), (1, vi x1), (2, vi x2), (3, vi x3)] [] (B, n) := by
  refine r_iload_n dJ7_fill_53178_5 rfl rfl ?_
  refine r_iload_n dJ7_fill_53178_6 rfl rfl ?_
  obtain ⟨V1, V2⟩ := V
  refine r_jge (tgt := 20) dJ7_fill_53178_7 (by decide) (fun c21 => ?_) (fun c21 => ?_)
  · have V := V1 c21
    exact r_ret dJ7_fill_53178_20 rfl V
  · have V := V2 c21
    refine r_aload_n dJ7_fill_53178_10 rfl rfl ?_
    refine r_iload_n dJ7_fill_53178_11 rfl rfl ?_
    refine r_iload_n dJ7_fill_53178_12 rfl rfl ?_
    obtain ⟨s22, V⟩ := V
    obtain ⟨s23, V⟩ := V
    refine r_iast (h' := (B, upn n a x2 x1)) dJ7_fill_53178_13 oa s22 s23 rfl ?_
    obtain ⟨s24, V⟩ := V
    refine r_iinc (y := x2 + 1) (ls' := [(0, vr a), (1, vi x1), (2, vi (x2 + 1)), (3, vi x3)]) dJ7_fill_53178_14 rfl rfl s24 (by decide) rfl ?_
    refine r_goto (tgt := 5) dJ7_fill_53178_17 (by decide) ?_
    exact V
theorem gX7_size_0 {w : WD} {d : Nat} {G : GM} {Q : Option AV → Hp → Prop} {B : HB} {t c L : Nat} {n : NM} (ot : Obj B t 7 4) (rt : rf B t 0 = some c) (oc : Obj B c 100 L)
    (V :
    Q (some (vi (n t 3))) (B, n)) :
    Rn w mX7_size d G Q 0 [(0, vr t)] [] (B, n) := by
  refine r_aload_n dX7_size_0 rfl rfl ?_
  refine r_getI (fi := 3) dX7_size_1 fX7_9 ot (by decide) (by decide) rfl ?_
  exact r_iret dX7_size_4 rfl V

theorem gX7_isFull_0 {w : WD} {d : Nat} {G : GM} {Q : Option AV → Hp → Prop} {B : HB} {t c L : Nat} {n : NM} (ot : Obj B t 7 4) (rt : rf B t 0 = some c) (oc : Obj B c 100 L)
    (V :
    ((n t 3 < n t 2 →
      Q (some (vi 0)) (B, n)) ∧
    (n t 2 ≤ n t 3 →
      Q (some (vi 1)) (B, n)))) :
    Rn w mX7_isFull d G Q 0 [(0, vr t)] [] (B, n) := by
  refine r_aload_n dX7_isFull_0 rfl rfl ?_
  refine r_getI (fi := 3) dX7_isFull_1 fX7_9 ot (by decide) (by decide) rfl ?_
  refine r_aload_n dX7_isFull_4 rfl rfl ?_
  refine r_getI (fi := 2) dX7_isFull_5 fX7_21 ot (by decide) (by decide) rfl ?_
  obtain ⟨V1, V2⟩ := V
  refine r_jlt (tgt := 15) dX7_isFull_8 (by decide) (fun c21 => ?_) (fun c21 => ?_)
  · have V := V1 c21
    refine r_iconst (x := 0) dX7_isFull_15 rfl (by decide) ?_
    exact r_zret dX7_isFull_16 rfl (by decide) V
  · have V := V2 c21
    refine r_iconst (x := 1) dX7_isFull_11 rfl (by decide) ?_
    refine r_goto (tgt := 16) dX7_isFull_12 (by decide) ?_
    exact r_zret dX7_isFull_16 rfl (by decide) V

theorem gX7_holds_0 {w : WD} {d : Nat} {G : GM} {Q : Option AV → Hp → Prop} {B : HB} {t c L : Nat} {n : NM} {x1 : Int} (ot : Obj B t 7 4) (rt : rf B t 0 = some c) (oc : Obj B c 100 L)
    (V :
    ((x1 < 0 →
      Q (some (vi 0)) (B, n)) ∧
    (0 ≤ x1 →
      ((n t 3 ≤ x1 →
        Q (some (vi 0)) (B, n)) ∧
      (x1 < n t 3 →
        Q (some (vi 1)) (B, n)))))) :
    Rn w mX7_holds d G Q 0 [(0, vr t), (1, vi x1)] [] (B, n) := by
  refine r_iload_n dX7_holds_0 rfl rfl ?_
  obtain ⟨V1, V2⟩ := V
  refine r_zlt (tgt := 16) dX7_holds_1 (by decide) (fun c21 => ?_) (fun c21 => ?_)
  · have V := V1 c21
    refine r_iconst (x := 0) dX7_holds_16 rfl (by decide) ?_
    exact r_zret dX7_holds_17 rfl (by decide) V
  · have V := V2 c21
    refine r_iload_n dX7_holds_4 rfl rfl ?_
    refine r_aload_n dX7_holds_5 rfl rfl ?_
    refine r_getI (fi := 3) dX7_holds_6 fX7_9 ot (by decide) (by decide) rfl ?_
    obtain ⟨V1, V2⟩ := V
    refine r_jge (tgt := 16) dX7_holds_9 (by decide) (fun c22 => ?_) (fun c22 => ?_)
    · have V := V1 c22
      refine r_iconst (x := 0) dX7_holds_16 rfl (by decide) ?_
      exact r_zret dX7_holds_17 rfl (by decide) V
    · have V := V2 c22
      refine r_iconst (x := 1) dX7_holds_12 rfl (by decide) ?_
      refine r_goto (tgt := 17) dX7_holds_13 (by decide) ?_
      exact r_zret dX7_holds_17 rfl (by decide) V

theorem gX7_get_0 {w : WD} {d : Nat} {G : GM} {Q : Option AV → Hp → Prop} {B : HB} {t c L : Nat} {n : NM} {x1 x2 : Int} (ot : Obj B t 7 4) (rt : rf B t 0 = some c) (oc : Obj B c 100 L)
    (V :
    (Ev w d 0 0 mX7_isCell [vr t, vi x1, vi x2] (B, n) (fun r h' => ∃ (x22 : Int) (n21 : NM), r = some (vi x22) ∧ h' = (B, n21) ∧ 
      ((x22 = 0 →
        Q (some (vi 0)) (B, n21)) ∧
      (x22 ≠ 0 →
        (inI (x1 * (n21 t 1))) ∧
        (inI ((x1 * (n21 t 1)) + x2)) ∧
        (0 ≤ (x1 * (n21 t 1)) + x2) ∧
        ((x1 * (n21 t 1)) + x2 < L) ∧
        Q (some (vi (n21 c ((x1 * (n21 t 1)) + x2)))) (B, n21)))))) :
    Rn w mX7_get (d + 1) G Q 0 [(0, vr t), (1, vi x1), (2, vi x2)] [] (B, n) := by
  refine r_aload_n dX7_get_0 rfl rfl ?_
  refine r_iload_n dX7_get_1 rfl rfl ?_
  refine r_iload_n dX7_get_2 rfl rfl ?_
  refine r_callV (args := [vi x1, vi x2]) dX7_get_3 kX7_31 ot ⟨_, _, rfl⟩ (by decide) rfl rfl (Nat.le_of_ble_eq_true rfl) cap0 (Ev.mono V ?_)
  rintro r h' ⟨x22, n21, rfl, rfl, V⟩
  show Rn w mX7_get (d + 1) G Q 6 [(0, vr t), (1, vi x1), (2, vi x2)] [vi x22] (B, n21)
  obtain ⟨V1, V2⟩ := V
  refine r_zeq (tgt := 25) dX7_get_6 (by decide) (fun c23 => ?_) (fun c23 => ?_)
  · have V := V1 c23
    refine r_iconst (x := 0) dX7_get_25 rfl (by decide) ?_
    exact r_iret dX7_get_26 rfl V
  · have V := V2 c23
    refine r_aload_n dX7_get_9 rfl rfl ?_
    refine r_getR (b := c) dX7_get_10 fX7_27 ot (by decide) rfl rt ?_
    refine r_iload_n dX7_get_13 rfl rfl ?_
    refine r_aload_n dX7_get_14 rfl rfl ?_
    refine r_getI (fi := 1) dX7_get_15 fX7_24 ot (by decide) (by decide) rfl ?_
    obtain ⟨s24, V⟩ := V
    refine r_imul dX7_get_18 s24 ?_
    refine r_iload_n dX7_get_19 rfl rfl ?_
    obtain ⟨s25, V⟩ := V
    refine r_iadd dX7_get_20 s25 ?_
    obtain ⟨s26, V⟩ := V
    obtain ⟨s27, V⟩ := V
    refine r_iald dX7_get_21 oc s26 s27 ?_
    refine r_goto (tgt := 26) dX7_get_22 (by decide) ?_
    exact r_iret dX7_get_26 rfl V

theorem gX7_set_0 {w : WD} {d : Nat} {G : GM} {Q : Option AV → Hp → Prop} {B : HB} {t c L : Nat} {n : NM} {x1 x2 x3 : Int} (ot : Obj B t 7 4) (rt : rf B t 0 = some c) (oc : Obj B c 100 L)
    (V :
    (Ev w d 0 0 mX7_isCell [vr t, vi x1, vi x2] (B, n) (fun r h' => ∃ (x22 : Int) (n21 : NM), r = some (vi x22) ∧ h' = (B, n21) ∧ 
      ((x22 = 0 →
        Q none (B, n21)) ∧
      (x22 ≠ 0 →
        (inI (x1 * (n21 t 1))) ∧
        (inI ((x1 * (n21 t 1)) + x2)) ∧
        (0 ≤ (x1 * (n21 t 1)) + x2) ∧
        ((x1 * (n21 t 1)) + x2 < L) ∧
        Q none (B, upn n21 c ((x1 * (n21 t 1)) + x2) x3)))))) :
    Rn w mX7_set (d + 1) G Q 0 [(0, vr t), (1, vi x1), (2, vi x2), (3, vi x3)] [] (B, n) := by
  refine r_aload_n dX7_set_0 rfl rfl ?_
  refine r_iload_n dX7_set_1 rfl rfl ?_
  refine r_iload_n dX7_set_2 rfl rfl ?_
  refine r_callV (args := [vi x1, vi x2]) dX7_set_3 kX7_31 ot ⟨_, _, rfl⟩ (by decide) rfl rfl (Nat.le_of_ble_eq_true rfl) cap0 (Ev.mono V ?_)
  rintro r h' ⟨x22, n21, rfl, rfl, V⟩
  show Rn w mX7_set (d + 1) G Q 6 [(0, vr t), (1, vi x1), (2, vi x2), (3, vi x3)] [vi x22] (B, n21)
  obtain ⟨V1, V2⟩ := V
  refine r_zeq (tgt := 23) dX7_set_6 (by decide) (fun c23 => ?_) (fun c23 => ?_)
  · have V := V1 c23
    exact r_ret dX7_set_23 rfl V
  · have V := V2 c23
    refine r_aload_n dX7_set_9 rfl rfl ?_
    refine r_getR (b := c) dX7_set_10 fX7_27 ot (by decide) rfl rt ?_
    refine r_iload_n dX7_set_13 rfl rfl ?_
    refine r_aload_n dX7_set_14 rfl rfl ?_
    refine r_getI (fi := 1) dX7_set_15 fX7_24 ot (by decide) (by decide) rfl ?_
    obtain ⟨s24, V⟩ := V
    refine r_imul dX7_set_18 s24 ?_
    refine r_iload_n dX7_set_19 rfl rfl ?_
    obtain ⟨s25, V⟩ := V
    refine r_iadd dX7_set_20 s25 ?_
    refine r_iload_n dX7_set_21 rfl rfl ?_
    obtain ⟨s26, V⟩ := V
    obtain ⟨s27, V⟩ := V
    refine r_iast (h' := (B, upn n21 c ((x1 * (n21 t 1)) + x2) x3)) dX7_set_22 oc s26 s27 rfl ?_
    exact r_ret dX7_set_23 rfl V

theorem gX7_exchange_0 {w : WD} {d : Nat} {G : GM} {Q : Option AV → Hp → Prop} {B : HB} {t c L : Nat} {n : NM} {x1 x2 x3 : Int} (ot : Obj B t 7 4) (rt : rf B t 0 = some c) (oc : Obj B c 100 L)
    (V :
    (Ev w d 0 0 mX7_get [vr t, vi x1, vi x2] (B, n) (fun r h' => ∃ (x22 : Int) (n21 : NM), r = some (vi x22) ∧ h' = (B, n21) ∧ 
      (Ev w d 0 0 mX7_set [vr t, vi x1, vi x2, vi x3] (B, n21) (fun r h' => ∃ n23 : NM, r = none ∧ h' = (B, n23) ∧ 
        Q (some (vi x22)) (B, n23)))))) :
    Rn w mX7_exchange (d + 1) G Q 0 [(0, vr t), (1, vi x1), (2, vi x2), (3, vi x3)] [] (B, n) := by
  refine r_aload_n dX7_exchange_0 rfl rfl ?_
  refine r_iload_n dX7_exchange_1 rfl rfl ?_
  refine r_iload_n dX7_exchange_2 rfl rfl ?_
  refine r_callV (args := [vi x1, vi x2]) dX7_exchange_3 kX7_35 ot ⟨_, _, rfl⟩ (by decide) rfl rfl (Nat.le_of_ble_eq_true rfl) cap0 (Ev.mono V ?_)
  rintro r h' ⟨x22, n21, rfl, rfl, V⟩
  show Rn w mX7_exchange (d + 1) G Q 6 [(0, vr t), (1, vi x1), (2, vi x2), (3, vi x3)] [vi x22] (B, n21)
  refine r_istore (ls' := [(0, vr t), (1, vi x1), (2, vi x2), (3, vi x3), (4, vi x22)]) dX7_exchange_6 (by decide) rfl ?_
  refine r_aload_n dX7_exchange_8 rfl rfl ?_
  refine r_iload_n dX7_exchange_9 rfl rfl ?_
  refine r_iload_n dX7_exchange_10 rfl rfl ?_
  refine r_iload_n dX7_exchange_11 rfl rfl ?_
  refine r_callV (args := [vi x1, vi x2, vi x3]) dX7_exchange_12 kX7_38 ot ⟨_, _, rfl⟩ (by decide) rfl rfl (Nat.le_of_ble_eq_true rfl) cap0 (Ev.mono V ?_)
  rintro r h' ⟨n23, rfl, rfl, V⟩
  show Rn w mX7_exchange (d + 1) G Q 15 [(0, vr t), (1, vi x1), (2, vi x2), (3, vi x3), (4, vi x22)] [] (B, n23)
  refine r_iload dX7_exchange_15 rfl ?_
  exact r_iret dX7_exchange_17 rfl V

theorem gX7_add_0 {w : WD} {d : Nat} {G : GM} {Q : Option AV → Hp → Prop} {B : HB} {t c L : Nat} {n : NM} {x1 x2 x3 x4 : Int} (ot : Obj B t 7 4) (rt : rf B t 0 = some c) (oc : Obj B c 100 L)
    (V :
    (Ev w d 0 0 mX7_isFull [vr t] (B, n) (fun r h' => ∃ (x22 : Int) (n21 : NM), r = some (vi x22) ∧ h' = (B, n21) ∧ 
      ((x22 = 0 →
        (inI ((n21 t 3) + 1)) ∧
        (Ev w d 0 0 mX7_set [vr t, vi (n21 t 3), vi 0, vi x1] (B, upn n21 t 3 ((n21 t 3) + 1)) (fun r h' => ∃ n25 : NM, r = none ∧ h' = (B, n25) ∧ 
          (Ev w d 0 0 mX7_set [vr t, vi (n21 t 3), vi 1, vi x2] (B, n25) (fun r h' => ∃ n26 : NM, r = none ∧ h' = (B, n26) ∧ 
            (Ev w d 0 0 mX7_set [vr t, vi (n21 t 3), vi 2, vi x3] (B, n26) (fun r h' => ∃ n27 : NM, r = none ∧ h' = (B, n27) ∧ 
              (Ev w d 0 0 mX7_set [vr t, vi (n21 t 3), vi 3, vi x4] (B, n27) (fun r h' => ∃ n28 : NM, r = none ∧ h' = (B, n28) ∧ 
                Q (some (vi (n21 t 3))) (B, n28)))))))))) ∧
      (x22 ≠ 0 →
        Q (some (vi (-1))) (B, n21)))))) :
    Rn w mX7_add (d + 1) G Q 0 [(0, vr t), (1, vi x1), (2, vi x2), (3, vi x3), (4, vi x4)] [] (B, n) := by
  refine r_aload_n dX7_add_0 rfl rfl ?_
  refine r_callV (args := []) dX7_add_1 kX7_42 ot ⟨_, _, rfl⟩ (by decide) rfl rfl (Nat.le_of_ble_eq_true rfl) cap0 (Ev.mono V ?_)
  rintro r h' ⟨x22, n21, rfl, rfl, V⟩
  show Rn w mX7_add (d + 1) G Q 4 [(0, vr t), (1, vi x1), (2, vi x2), (3, vi x3), (4, vi x4)] [vi x22] (B, n21)
  obtain ⟨V1, V2⟩ := V
  refine r_zeq (tgt := 9) dX7_add_4 (by decide) (fun c23 => ?_) (fun c23 => ?_)
  · have V := V1 c23
    refine r_aload_n dX7_add_9 rfl rfl ?_
    refine r_getI (fi := 3) dX7_add_10 fX7_9 ot (by decide) (by decide) rfl ?_
    refine r_istore (ls' := [(0, vr t), (1, vi x1), (2, vi x2), (3, vi x3), (4, vi x4), (5, vi (n21 t 3))]) dX7_add_13 (by decide) rfl ?_
    refine r_aload_n dX7_add_15 rfl rfl ?_
    refine r_dup dX7_add_16 rfl ?_
    refine r_getI (fi := 3) dX7_add_17 fX7_9 ot (by decide) (by decide) rfl ?_
    refine r_iconst (x := 1) dX7_add_20 rfl (by decide) ?_
    obtain ⟨s24, V⟩ := V
    refine r_iadd dX7_add_21 s24 ?_
    refine r_putI (fi := 3) (h' := (B, upn n21 t 3 ((n21 t 3) + 1))) dX7_add_22 pX7_9 ot (by decide) rfl rfl rfl ?_
    refine r_aload_n dX7_add_25 rfl rfl ?_
    refine r_iload dX7_add_26 rfl ?_
    refine r_iconst (x := 0) dX7_add_28 rfl (by decide) ?_
    refine r_iload_n dX7_add_29 rfl rfl ?_
    refine r_callV (args := [vi (n21 t 3), vi 0, vi x1]) dX7_add_30 kX7_38 ot ⟨_, _, rfl⟩ (by decide) rfl rfl (Nat.le_of_ble_eq_true rfl) cap0 (Ev.mono V ?_)
    rintro r h' ⟨n25, rfl, rfl, V⟩
    show Rn w mX7_add (d + 1) G Q 33 [(0, vr t), (1, vi x1), (2, vi x2), (3, vi x3), (4, vi x4), (5, vi (n21 t 3))] [] (B, n25)
    refine r_aload_n dX7_add_33 rfl rfl ?_
    refine r_iload dX7_add_34 rfl ?_
    refine r_iconst (x := 1) dX7_add_36 rfl (by decide) ?_
    refine r_iload_n dX7_add_37 rfl rfl ?_
    refine r_callV (args := [vi (n21 t 3), vi 1, vi x2]) dX7_add_38 kX7_38 ot ⟨_, _, rfl⟩ (by decide) rfl rfl (Nat.le_of_ble_eq_true rfl) cap0 (Ev.mono V ?_)
    rintro r h' ⟨n26, rfl, rfl, V⟩
    show Rn w mX7_add (d + 1) G Q 41 [(0, vr t), (1, vi x1), (2, vi x2), (3, vi x3), (4, vi x4), (5, vi (n21 t 3))] [] (B, n26)
    refine r_aload_n dX7_add_41 rfl rfl ?_
    refine r_iload dX7_add_42 rfl ?_
    refine r_iconst (x := 2) dX7_add_44 rfl (by decide) ?_
    refine r_iload_n dX7_add_45 rfl rfl ?_
    refine r_callV (args := [vi (n21 t 3), vi 2, vi x3]) dX7_add_46 kX7_38 ot ⟨_, _, rfl⟩ (by decide) rfl rfl (Nat.le_of_ble_eq_true rfl) cap0 (Ev.mono V ?_)
    rintro r h' ⟨n27, rfl, rfl, V⟩
    show Rn w mX7_add (d + 1) G Q 49 [(0, vr t), (1, vi x1), (2, vi x2), (3, vi x3), (4, vi x4), (5, vi (n21 t 3))] [] (B, n27)
    refine r_aload_n dX7_add_49 rfl rfl ?_
    refine r_iload dX7_add_50 rfl ?_
    refine r_iconst (x := 3) dX7_add_52 rfl (by decide) ?_
    refine r_iload dX7_add_53 rfl ?_
    refine r_callV (args := [vi (n21 t 3), vi 3, vi x4]) dX7_add_55 kX7_38 ot ⟨_, _, rfl⟩ (by decide) rfl rfl (Nat.le_of_ble_eq_true rfl) cap0 (Ev.mono V ?_)
    rintro r h' ⟨n28, rfl, rfl, V⟩
    show Rn w mX7_add (d + 1) G Q 58 [(0, vr t), (1, vi x1), (2, vi x2), (3, vi x3), (4, vi x4), (5, vi (n21 t 3))] [] (B, n28)
    refine r_iload dX7_add_58 rfl ?_
    exact r_iret dX7_add_60 rfl V
  · have V := V2 c23
    refine r_iconst (x := -1) dX7_add_7 rfl (by decide) ?_
    exact r_iret dX7_add_8 rfl V

theorem gX7_fill_0 {w : WD} {d : Nat} {G : GM} {Q : Option AV → Hp → Prop} {B : HB} {t c L : Nat} {n : NM} {x1 x2 : Int} (ot : Obj B t 7 4) (rt : rf B t 0 = some c) (oc : Obj B c 100 L)
    (V :
    (Ev w d 0 0 mJ7_fill_53178 [vr c, vi x2] (B, upn n t 3 (max 0 (min x1 (n t 2)))) (fun r h' => ∃ n21 : NM, r = none ∧ h' = (B, n21) ∧ 
      Q none (B, n21)))) :
    Rn w mX7_fill (d + 1) G Q 0 [(0, vr t), (1, vi x1), (2, vi x2)] [] (B, n) := by
  refine r_aload_n dX7_fill_0 rfl rfl ?_
  refine r_iconst (x := 0) dX7_fill_1 rfl (by decide) ?_
  refine r_iload_n dX7_fill_2 rfl rfl ?_
  refine r_aload_n dX7_fill_3 rfl rfl ?_
  refine r_getI (fi := 2) dX7_fill_4 fX7_21 ot (by decide) (by decide) rfl ?_
  refine r_mmin dX7_fill_7 kX7_46 (Nat.le_of_ble_eq_true rfl) ?_
  refine r_mmax dX7_fill_10 kX7_15 (Nat.le_of_ble_eq_true rfl) ?_
  refine r_putI (fi := 3) (h' := (B, upn n t 3 (max 0 (min x1 (n t 2))))) dX7_fill_13 pX7_9 ot (by decide) rfl rfl rfl ?_
  refine r_aload_n dX7_fill_16 rfl rfl ?_
  refine r_getR (b := c) dX7_fill_17 fX7_27 ot (by decide) rfl rt ?_
  refine r_iload_n dX7_fill_20 rfl rfl ?_
  refine r_callS (args := [vr c, vi x2]) dX7_fill_21 kX7_49 rfl rfl (Nat.le_of_ble_eq_true rfl) cap0 (Ev.mono V ?_)
  rintro r h' ⟨n21, rfl, rfl, V⟩
  show Rn w mX7_fill (d + 1) G Q 24 [(0, vr t), (1, vi x1), (2, vi x2)] [] (B, n21)
  exact r_ret dX7_fill_24 rfl V

theorem gX7_copyFrom_0 {w : WD} {d : Nat} {G : GM} {Q : Option AV → Hp → Prop} {B : HB} {t c L : Nat} {u e M : Nat} {n : NM} (ot : Obj B t 7 4) (rt : rf B t 0 = some c) (oc : Obj B c 100 L) (ou : Obj B u 7 4) (ru : rf B u 0 = some e) (oe : Obj B e 100 M)
    (V :
    (inI (L : Int)) ∧
    (inI (M : Int)) ∧
    (0 ≤ min (L : Int) (M : Int)) ∧
    (min (L : Int) (M : Int) ≤ (M : Int)) ∧
    (min (L : Int) (M : Int) ≤ (L : Int)) ∧
    Q none (B, upn (cpn n e c (min (L : Int) (M : Int))) t 3 (min ((cpn n e c (min (L : Int) (M : Int))) u 3) ((cpn n e c (min (L : Int) (M : Int))) t 2)))) :
    Rn w mX7_copyFrom (d + 1) G Q 0 [(0, vr t), (1, vr u)] [] (B, n) := by
  refine r_aload_n dX7_copyFrom_0 rfl rfl ?_
  refine r_getR (b := e) dX7_copyFrom_1 fX7_27 ou (by decide) rfl ru ?_
  refine r_iconst (x := 0) dX7_copyFrom_4 rfl (by decide) ?_
  refine r_aload_n dX7_copyFrom_5 rfl rfl ?_
  refine r_getR (b := c) dX7_copyFrom_6 fX7_27 ot (by decide) rfl rt ?_
  refine r_iconst (x := 0) dX7_copyFrom_9 rfl (by decide) ?_
  refine r_aload_n dX7_copyFrom_10 rfl rfl ?_
  refine r_getR (b := c) dX7_copyFrom_11 fX7_27 ot (by decide) rfl rt ?_
  obtain ⟨s21, V⟩ := V
  refine r_alen (c := 0) (x := (L : Int)) dX7_copyFrom_14 oc (by decide) rfl s21 ?_
  refine r_aload_n dX7_copyFrom_15 rfl rfl ?_
  refine r_getR (b := e) dX7_copyFrom_16 fX7_27 ou (by decide) rfl ru ?_
  obtain ⟨s22, V⟩ := V
  refine r_alen (c := 0) (x := (M : Int)) dX7_copyFrom_19 oe (by decide) rfl s22 ?_
  refine r_mmin dX7_copyFrom_20 kX7_46 (Nat.le_of_ble_eq_true rfl) ?_
  obtain ⟨s23, V⟩ := V
  obtain ⟨s24, V⟩ := V
  obtain ⟨s25, V⟩ := V
  refine r_copyI (h' := (B, cpn n e c (min (L : Int) (M : Int)))) dX7_copyFrom_23 kX7_55 (Nat.le_of_ble_eq_true rfl) oe oc s23 s24 s25 rfl ?_
  refine r_aload_n dX7_copyFrom_26 rfl rfl ?_
  refine r_aload_n dX7_copyFrom_27 rfl rfl ?_
  refine r_getI (fi := 3) dX7_copyFrom_28 fX7_9 ou (by decide) (by decide) rfl ?_
  refine r_aload_n dX7_copyFrom_31 rfl rfl ?_
  refine r_getI (fi := 2) dX7_copyFrom_32 fX7_21 ot (by decide) (by decide) rfl ?_
  refine r_mmin dX7_copyFrom_35 kX7_46 (Nat.le_of_ble_eq_true rfl) ?_
  refine r_putI (fi := 3) (h' := (B, upn (cpn n e c (min (L : Int) (M : Int))) t 3 (min ((cpn n e c (min (L : Int) (M : Int))) u 3) ((cpn n e c (min (L : Int) (M : Int))) t 2)))) dX7_copyFrom_38 pX7_9 ot (by decide) rfl rfl rfl ?_
  exact r_ret dX7_copyFrom_41 rfl V

theorem gX7_isCell_0 {w : WD} {d : Nat} {G : GM} {Q : Option AV → Hp → Prop} {B : HB} {t c L : Nat} {n : NM} {x1 x2 : Int} (ot : Obj B t 7 4) (rt : rf B t 0 = some c) (oc : Obj B c 100 L)
    (V :
    ((x1 < 0 →
      Q (some (vi 0)) (B, n)) ∧
    (0 ≤ x1 →
      ((n t 3 ≤ x1 →
        Q (some (vi 0)) (B, n)) ∧
      (x1 < n t 3 →
        ((x2 < 0 →
          Q (some (vi 0)) (B, n)) ∧
        (0 ≤ x2 →
          ((n t 1 ≤ x2 →
            Q (some (vi 0)) (B, n)) ∧
          (x2 < n t 1 →
            Q (some (vi 1)) (B, n)))))))))) :
    Rn w mX7_isCell d G Q 0 [(0, vr t), (1, vi x1), (2, vi x2)] [] (B, n) := by
  refine r_iload_n dX7_isCell_0 rfl rfl ?_
  obtain ⟨V1, V2⟩ := V
  refine r_zlt (tgt := 28) dX7_isCell_1 (by decide) (fun c21 => ?_) (fun c21 => ?_)
  · have V := V1 c21
    refine r_iconst (x := 0) dX7_isCell_28 rfl (by decide) ?_
    exact r_zret dX7_isCell_29 rfl (by decide) V
  · have V := V2 c21
    refine r_iload_n dX7_isCell_4 rfl rfl ?_
    refine r_aload_n dX7_isCell_5 rfl rfl ?_
    refine r_getI (fi := 3) dX7_isCell_6 fX7_9 ot (by decide) (by decide) rfl ?_
    obtain ⟨V1, V2⟩ := V
    refine r_jge (tgt := 28) dX7_isCell_9 (by decide) (fun c22 => ?_) (fun c22 => ?_)
    · have V := V1 c22
      refine r_iconst (x := 0) dX7_isCell_28 rfl (by decide) ?_
      exact r_zret dX7_isCell_29 rfl (by decide) V
    · have V := V2 c22
      refine r_iload_n dX7_isCell_12 rfl rfl ?_
      obtain ⟨V1, V2⟩ := V
      refine r_zlt (tgt := 28) dX7_isCell_13 (by decide) (fun c23 => ?_) (fun c23 => ?_)
      · have V := V1 c23
        refine r_iconst (x := 0) dX7_isCell_28 rfl (by decide) ?_
        exact r_zret dX7_isCell_29 rfl (by decide) V
      · have V := V2 c23
        refine r_iload_n dX7_isCell_16 rfl rfl ?_
        refine r_aload_n dX7_isCell_17 rfl rfl ?_
        refine r_getI (fi := 1) dX7_isCell_18 fX7_24 ot (by decide) (by decide) rfl ?_
        obtain ⟨V1, V2⟩ := V
        refine r_jge (tgt := 28) dX7_isCell_21 (by decide) (fun c24 => ?_) (fun c24 => ?_)
        · have V := V1 c24
          refine r_iconst (x := 0) dX7_isCell_28 rfl (by decide) ?_
          exact r_zret dX7_isCell_29 rfl (by decide) V
        · have V := V2 c24
          refine r_iconst (x := 1) dX7_isCell_24 rfl (by decide) ?_
          refine r_goto (tgt := 29) dX7_isCell_25 (by decide) ?_
          exact r_zret dX7_isCell_29 rfl (by decide) V
theorem gX2_size_0 {w : WD} {d : Nat} {G : GM} {Q : Option AV → Hp → Prop} {B : HB} {l k v t : Nat} {n : NM} (ol : Obj B l 2 4) (rk : rf B l 0 = some k) (rv : rf B l 1 = some v) (rt : rf B l 3 = some t) (ok : Obj B k 100 400) (ov : Obj B v 100 400) (ot : Obj B t 7 4)
    (V :
    (Ev w d 0 0 mX7_size [vr t] (B, n) (fun r h' => ∃ (x22 : Int) (n21 : NM), r = some (vi x22) ∧ h' = (B, n21) ∧ 
      Q (some (vi x22)) (B, n21)))) :
    Rn w mX2_size (d + 1) G Q 0 [(0, vr l)] [] (B, n) := by
  refine r_aload_n dX2_size_0 rfl rfl ?_
  refine r_getR (b := t) dX2_size_1 fX2_27 ol (by decide) rfl rt ?_
  refine r_callV (args := []) dX2_size_4 kX2_31 ot ⟨_, _, rfl⟩ (by decide) rfl rfl (Nat.le_of_ble_eq_true rfl) cap0 (Ev.mono V ?_)
  rintro r h' ⟨x22, n21, rfl, rfl, V⟩
  show Rn w mX2_size (d + 1) G Q 7 [(0, vr l)] [vi x22] (B, n21)
  exact r_iret dX2_size_7 rfl V

theorem gX2_steps_0 {w : WD} {d : Nat} {G : GM} {Q : Option AV → Hp → Prop} {B : HB} {l k v t : Nat} {n : NM} (ol : Obj B l 2 4) (rk : rf B l 0 = some k) (rv : rf B l 1 = some v) (rt : rf B l 3 = some t) (ok : Obj B k 100 400) (ov : Obj B v 100 400) (ot : Obj B t 7 4)
    (V :
    Q (some (vi (n l 2))) (B, n)) :
    Rn w mX2_steps d G Q 0 [(0, vr l)] [] (B, n) := by
  refine r_aload_n dX2_steps_0 rfl rfl ?_
  refine r_getI (fi := 2) dX2_steps_1 fX2_18 ol (by decide) (by decide) rfl ?_
  exact r_iret dX2_steps_4 rfl V

theorem gX2_headOf_0 {w : WD} {d : Nat} {G : GM} {Q : Option AV → Hp → Prop} {B : HB} {l k v t : Nat} {n : NM} {x1 : Int} (ol : Obj B l 2 4) (rk : rf B l 0 = some k) (rv : rf B l 1 = some v) (rt : rf B l 3 = some t) (ok : Obj B k 100 400) (ov : Obj B v 100 400) (ot : Obj B t 7 4)
    (V :
    (Ev w d 0 0 mX7_get [vr t, vi x1, vi 0] (B, n) (fun r h' => ∃ (x22 : Int) (n21 : NM), r = some (vi x22) ∧ h' = (B, n21) ∧ 
      Q (some (vi x22)) (B, n21)))) :
    Rn w mX2_headOf (d + 1) G Q 0 [(0, vr l), (1, vi x1)] [] (B, n) := by
  refine r_aload_n dX2_headOf_0 rfl rfl ?_
  refine r_getR (b := t) dX2_headOf_1 fX2_27 ol (by decide) rfl rt ?_
  refine r_iload_n dX2_headOf_4 rfl rfl ?_
  refine r_iconst (x := 0) dX2_headOf_5 rfl (by decide) ?_
  refine r_callV (args := [vi x1, vi 0]) dX2_headOf_6 kX2_35 ot ⟨_, _, rfl⟩ (by decide) rfl rfl (Nat.le_of_ble_eq_true rfl) cap0 (Ev.mono V ?_)
  rintro r h' ⟨x22, n21, rfl, rfl, V⟩
  show Rn w mX2_headOf (d + 1) G Q 9 [(0, vr l), (1, vi x1)] [vi x22] (B, n21)
  exact r_iret dX2_headOf_9 rfl V

theorem gX2_sumOf_0 {w : WD} {d : Nat} {G : GM} {Q : Option AV → Hp → Prop} {B : HB} {l k v t : Nat} {n : NM} {x1 : Int} (ol : Obj B l 2 4) (rk : rf B l 0 = some k) (rv : rf B l 1 = some v) (rt : rf B l 3 = some t) (ok : Obj B k 100 400) (ov : Obj B v 100 400) (ot : Obj B t 7 4)
    (V :
    (Ev w d 0 0 mX7_get [vr t, vi x1, vi 1] (B, n) (fun r h' => ∃ (x22 : Int) (n21 : NM), r = some (vi x22) ∧ h' = (B, n21) ∧ 
      Q (some (vi x22)) (B, n21)))) :
    Rn w mX2_sumOf (d + 1) G Q 0 [(0, vr l), (1, vi x1)] [] (B, n) := by
  refine r_aload_n dX2_sumOf_0 rfl rfl ?_
  refine r_getR (b := t) dX2_sumOf_1 fX2_27 ol (by decide) rfl rt ?_
  refine r_iload_n dX2_sumOf_4 rfl rfl ?_
  refine r_iconst (x := 1) dX2_sumOf_5 rfl (by decide) ?_
  refine r_callV (args := [vi x1, vi 1]) dX2_sumOf_6 kX2_35 ot ⟨_, _, rfl⟩ (by decide) rfl rfl (Nat.le_of_ble_eq_true rfl) cap0 (Ev.mono V ?_)
  rintro r h' ⟨x22, n21, rfl, rfl, V⟩
  show Rn w mX2_sumOf (d + 1) G Q 9 [(0, vr l), (1, vi x1)] [vi x22] (B, n21)
  exact r_iret dX2_sumOf_9 rfl V

theorem gX2_testOf_0 {w : WD} {d : Nat} {G : GM} {Q : Option AV → Hp → Prop} {B : HB} {l k v t : Nat} {n : NM} {x1 : Int} (ol : Obj B l 2 4) (rk : rf B l 0 = some k) (rv : rf B l 1 = some v) (rt : rf B l 3 = some t) (ok : Obj B k 100 400) (ov : Obj B v 100 400) (ot : Obj B t 7 4)
    (V :
    (Ev w d 0 0 mX7_get [vr t, vi x1, vi 2] (B, n) (fun r h' => ∃ (x22 : Int) (n21 : NM), r = some (vi x22) ∧ h' = (B, n21) ∧ 
      Q (some (vi x22)) (B, n21)))) :
    Rn w mX2_testOf (d + 1) G Q 0 [(0, vr l), (1, vi x1)] [] (B, n) := by
  refine r_aload_n dX2_testOf_0 rfl rfl ?_
  refine r_getR (b := t) dX2_testOf_1 fX2_27 ol (by decide) rfl rt ?_
  refine r_iload_n dX2_testOf_4 rfl rfl ?_
  refine r_iconst (x := 2) dX2_testOf_5 rfl (by decide) ?_
  refine r_callV (args := [vi x1, vi 2]) dX2_testOf_6 kX2_35 ot ⟨_, _, rfl⟩ (by decide) rfl rfl (Nat.le_of_ble_eq_true rfl) cap0 (Ev.mono V ?_)
  rintro r h' ⟨x22, n21, rfl, rfl, V⟩
  show Rn w mX2_testOf (d + 1) G Q 9 [(0, vr l), (1, vi x1)] [vi x22] (B, n21)
  exact r_iret dX2_testOf_9 rfl V

theorem gX2_endOf_0 {w : WD} {d : Nat} {G : GM} {Q : Option AV → Hp → Prop} {B : HB} {l k v t : Nat} {n : NM} {x1 : Int} (ol : Obj B l 2 4) (rk : rf B l 0 = some k) (rv : rf B l 1 = some v) (rt : rf B l 3 = some t) (ok : Obj B k 100 400) (ov : Obj B v 100 400) (ot : Obj B t 7 4)
    (V :
    (Ev w d 0 0 mX7_get [vr t, vi x1, vi 3] (B, n) (fun r h' => ∃ (x22 : Int) (n21 : NM), r = some (vi x22) ∧ h' = (B, n21) ∧ 
      Q (some (vi x22)) (B, n21)))) :
    Rn w mX2_endOf (d + 1) G Q 0 [(0, vr l), (1, vi x1)] [] (B, n) := by
  refine r_aload_n dX2_endOf_0 rfl rfl ?_
  refine r_getR (b := t) dX2_endOf_1 fX2_27 ol (by decide) rfl rt ?_
  refine r_iload_n dX2_endOf_4 rfl rfl ?_
  refine r_iconst (x := 3) dX2_endOf_5 rfl (by decide) ?_
  refine r_callV (args := [vi x1, vi 3]) dX2_endOf_6 kX2_35 ot ⟨_, _, rfl⟩ (by decide) rfl rfl (Nat.le_of_ble_eq_true rfl) cap0 (Ev.mono V ?_)
  rintro r h' ⟨x22, n21, rfl, rfl, V⟩
  show Rn w mX2_endOf (d + 1) G Q 9 [(0, vr l), (1, vi x1)] [vi x22] (B, n21)
  exact r_iret dX2_endOf_9 rfl V

theorem gX2_kindOf_0 {w : WD} {d : Nat} {G : GM} {Q : Option AV → Hp → Prop} {B : HB} {l k v t : Nat} {n : NM} {x1 : Int} (ol : Obj B l 2 4) (rk : rf B l 0 = some k) (rv : rf B l 1 = some v) (rt : rf B l 3 = some t) (ok : Obj B k 100 400) (ov : Obj B v 100 400) (ot : Obj B t 7 4)
    (V :
    ((x1 < 0 →
      Q (some (vi 0)) (B, n)) ∧
    (0 ≤ x1 →
      ((400 ≤ x1 →
        Q (some (vi 0)) (B, n)) ∧
      (x1 < 400 →
        (0 ≤ x1) ∧
        (x1 < 400) ∧
        Q (some (vi (n k x1))) (B, n)))))) :
    Rn w mX2_kindOf d G Q 0 [(0, vr l), (1, vi x1)] [] (B, n) := by
  refine r_iload_n dX2_kindOf_0 rfl rfl ?_
  obtain ⟨V1, V2⟩ := V
  refine r_zlt (tgt := 22) dX2_kindOf_1 (by decide) (fun c21 => ?_) (fun c21 => ?_)
  · have V := V1 c21
    refine r_iconst (x := 0) dX2_kindOf_22 rfl (by decide) ?_
    exact r_iret dX2_kindOf_23 rfl V
  · have V := V2 c21
    refine r_iload_n dX2_kindOf_4 rfl rfl ?_
    refine r_aload_n dX2_kindOf_5 rfl rfl ?_
    refine r_getR (b := k) dX2_kindOf_6 fX2_9 ol (by decide) rfl rk ?_
    refine r_alen (c := 0) (x := 400) dX2_kindOf_9 ok (by decide) rfl (by decide) ?_
    obtain ⟨V1, V2⟩ := V
    refine r_jge (tgt := 22) dX2_kindOf_10 (by decide) (fun c22 => ?_) (fun c22 => ?_)
    · have V := V1 c22
      refine r_iconst (x := 0) dX2_kindOf_22 rfl (by decide) ?_
      exact r_iret dX2_kindOf_23 rfl V
    · have V := V2 c22
      refine r_aload_n dX2_kindOf_13 rfl rfl ?_
      refine r_getR (b := k) dX2_kindOf_14 fX2_9 ol (by decide) rfl rk ?_
      refine r_iload_n dX2_kindOf_17 rfl rfl ?_
      obtain ⟨s23, V⟩ := V
      obtain ⟨s24, V⟩ := V
      refine r_iald dX2_kindOf_18 ok s23 s24 ?_
      refine r_goto (tgt := 23) dX2_kindOf_19 (by decide) ?_
      exact r_iret dX2_kindOf_23 rfl V

theorem gX2_valueOf_0 {w : WD} {d : Nat} {G : GM} {Q : Option AV → Hp → Prop} {B : HB} {l k v t : Nat} {n : NM} {x1 : Int} (ol : Obj B l 2 4) (rk : rf B l 0 = some k) (rv : rf B l 1 = some v) (rt : rf B l 3 = some t) (ok : Obj B k 100 400) (ov : Obj B v 100 400) (ot : Obj B t 7 4)
    (V :
    ((x1 < 0 →
      Q (some (vi 0)) (B, n)) ∧
    (0 ≤ x1 →
      ((400 ≤ x1 →
        Q (some (vi 0)) (B, n)) ∧
      (x1 < 400 →
        (0 ≤ x1) ∧
        (x1 < 400) ∧
        Q (some (vi (n v x1))) (B, n)))))) :
    Rn w mX2_valueOf d G Q 0 [(0, vr l), (1, vi x1)] [] (B, n) := by
  refine r_iload_n dX2_valueOf_0 rfl rfl ?_
  obtain ⟨V1, V2⟩ := V
  refine r_zlt (tgt := 22) dX2_valueOf_1 (by decide) (fun c21 => ?_) (fun c21 => ?_)
  · have V := V1 c21
    refine r_iconst (x := 0) dX2_valueOf_22 rfl (by decide) ?_
    exact r_iret dX2_valueOf_23 rfl V
  · have V := V2 c21
    refine r_iload_n dX2_valueOf_4 rfl rfl ?_
    refine r_aload_n dX2_valueOf_5 rfl rfl ?_
    refine r_getR (b := v) dX2_valueOf_6 fX2_15 ol (by decide) rfl rv ?_
    refine r_alen (c := 0) (x := 400) dX2_valueOf_9 ov (by decide) rfl (by decide) ?_
    obtain ⟨V1, V2⟩ := V
    refine r_jge (tgt := 22) dX2_valueOf_10 (by decide) (fun c22 => ?_) (fun c22 => ?_)
    · have V := V1 c22
      refine r_iconst (x := 0) dX2_valueOf_22 rfl (by decide) ?_
      exact r_iret dX2_valueOf_23 rfl V
    · have V := V2 c22
      refine r_aload_n dX2_valueOf_13 rfl rfl ?_
      refine r_getR (b := v) dX2_valueOf_14 fX2_15 ol (by decide) rfl rv ?_
      refine r_iload_n dX2_valueOf_17 rfl rfl ?_
      obtain ⟨s23, V⟩ := V
      obtain ⟨s24, V⟩ := V
      refine r_iald dX2_valueOf_18 ov s23 s24 ?_
      refine r_goto (tgt := 23) dX2_valueOf_19 (by decide) ?_
      exact r_iret dX2_valueOf_23 rfl V

theorem gX2_clear_0 {w : WD} {d : Nat} {G : GM} {Q : Option AV → Hp → Prop} {B : HB} {l k v t : Nat} {n : NM} (ol : Obj B l 2 4) (rk : rf B l 0 = some k) (rv : rf B l 1 = some v) (rt : rf B l 3 = some t) (ok : Obj B k 100 400) (ov : Obj B v 100 400) (ot : Obj B t 7 4)
    (V :
    (Ev w d 0 0 mX7_fill [vr t, vi 0, vi 0] (B, upn n l 2 0) (fun r h' => ∃ n21 : NM, r = none ∧ h' = (B, n21) ∧ 
      Q none (B, n21)))) :
    Rn w mX2_clear (d + 1) G Q 0 [(0, vr l)] [] (B, n) := by
  refine r_aload_n dX2_clear_0 rfl rfl ?_
  refine r_iconst (x := 0) dX2_clear_1 rfl (by decide) ?_
  refine r_putI (fi := 2) (h' := (B, upn n l 2 0)) dX2_clear_2 pX2_18 ol (by decide) rfl rfl rfl ?_
  refine r_aload_n dX2_clear_5 rfl rfl ?_
  refine r_getR (b := t) dX2_clear_6 fX2_27 ol (by decide) rfl rt ?_
  refine r_iconst (x := 0) dX2_clear_9 rfl (by decide) ?_
  refine r_iconst (x := 0) dX2_clear_10 rfl (by decide) ?_
  refine r_callV (args := [vi 0, vi 0]) dX2_clear_11 kX2_39 ot ⟨_, _, rfl⟩ (by decide) rfl rfl (Nat.le_of_ble_eq_true rfl) cap0 (Ev.mono V ?_)
  rintro r h' ⟨n21, rfl, rfl, V⟩
  show Rn w mX2_clear (d + 1) G Q 14 [(0, vr l)] [] (B, n21)
  exact r_ret dX2_clear_14 rfl V

theorem gX2_addClause_0 {w : WD} {d : Nat} {G : GM} {Q : Option AV → Hp → Prop} {B : HB} {l k v t : Nat} {n : NM} {x1 x2 x3 : Int} (ol : Obj B l 2 4) (rk : rf B l 0 = some k) (rv : rf B l 1 = some v) (rt : rf B l 3 = some t) (ok : Obj B k 100 400) (ov : Obj B v 100 400) (ot : Obj B t 7 4)
    (V :
    (Ev w d 0 0 mX7_add [vr t, vi x1, vi x2, vi x3, vi (n l 2)] (B, n) (fun r h' => ∃ (x22 : Int) (n21 : NM), r = some (vi x22) ∧ h' = (B, n21) ∧ 
      Q none (B, n21)))) :
    Rn w mX2_addClause (d + 1) G Q 0 [(0, vr l), (1, vi x1), (2, vi x2), (3, vi x3)] [] (B, n) := by
  refine r_aload_n dX2_addClause_0 rfl rfl ?_
  refine r_getR (b := t) dX2_addClause_1 fX2_27 ol (by decide) rfl rt ?_
  refine r_iload_n dX2_addClause_4 rfl rfl ?_
  refine r_iload_n dX2_addClause_5 rfl rfl ?_
  refine r_iload_n dX2_addClause_6 rfl rfl ?_
  refine r_aload_n dX2_addClause_7 rfl rfl ?_
  refine r_getI (fi := 2) dX2_addClause_8 fX2_18 ol (by decide) (by decide) rfl ?_
  refine r_callV (args := [vi x1, vi x2, vi x3, vi (n l 2)]) dX2_addClause_11 kX2_42 ot ⟨_, _, rfl⟩ (by decide) rfl rfl (Nat.le_of_ble_eq_true rfl) cap0 (Ev.mono V ?_)
  rintro r h' ⟨x22, n21, rfl, rfl, V⟩
  show Rn w mX2_addClause (d + 1) G Q 14 [(0, vr l), (1, vi x1), (2, vi x2), (3, vi x3)] [vi x22] (B, n21)
  refine r_pop dX2_addClause_14 rfl ?_
  exact r_ret dX2_addClause_15 rfl V

theorem gX2_addStep_0 {w : WD} {d : Nat} {G : GM} {Q : Option AV → Hp → Prop} {B : HB} {l k v t : Nat} {n : NM} {x1 x2 : Int} (ol : Obj B l 2 4) (rk : rf B l 0 = some k) (rv : rf B l 1 = some v) (rt : rf B l 3 = some t) (ok : Obj B k 100 400) (ov : Obj B v 100 400) (ot : Obj B t 7 4)
    (V :
    ((400 ≤ n l 2 →
      (inI ((n l 2) - 1)) ∧
      Q (some (vi ((n l 2) - 1))) (B, n)) ∧
    (n l 2 < 400 →
      (0 ≤ n l 2) ∧
      (n l 2 < 400) ∧
      (0 ≤ (upn n k (n l 2) x1) l 2) ∧
      ((upn n k (n l 2) x1) l 2 < 400) ∧
      (inI (((upn (upn n k (n l 2) x1) v ((upn n k (n l 2) x1) l 2) x2) l 2) + 1)) ∧
      (inI (((upn (upn (upn n k (n l 2) x1) v ((upn n k (n l 2) x1) l 2) x2) l 2 (((upn (upn n k (n l 2) x1) v ((upn n k (n l 2) x1) l 2) x2) l 2) + 1)) l 2) - 1)) ∧
      Q (some (vi (((upn (upn (upn n k (n l 2) x1) v ((upn n k (n l 2) x1) l 2) x2) l 2 (((upn (upn n k (n l 2) x1) v ((upn n k (n l 2) x1) l 2) x2) l 2) + 1)) l 2) - 1))) (B, upn (upn (upn n k (n l 2) x1) v ((upn n k (n l 2) x1) l 2) x2) l 2 (((upn (upn n k (n l 2) x1) v ((upn n k (n l 2) x1) l 2) x2) l 2) + 1))))) :
    Rn w mX2_addStep d G Q 0 [(0, vr l), (1, vi x1), (2, vi x2)] [] (B, n) := by
  refine r_aload_n dX2_addStep_0 rfl rfl ?_
  refine r_getI (fi := 2) dX2_addStep_1 fX2_18 ol (by decide) (by decide) rfl ?_
  refine r_aload_n dX2_addStep_4 rfl rfl ?_
  refine r_getR (b := k) dX2_addStep_5 fX2_9 ol (by decide) rfl rk ?_
  refine r_alen (c := 0) (x := 400) dX2_addStep_8 ok (by decide) rfl (by decide) ?_
  obtain ⟨V1, V2⟩ := V
  refine r_jge (tgt := 42) dX2_addStep_9 (by decide) (fun c21 => ?_) (fun c21 => ?_)
  · have V := V1 c21
    refine r_aload_n dX2_addStep_42 rfl rfl ?_
    refine r_getI (fi := 2) dX2_addStep_43 fX2_18 ol (by decide) (by decide) rfl ?_
    refine r_iconst (x := 1) dX2_addStep_46 rfl (by decide) ?_
    obtain ⟨s22, V⟩ := V
    refine r_isub dX2_addStep_47 s22 ?_
    exact r_iret dX2_addStep_48 rfl V
  · have V := V2 c21
    refine r_aload_n dX2_addStep_12 rfl rfl ?_
    refine r_getR (b := k) dX2_addStep_13 fX2_9 ol (by decide) rfl rk ?_
    refine r_aload_n dX2_addStep_16 rfl rfl ?_
    refine r_getI (fi := 2) dX2_addStep_17 fX2_18 ol (by decide) (by decide) rfl ?_
    refine r_iload_n dX2_addStep_20 rfl rfl ?_
    obtain ⟨s23, V⟩ := V
    obtain ⟨s24, V⟩ := V
    refine r_iast (h' := (B, upn n k (n l 2) x1)) dX2_addStep_21 ok s23 s24 rfl ?_
    refine r_aload_n dX2_addStep_22 rfl rfl ?_
    refine r_getR (b := v) dX2_addStep_23 fX2_15 ol (by decide) rfl rv ?_
    refine r_aload_n dX2_addStep_26 rfl rfl ?_
    refine r_getI (fi := 2) dX2_addStep_27 fX2_18 ol (by decide) (by decide) rfl ?_
    refine r_iload_n dX2_addStep_30 rfl rfl ?_
    obtain ⟨s25, V⟩ := V
    obtain ⟨s26, V⟩ := V
    refine r_iast (h' := (B, upn (upn n k (n l 2) x1) v ((upn n k (n l 2) x1) l 2) x2)) dX2_addStep_31 ov s25 s26 rfl ?_
    refine r_aload_n dX2_addStep_32 rfl rfl ?_
    refine r_dup dX2_addStep_33 rfl ?_
    refine r_getI (fi := 2) dX2_addStep_34 fX2_18 ol (by decide) (by decide) rfl ?_
    refine r_iconst (x := 1) dX2_addStep_37 rfl (by decide) ?_
    obtain ⟨s27, V⟩ := V
    refine r_iadd dX2_addStep_38 s27 ?_
    refine r_putI (fi := 2) (h' := (B, upn (upn (upn n k (n l 2) x1) v ((upn n k (n l 2) x1) l 2) x2) l 2 (((upn (upn n k (n l 2) x1) v ((upn n k (n l 2) x1) l 2) x2) l 2) + 1))) dX2_addStep_39 pX2_18 ol (by decide) rfl rfl rfl ?_
    refine r_aload_n dX2_addStep_42 rfl rfl ?_
    refine r_getI (fi := 2) dX2_addStep_43 fX2_18 ol (by decide) (by decide) rfl ?_
    refine r_iconst (x := 1) dX2_addStep_46 rfl (by decide) ?_
    obtain ⟨s28, V⟩ := V
    refine r_isub dX2_addStep_47 s28 ?_
    exact r_iret dX2_addStep_48 rfl V

theorem gX2_letSkipEndHere_0 {w : WD} {d : Nat} {G : GM} {Q : Option AV → Hp → Prop} {B : HB} {l k v t : Nat} {n : NM} {x1 : Int} (ol : Obj B l 2 4) (rk : rf B l 0 = some k) (rv : rf B l 1 = some v) (rt : rf B l 3 = some t) (ok : Obj B k 100 400) (ov : Obj B v 100 400) (ot : Obj B t 7 4)
    (V :
    ((x1 < 0 →
      Q none (B, n)) ∧
    (0 ≤ x1 →
      ((400 ≤ x1 →
        Q none (B, n)) ∧
      (x1 < 400 →
        (0 ≤ x1) ∧
        (x1 < 400) ∧
        Q none (B, upn n v x1 (n l 2))))))) :
    Rn w mX2_letSkipEndHere d G Q 0 [(0, vr l), (1, vi x1)] [] (B, n) := by
  refine r_iload_n dX2_letSkipEndHere_0 rfl rfl ?_
  obtain ⟨V1, V2⟩ := V
  refine r_zlt (tgt := 23) dX2_letSkipEndHere_1 (by decide) (fun c21 => ?_) (fun c21 => ?_)
  · have V := V1 c21
    exact r_ret dX2_letSkipEndHere_23 rfl V
  · have V := V2 c21
    refine r_iload_n dX2_letSkipEndHere_4 rfl rfl ?_
    refine r_aload_n dX2_letSkipEndHere_5 rfl rfl ?_
    refine r_getR (b := v) dX2_letSkipEndHere_6 fX2_15 ol (by decide) rfl rv ?_
    refine r_alen (c := 0) (x := 400) dX2_letSkipEndHere_9 ov (by decide) rfl (by decide) ?_
    obtain ⟨V1, V2⟩ := V
    refine r_jge (tgt := 23) dX2_letSkipEndHere_10 (by decide) (fun c22 => ?_) (fun c22 => ?_)
    · have V := V1 c22
      exact r_ret dX2_letSkipEndHere_23 rfl V
    · have V := V2 c22
      refine r_aload_n dX2_letSkipEndHere_13 rfl rfl ?_
      refine r_getR (b := v) dX2_letSkipEndHere_14 fX2_15 ol (by decide) rfl rv ?_
      refine r_iload_n dX2_letSkipEndHere_17 rfl rfl ?_
      refine r_aload_n dX2_letSkipEndHere_18 rfl rfl ?_
      refine r_getI (fi := 2) dX2_letSkipEndHere_19 fX2_18 ol (by decide) (by decide) rfl ?_
      obtain ⟨s23, V⟩ := V
      obtain ⟨s24, V⟩ := V
      refine r_iast (h' := (B, upn n v x1 (n l 2))) dX2_letSkipEndHere_22 ov s23 s24 rfl ?_
      exact r_ret dX2_letSkipEndHere_23 rfl V

theorem gX2_copyFrom_0 {w : WD} {d : Nat} {G : GM} {Q : Option AV → Hp → Prop} {B : HB} {l k v t : Nat} {l2 k2 v2 t2 : Nat} {n : NM} (ol : Obj B l 2 4) (rk : rf B l 0 = some k) (rv : rf B l 1 = some v) (rt : rf B l 3 = some t) (ok : Obj B k 100 400) (ov : Obj B v 100 400) (ot : Obj B t 7 4) (ol2 : Obj B l2 2 4) (rk2 : rf B l2 0 = some k2) (rv2 : rf B l2 1 = some v2) (rt2 : rf B l2 3 = some t2) (ok2 : Obj B k2 100 400) (ov2 : Obj B v2 100 400) (ot2 : Obj B t2 7 4)
    (V :
    (Ev w d 0 0 mX7_copyFrom [vr t, vr t2] (B, upn (cpn (cpn n k2 k 400) v2 v 400) l 2 ((cpn (cpn n k2 k 400) v2 v 400) l2 2)) (fun r h' => ∃ n21 : NM, r = none ∧ h' = (B, n21) ∧ 
      Q none (B, n21)))) :
    Rn w mX2_copyFrom (d + 1) G Q 0 [(0, vr l), (1, vr l2)] [] (B, n) := by
  refine r_aload_n dX2_copyFrom_0 rfl rfl ?_
  refine r_getR (b := k2) dX2_copyFrom_1 fX2_9 ol2 (by decide) rfl rk2 ?_
  refine r_iconst (x := 0) dX2_copyFrom_4 rfl (by decide) ?_
  refine r_aload_n dX2_copyFrom_5 rfl rfl ?_
  refine r_getR (b := k) dX2_copyFrom_6 fX2_9 ol (by decide) rfl rk ?_
  refine r_iconst (x := 0) dX2_copyFrom_9 rfl (by decide) ?_
  refine r_sipush (x := 400) dX2_copyFrom_10 (by decide +kernel) (by decide) ?_
  refine r_copyI (h' := (B, cpn n k2 k 400)) dX2_copyFrom_13 kX2_46 (Nat.le_of_ble_eq_true rfl) ok2 ok (by decide) (by decide) (by decide) rfl ?_
  refine r_aload_n dX2_copyFrom_16 rfl rfl ?_
  refine r_getR (b := v2) dX2_copyFrom_17 fX2_15 ol2 (by decide) rfl rv2 ?_
  refine r_iconst (x := 0) dX2_copyFrom_20 rfl (by decide) ?_
  refine r_aload_n dX2_copyFrom_21 rfl rfl ?_
  refine r_getR (b := v) dX2_copyFrom_22 fX2_15 ol (by decide) rfl rv ?_
  refine r_iconst (x := 0) dX2_copyFrom_25 rfl (by decide) ?_
  refine r_sipush (x := 400) dX2_copyFrom_26 (by decide +kernel) (by decide) ?_
  refine r_copyI (h' := (B, cpn (cpn n k2 k 400) v2 v 400)) dX2_copyFrom_29 kX2_46 (Nat.le_of_ble_eq_true rfl) ov2 ov (by decide) (by decide) (by decide) rfl ?_
  refine r_aload_n dX2_copyFrom_32 rfl rfl ?_
  refine r_aload_n dX2_copyFrom_33 rfl rfl ?_
  refine r_getI (fi := 2) dX2_copyFrom_34 fX2_18 ol2 (by decide) (by decide) rfl ?_
  refine r_putI (fi := 2) (h' := (B, upn (cpn (cpn n k2 k 400) v2 v 400) l 2 ((cpn (cpn n k2 k 400) v2 v 400) l2 2))) dX2_copyFrom_37 pX2_18 ol (by decide) rfl rfl rfl ?_
  refine r_aload_n dX2_copyFrom_40 rfl rfl ?_
  refine r_getR (b := t) dX2_copyFrom_41 fX2_27 ol (by decide) rfl rt ?_
  refine r_aload_n dX2_copyFrom_44 rfl rfl ?_
  refine r_getR (b := t2) dX2_copyFrom_45 fX2_27 ol2 (by decide) rfl rt2 ?_
  refine r_callV (args := [vr t2]) dX2_copyFrom_48 kX2_52 ot ⟨_, _, rfl⟩ (by decide) rfl rfl (Nat.le_of_ble_eq_true rfl) cap0 (Ev.mono V ?_)
  rintro r h' ⟨n21, rfl, rfl, V⟩
  show Rn w mX2_copyFrom (d + 1) G Q 51 [(0, vr l), (1, vr l2)] [] (B, n21)
  exact r_ret dX2_copyFrom_51 rfl V
theorem gX4_become_0 {w : WD} {d : Nat} {G : GM} {Q : Option AV → Hp → Prop} {B : HB} {a c : Nat} {n : NM} {x1 : Int} (oa : Obj B a 4 2) (ra : rf B a 0 = some c) (oc : Obj B c 101 64)
    (V :
    (Ev w d 0 0 mJ7_fill_d0a16 [vr c, vl 0] (B, n) (fun r h' => ∃ n21 : NM, r = none ∧ h' = (B, n21) ∧ 
      Q none (B, upn (upn n21 c 0 x1) a 1 1)))) :
    Rn w mX4_become (d + 1) G Q 0 [(0, vr a), (1, vi x1)] [] (B, n) := by
  refine r_aload_n dX4_become_0 rfl rfl ?_
  refine r_getR (b := c) dX4_become_1 fX4_9 oa (by decide) rfl ra ?_
  refine r_lconst (x := 0) dX4_become_4 rfl (by decide) ?_
  refine r_callS (args := [vr c, vl 0]) dX4_become_5 kX4_17 rfl rfl (Nat.le_of_ble_eq_true rfl) cap0 (Ev.mono V ?_)
  rintro r h' ⟨n21, rfl, rfl, V⟩
  show Rn w mX4_become (d + 1) G Q 8 [(0, vr a), (1, vi x1)] [] (B, n21)
  refine r_aload_n dX4_become_8 rfl rfl ?_
  refine r_getR (b := c) dX4_become_9 fX4_9 oa (by decide) rfl ra ?_
  refine r_iconst (x := 0) dX4_become_12 rfl (by decide) ?_
  refine r_iload_n dX4_become_13 rfl rfl ?_
  refine r_i2l dX4_become_14 ?_
  refine r_last (h' := (B, upn n21 c 0 x1)) dX4_become_15 oc (by decide) (by decide) rfl ?_
  refine r_aload_n dX4_become_16 rfl rfl ?_
  refine r_iconst (x := 1) dX4_become_17 rfl (by decide) ?_
  refine r_putI (fi := 1) (h' := (B, upn (upn n21 c 0 x1) a 1 1)) dX4_become_18 pX4_13 oa (by decide) rfl rfl rfl ?_
  exact r_ret dX4_become_21 rfl V

theorem gX4_become__0 {w : WD} {d : Nat} {G : GM} {Q : Option AV → Hp → Prop} {B : HB} {a c : Nat} {b e : Nat} {n : NM} (oa : Obj B a 4 2) (ra : rf B a 0 = some c) (oc : Obj B c 101 64) (ob : Obj B b 4 2) (rb : rf B b 0 = some e) (oe : Obj B e 101 64)
    (V :
    Q none (B, upn (cpn n e c 64) a 1 ((cpn n e c 64) b 1))) :
    Rn w mX4_become_ (d + 1) G Q 0 [(0, vr a), (1, vr b)] [] (B, n) := by
  refine r_aload_n dX4_become__0 rfl rfl ?_
  refine r_getR (b := e) dX4_become__1 fX4_9 ob (by decide) rfl rb ?_
  refine r_iconst (x := 0) dX4_become__4 rfl (by decide) ?_
  refine r_aload_n dX4_become__5 rfl rfl ?_
  refine r_getR (b := c) dX4_become__6 fX4_9 oa (by decide) rfl ra ?_
  refine r_iconst (x := 0) dX4_become__9 rfl (by decide) ?_
  refine r_bipush (x := 64) dX4_become__10 (by decide +kernel) (by decide) ?_
  refine r_copyJ (h' := (B, cpn n e c 64)) dX4_become__12 kX4_23 (Nat.le_of_ble_eq_true rfl) oe oc (by decide) (by decide) (by decide) rfl ?_
  refine r_aload_n dX4_become__15 rfl rfl ?_
  refine r_aload_n dX4_become__16 rfl rfl ?_
  refine r_getI (fi := 1) dX4_become__17 fX4_13 ob (by decide) (by decide) rfl ?_
  refine r_putI (fi := 1) (h' := (B, upn (cpn n e c 64) a 1 ((cpn n e c 64) b 1))) dX4_become__20 pX4_13 oa (by decide) rfl rfl rfl ?_
  exact r_ret dX4_become__23 rfl V

theorem gX4_isZero_0 {w : WD} {d : Nat} {G : GM} {Q : Option AV → Hp → Prop} {B : HB} {a c : Nat} {n : NM} (oa : Obj B a 4 2) (ra : rf B a 0 = some c) (oc : Obj B c 101 64)
    (V :
    Rn w mX4_isZero d G Q 2 [(0, vr a), (1, vi 0)] [] (B, n)) :
    Rn w mX4_isZero d G Q 0 [(0, vr a)] [] (B, n) := by
  refine r_iconst (x := 0) dX4_isZero_0 rfl (by decide) ?_
  refine r_istore_n (ls' := [(0, vr a), (1, vi 0)]) dX4_isZero_1 rfl (by decide) rfl ?_
  exact V

theorem gX4_isZero_2 {w : WD} {d : Nat} {G : GM} {Q : Option AV → Hp → Prop} {B : HB} {a c : Nat} {n : NM} {x1 : Int} (oa : Obj B a 4 2) (ra : rf B a 0 = some c) (oc : Obj B c 101 64)
    (V :
    ((n a 1 ≤ x1 →
      Q (some (vi 1)) (B, n)) ∧
    (x1 < n a 1 →
      ((64 ≤ x1 →
        Q (some (vi 1)) (B, n)) ∧
      (x1 < 64 →
        (0 ≤ x1) ∧
        (x1 < 64) ∧
        ((n c x1 = 0 →
          (inI (x1 + 1)) ∧
          Rn w mX4_isZero d G Q 2 [(0, vr a), (1, vi (x1 + 1))] [] (B, n)) ∧
        (n c x1 ≠ 0 →
          Q (some (vi 0)) (B, n)))))))) :
    Rn w mX4_isZero d G Q 2 [(0, vr a), (1, vi x1)] [] (B, n) := by
  refine r_iload_n dX4_isZero_2 rfl rfl ?_
  refine r_aload_n dX4_isZero_3 rfl rfl ?_
  refine r_getI (fi := 1) dX4_isZero_4 fX4_13 oa (by decide) (by decide) rfl ?_
  obtain ⟨V1, V2⟩ := V
  refine r_jge (tgt := 35) dX4_isZero_7 (by decide) (fun c21 => ?_) (fun c21 => ?_)
  · have V := V1 c21
    refine r_iconst (x := 1) dX4_isZero_35 rfl (by decide) ?_
    exact r_zret dX4_isZero_36 rfl (by decide) V
  · have V := V2 c21
    refine r_iload_n dX4_isZero_10 rfl rfl ?_
    refine r_bipush (x := 64) dX4_isZero_11 (by decide +kernel) (by decide) ?_
    obtain ⟨V1, V2⟩ := V
    refine r_jge (tgt := 35) dX4_isZero_13 (by decide) (fun c22 => ?_) (fun c22 => ?_)
    · have V := V1 c22
      refine r_iconst (x := 1) dX4_isZero_35 rfl (by decide) ?_
      exact r_zret dX4_isZero_36 rfl (by decide) V
    · have V := V2 c22
      refine r_aload_n dX4_isZero_16 rfl rfl ?_
      refine r_getR (b := c) dX4_isZero_17 fX4_9 oa (by decide) rfl ra ?_
      refine r_iload_n dX4_isZero_20 rfl rfl ?_
      obtain ⟨s23, V⟩ := V
      obtain ⟨s24, V⟩ := V
      refine r_lald dX4_isZero_21 oc s23 s24 ?_
      refine r_lconst (x := 0) dX4_isZero_22 rfl (by decide) ?_
      obtain ⟨V1, V2⟩ := V
      refine r_leq dX4_isZero_23 rfl dX4_isZero_24 (tgt := 29) (by decide) (fun c25 => ?_) (fun c25 => ?_)
      · have V := V1 c25
        obtain ⟨s26, V⟩ := V
        refine r_iinc (y := x1 + 1) (ls' := [(0, vr a), (1, vi (x1 + 1))]) dX4_isZero_29 rfl rfl s26 (by decide) rfl ?_
        refine r_goto (tgt := 2) dX4_isZero_32 (by decide) ?_
        exact V
      · have V := V2 c25
        refine r_iconst (x := 0) dX4_isZero_27 rfl (by decide) ?_
        exact r_zret dX4_isZero_28 rfl (by decide) V

theorem gX4_multiply_0 {w : WD} {d : Nat} {G : GM} {Q : Option AV → Hp → Prop} {B : HB} {a c : Nat} {n : NM} {x1 : Int} (oa : Obj B a 4 2) (ra : rf B a 0 = some c) (oc : Obj B c 101 64)
    (V :
    Rn w mX4_multiply d G Q 5 [(0, vr a), (1, vl x1), (3, vl 0), (5, vi 0)] [] (B, n)) :
    Rn w mX4_multiply d G Q 0 [(0, vr a), (1, vl x1)] [] (B, n) := by
  refine r_lconst (x := 0) dX4_multiply_0 rfl (by decide) ?_
  refine r_lstore_n (ls' := [(0, vr a), (1, vl x1), (3, vl 0)]) dX4_multiply_1 rfl (by decide) rfl ?_
  refine r_iconst (x := 0) dX4_multiply_2 rfl (by decide) ?_
  refine r_istore (ls' := [(0, vr a), (1, vl x1), (3, vl 0), (5, vi 0)]) dX4_multiply_3 (by decide) rfl ?_
  exact V

theorem gX4_multiply_5 {w : WD} {d : Nat} {G : GM} {Q : Option AV → Hp → Prop} {B : HB} {a c : Nat} {n : NM} {x1 x3 x5 : Int} (oa : Obj B a 4 2) (ra : rf B a 0 = some c) (oc : Obj B c 101 64)
    (V :
    ((64 ≤ x5 →
      Q none (B, n)) ∧
    (x5 < 64 →
      ((x5 < n a 1 →
        Rn w mX4_multiply d G Q 27 [(0, vr a), (1, vl x1), (3, vl x3), (5, vi x5)] [] (B, n)) ∧
      (n a 1 ≤ x5 →
        ((x3 ≤ 0 →
          Q none (B, n)) ∧
        (0 < x3 →
          Rn w mX4_multiply d G Q 27 [(0, vr a), (1, vl x1), (3, vl x3), (5, vi x5)] [] (B, n)))))))) :
    Rn w mX4_multiply d G Q 5 [(0, vr a), (1, vl x1), (3, vl x3), (5, vi x5)] [] (B, n) := by
  refine r_iload dX4_multiply_5 rfl ?_
  refine r_bipush (x := 64) dX4_multiply_7 (by decide +kernel) (by decide) ?_
  obtain ⟨V1, V2⟩ := V
  refine r_jge (tgt := 81) dX4_multiply_9 (by decide) (fun c21 => ?_) (fun c21 => ?_)
  · have V := V1 c21
    exact r_ret dX4_multiply_81 rfl V
  · have V := V2 c21
    refine r_iload dX4_multiply_12 rfl ?_
    refine r_aload_n dX4_multiply_14 rfl rfl ?_
    refine r_getI (fi := 1) dX4_multiply_15 fX4_13 oa (by decide) (by decide) rfl ?_
    obtain ⟨V1, V2⟩ := V
    refine r_jlt (tgt := 27) dX4_multiply_18 (by decide) (fun c22 => ?_) (fun c22 => ?_)
    · have V := V1 c22
      exact V
    · have V := V2 c22
      refine r_lload_n dX4_multiply_21 rfl rfl ?_
      refine r_lconst (x := 0) dX4_multiply_22 rfl (by decide) ?_
      obtain ⟨V1, V2⟩ := V
      refine r_lle dX4_multiply_23 rfl dX4_multiply_24 (tgt := 81) (by decide) (fun c23 => ?_) (fun c23 => ?_)
      · have V := V1 c23
        exact r_ret dX4_multiply_81 rfl V
      · have V := V2 c23
        exact V

theorem gX4_multiply_27 {w : WD} {d : Nat} {G : GM} {Q : Option AV → Hp → Prop} {B : HB} {a c : Nat} {n : NM} {x1 x3 x5 : Int} (oa : Obj B a 4 2) (ra : rf B a 0 = some c) (oc : Obj B c 101 64)
    (V :
    (0 ≤ x5) ∧
    (x5 < 64) ∧
    (inJ ((n c x5) * x1)) ∧
    (inJ (((n c x5) * x1) + x3)) ∧
    (0 ≤ ((n c x5) * x1) + x3) ∧
    (0 ≤ x5) ∧
    (x5 < 64) ∧
    (0 ≤ ((n c x5) * x1) + x3) ∧
    (inI (x5 + 1)) ∧
    (inI (x5 + 1)) ∧
    Rn w mX4_multiply (d + 1) G Q 5 [(0, vr a), (1, vl x1), (3, vl ((((n c x5) * x1) + x3) / 1000000000)), (5, vi (x5 + 1))] [] (B, upn (upn n c x5 ((((n c x5) * x1) + x3) % 1000000000)) a 1 (max ((upn n c x5 ((((n c x5) * x1) + x3) % 1000000000)) a 1) (x5 + 1)))) :
    Rn w mX4_multiply (d + 1) G Q 27 [(0, vr a), (1, vl x1), (3, vl x3), (5, vi x5)] [] (B, n) := by
  refine r_aload_n dX4_multiply_27 rfl rfl ?_
  refine r_getR (b := c) dX4_multiply_28 fX4_9 oa (by decide) rfl ra ?_
  refine r_iload dX4_multiply_31 rfl ?_
  obtain ⟨s21, V⟩ := V
  obtain ⟨s22, V⟩ := V
  refine r_lald dX4_multiply_33 oc s21 s22 ?_
  refine r_lload_n dX4_multiply_34 rfl rfl ?_
  obtain ⟨s23, V⟩ := V
  refine r_lmul dX4_multiply_35 s23 ?_
  refine r_lload_n dX4_multiply_36 rfl rfl ?_
  obtain ⟨s24, V⟩ := V
  refine r_ladd dX4_multiply_37 s24 ?_
  refine r_lstore (ls' := [(0, vr a), (1, vl x1), (3, vl x3), (5, vi x5), (6, vl (((n c x5) * x1) + x3))]) dX4_multiply_38 (by decide) rfl ?_
  refine r_aload_n dX4_multiply_40 rfl rfl ?_
  refine r_getR (b := c) dX4_multiply_41 fX4_9 oa (by decide) rfl ra ?_
  refine r_iload dX4_multiply_44 rfl ?_
  refine r_lload dX4_multiply_46 rfl ?_
  refine r_ldc2 (x := 1000000000) dX4_multiply_48 qX4_29 (by decide) ?_
  obtain ⟨s25, V⟩ := V
  refine r_lrem dX4_multiply_51 s25 (by decide) ?_
  obtain ⟨s26, V⟩ := V
  obtain ⟨s27, V⟩ := V
  refine r_last (h' := (B, upn n c x5 ((((n c x5) * x1) + x3) % 1000000000))) dX4_multiply_52 oc s26 s27 rfl ?_
  refine r_lload dX4_multiply_53 rfl ?_
  refine r_ldc2 (x := 1000000000) dX4_multiply_55 qX4_29 (by decide) ?_
  obtain ⟨s28, V⟩ := V
  refine r_ldiv dX4_multiply_58 s28 (by decide) ?_
  refine r_lstore_n (ls' := [(0, vr a), (1, vl x1), (3, vl ((((n c x5) * x1) + x3) / 1000000000)), (5, vi x5), (6, vl (((n c x5) * x1) + x3))]) dX4_multiply_59 rfl (by decide) rfl ?_
  refine r_aload_n dX4_multiply_60 rfl rfl ?_
  refine r_aload_n dX4_multiply_61 rfl rfl ?_
  refine r_getI (fi := 1) dX4_multiply_62 fX4_13 oa (by decide) (by decide) rfl ?_
  refine r_iload dX4_multiply_65 rfl ?_
  refine r_iconst (x := 1) dX4_multiply_67 rfl (by decide) ?_
  obtain ⟨s29, V⟩ := V
  refine r_iadd dX4_multiply_68 s29 ?_
  refine r_mmax dX4_multiply_69 kX4_31 (Nat.le_of_ble_eq_true rfl) ?_
  refine r_putI (fi := 1) (h' := (B, upn (upn n c x5 ((((n c x5) * x1) + x3) % 1000000000)) a 1 (max ((upn n c x5 ((((n c x5) * x1) + x3) % 1000000000)) a 1) (x5 + 1)))) dX4_multiply_72 pX4_13 oa (by decide) rfl rfl rfl ?_
  obtain ⟨s30, V⟩ := V
  refine r_iinc (y := x5 + 1) (ls' := [(0, vr a), (1, vl x1), (3, vl ((((n c x5) * x1) + x3) / 1000000000)), (5, vi (x5 + 1)), (6, vl (((n c x5) * x1) + x3))]) dX4_multiply_75 rfl rfl s30 (by decide) rfl ?_
  refine r_goto (tgt := 5) dX4_multiply_78 (by decide) ?_
  refine r_pick [0, 1, 2, 3] (ls' := [(0, vr a), (1, vl x1), (3, vl ((((n c x5) * x1) + x3) / 1000000000)), (5, vi (x5 + 1))]) rfl ?_
  exact V

theorem gX4_multiplyOften_0 {w : WD} {d : Nat} {G : GM} {Q : Option AV → Hp → Prop} {B : HB} {a c : Nat} {n : NM} {x1 x2 : Int} (oa : Obj B a 4 2) (ra : rf B a 0 = some c) (oc : Obj B c 101 64)
    (V :
    (inJ (x1 * x1)) ∧
    (inJ ((x1 * x1) * x1)) ∧
    (inJ (((x1 * x1) * x1) * x1)) ∧
    Rn w mX4_multiplyOften d G Q 15 [(0, vr a), (1, vi x1), (3, vl (((x1 * x1) * x1) * x1)), (5, vi x2)] [] (B, n)) :
    Rn w mX4_multiplyOften d G Q 0 [(0, vr a), (1, vi x1), (2, vi x2)] [] (B, n) := by
  refine r_iload_n dX4_multiplyOften_0 rfl rfl ?_
  refine r_i2l dX4_multiplyOften_1 ?_
  refine r_iload_n dX4_multiplyOften_2 rfl rfl ?_
  refine r_i2l dX4_multiplyOften_3 ?_
  obtain ⟨s21, V⟩ := V
  refine r_lmul dX4_multiplyOften_4 s21 ?_
  refine r_iload_n dX4_multiplyOften_5 rfl rfl ?_
  refine r_i2l dX4_multiplyOften_6 ?_
  obtain ⟨s22, V⟩ := V
  refine r_lmul dX4_multiplyOften_7 s22 ?_
  refine r_iload_n dX4_multiplyOften_8 rfl rfl ?_
  refine r_i2l dX4_multiplyOften_9 ?_
  obtain ⟨s23, V⟩ := V
  refine r_lmul dX4_multiplyOften_10 s23 ?_
  refine r_lstore_n (ls' := [(0, vr a), (1, vi x1), (2, vi x2), (3, vl (((x1 * x1) * x1) * x1))]) dX4_multiplyOften_11 rfl (by decide) rfl ?_
  refine r_iload_n dX4_multiplyOften_12 rfl rfl ?_
  refine r_istore (ls' := [(0, vr a), (1, vi x1), (2, vi x2), (3, vl (((x1 * x1) * x1) * x1)), (5, vi x2)]) dX4_multiplyOften_13 (by decide) rfl ?_
  refine r_pick [0, 1, 3, 4] (ls' := [(0, vr a), (1, vi x1), (3, vl (((x1 * x1) * x1) * x1)), (5, vi x2)]) rfl ?_
  exact V

theorem gX4_multiplyOften_15 {w : WD} {d : Nat} {G : GM} {Q : Option AV → Hp → Prop} {B : HB} {a c : Nat} {n : NM} {x1 x3 x5 : Int} (oa : Obj B a 4 2) (ra : rf B a 0 = some c) (oc : Obj B c 101 64)
    (V :
    ((x5 ≤ 0 →
      Q none (B, n)) ∧
    (0 < x5 →
      ((x5 < 4 →
        (x5 ≠ 3 → x5 = 2 → inI (x1 * x1)) ∧
        (x5 = 3 → inJ (x1 * x1)) ∧
        (x5 = 3 → inJ ((x1 * x1) * x1)) ∧
        (∀ z28 : Int, z28 = (if x5 ≠ 3 then (if x5 ≠ 2 then x1 else x1 * x1) else (x1 * x1) * x1) → 
        (Ev w d 0 0 mX4_multiply [vr a, vl z28] (B, n) (fun r h' => ∃ n29 : NM, r = none ∧ h' = (B, n29) ∧ 
          (inI (x5 + (-4))) ∧
          Rn w mX4_multiplyOften (d + 1) G Q 15 [(0, vr a), (1, vi x1), (3, vl x3), (5, vi (x5 + (-4)))] [] (B, n29))))) ∧
      (4 ≤ x5 →
        (Ev w d 0 0 mX4_multiply [vr a, vl x3] (B, n) (fun r h' => ∃ n31 : NM, r = none ∧ h' = (B, n31) ∧ 
          (inI (x5 + (-4))) ∧
          Rn w mX4_multiplyOften (d + 1) G Q 15 [(0, vr a), (1, vi x1), (3, vl x3), (5, vi (x5 + (-4)))] [] (B, n31)))))))) :
    Rn w mX4_multiplyOften (d + 1) G Q 15 [(0, vr a), (1, vi x1), (3, vl x3), (5, vi x5)] [] (B, n) := by
  refine r_iload dX4_multiplyOften_15 rfl ?_
  obtain ⟨V1, V2⟩ := V
  refine r_zle (tgt := 76) dX4_multiplyOften_17 (by decide) (fun c21 => ?_) (fun c21 => ?_)
  · have V := V1 c21
    exact r_ret dX4_multiplyOften_76 rfl V
  · have V := V2 c21
    refine r_iload dX4_multiplyOften_20 rfl ?_
    refine r_iconst (x := 4) dX4_multiplyOften_22 rfl (by decide) ?_
    obtain ⟨V1, V2⟩ := V
    refine r_jlt (tgt := 34) dX4_multiplyOften_23 (by decide) (fun c22 => ?_) (fun c22 => ?_)
    · have V := V1 c22
      refine r_aload_n dX4_multiplyOften_34 rfl rfl ?_
      refine r_iload dX4_multiplyOften_35 rfl ?_
      refine r_iconst (x := 3) dX4_multiplyOften_37 rfl (by decide) ?_
      obtain ⟨s25, V⟩ := V
      obtain ⟨s26, V⟩ := V
      obtain ⟨s27, V⟩ := V
      have K : ∀ z28 : Int, z28 = (if x5 ≠ 3 then (if x5 ≠ 2 then x1 else x1 * x1) else (x1 * x1) * x1) → Rn w mX4_multiplyOften (d + 1) G Q 67 [(0, vr a), (1, vi x1), (3, vl x3), (5, vi x5)] [vl z28, vr a] (B, n) := by
        intro z28 ez28
        have V := V z28 ez28
        refine r_callV (args := [vl z28]) dX4_multiplyOften_67 kX4_37 oa ⟨_, _, rfl⟩ (by decide) rfl rfl (Nat.le_of_ble_eq_true rfl) cap0 (Ev.mono V ?_)
        rintro r h' ⟨n29, rfl, rfl, V⟩
        show Rn w mX4_multiplyOften (d + 1) G Q 70 [(0, vr a), (1, vi x1), (3, vl x3), (5, vi x5)] [] (B, n29)
        obtain ⟨s30, V⟩ := V
        refine r_iinc (y := x5 + (-4)) (ls' := [(0, vr a), (1, vi x1), (3, vl x3), (5, vi (x5 + (-4)))]) dX4_multiplyOften_70 rfl rfl s30 (by decide) rfl ?_
        refine r_goto (tgt := 15) dX4_multiplyOften_73 (by decide) ?_
        exact V
      refine r_jne (tgt := 52) dX4_multiplyOften_38 (by decide) (fun c23 => ?_) (fun c23 => ?_)
      · refine r_iload dX4_multiplyOften_52 rfl ?_
        refine r_iconst (x := 2) dX4_multiplyOften_54 rfl (by decide) ?_
        refine r_jne (tgt := 65) dX4_multiplyOften_55 (by decide) (fun c24 => ?_) (fun c24 => ?_)
        · refine r_iload_n dX4_multiplyOften_65 rfl rfl ?_
          refine r_i2l dX4_multiplyOften_66 ?_
          exact K x1 (by first | rfl | (simp only [if_pos c23, if_pos c24]))
        · refine r_iload_n dX4_multiplyOften_58 rfl rfl ?_
          refine r_iload_n dX4_multiplyOften_59 rfl rfl ?_
          refine r_imul dX4_multiplyOften_60 (s25 c23 c24) ?_
          refine r_i2l dX4_multiplyOften_61 ?_
          refine r_goto (tgt := 67) dX4_multiplyOften_62 (by decide) ?_
          exact K (x1 * x1) (by first | rfl | (simp only [if_pos c23, if_neg (show ¬ (x5 ≠ 2) from not_not_intro c24)]))
      · refine r_iload_n dX4_multiplyOften_41 rfl rfl ?_
        refine r_i2l dX4_multiplyOften_42 ?_
        refine r_iload_n dX4_multiplyOften_43 rfl rfl ?_
        refine r_i2l dX4_multiplyOften_44 ?_
        refine r_lmul dX4_multiplyOften_45 (s26 c23) ?_
        refine r_iload_n dX4_multiplyOften_46 rfl rfl ?_
        refine r_i2l dX4_multiplyOften_47 ?_
        refine r_lmul dX4_multiplyOften_48 (s27 c23) ?_
        refine r_goto (tgt := 67) dX4_multiplyOften_49 (by decide) ?_
        exact K ((x1 * x1) * x1) (by first | rfl | (simp only [if_neg (show ¬ (x5 ≠ 3) from not_not_intro c23)]))
    · have V := V2 c22
      refine r_aload_n dX4_multiplyOften_26 rfl rfl ?_
      refine r_lload_n dX4_multiplyOften_27 rfl rfl ?_
      refine r_callV (args := [vl x3]) dX4_multiplyOften_28 kX4_37 oa ⟨_, _, rfl⟩ (by decide) rfl rfl (Nat.le_of_ble_eq_true rfl) cap0 (Ev.mono V ?_)
      rintro r h' ⟨n31, rfl, rfl, V⟩
      show Rn w mX4_multiplyOften (d + 1) G Q 31 [(0, vr a), (1, vi x1), (3, vl x3), (5, vi x5)] [] (B, n31)
      refine r_goto (tgt := 70) dX4_multiplyOften_31 (by decide) ?_
      obtain ⟨s32, V⟩ := V
      refine r_iinc (y := x5 + (-4)) (ls' := [(0, vr a), (1, vi x1), (3, vl x3), (5, vi (x5 + (-4)))]) dX4_multiplyOften_70 rfl rfl s32 (by decide) rfl ?_
      refine r_goto (tgt := 15) dX4_multiplyOften_73 (by decide) ?_
      exact V

theorem gX4_increaseBy_0 {w : WD} {d : Nat} {G : GM} {Q : Option AV → Hp → Prop} {B : HB} {a c : Nat} {b e : Nat} {n : NM} (oa : Obj B a 4 2) (ra : rf B a 0 = some c) (oc : Obj B c 101 64) (ob : Obj B b 4 2) (rb : rf B b 0 = some e) (oe : Obj B e 101 64)
    (V :
    Rn w mX4_increaseBy (d + 1) G Q 20 [(0, vr a), (1, vr b), (2, vl 0), (4, vi 0)] [] (B, upn n a 1 (max (n a 1) (n b 1)))) :
    Rn w mX4_increaseBy (d + 1) G Q 0 [(0, vr a), (1, vr b)] [] (B, n) := by
  refine r_lconst (x := 0) dX4_increaseBy_0 rfl (by decide) ?_
  refine r_lstore_n (ls' := [(0, vr a), (1, vr b), (2, vl 0)]) dX4_increaseBy_1 rfl (by decide) rfl ?_
  refine r_aload_n dX4_increaseBy_2 rfl rfl ?_
  refine r_aload_n dX4_increaseBy_3 rfl rfl ?_
  refine r_getI (fi := 1) dX4_increaseBy_4 fX4_13 oa (by decide) (by decide) rfl ?_
  refine r_aload_n dX4_increaseBy_7 rfl rfl ?_
  refine r_getI (fi := 1) dX4_increaseBy_8 fX4_13 ob (by decide) (by decide) rfl ?_
  refine r_mmax dX4_increaseBy_11 kX4_31 (Nat.le_of_ble_eq_true rfl) ?_
  refine r_putI (fi := 1) (h' := (B, upn n a 1 (max (n a 1) (n b 1)))) dX4_increaseBy_14 pX4_13 oa (by decide) rfl rfl rfl ?_
  refine r_iconst (x := 0) dX4_increaseBy_17 rfl (by decide) ?_
  refine r_istore (ls' := [(0, vr a), (1, vr b), (2, vl 0), (4, vi 0)]) dX4_increaseBy_18 (by decide) rfl ?_
  exact V

theorem gX4_increaseBy_20 {w : WD} {d : Nat} {G : GM} {Q : Option AV → Hp → Prop} {B : HB} {a c : Nat} {b e : Nat} {n : NM} {x2 x4 : Int} (oa : Obj B a 4 2) (ra : rf B a 0 = some c) (oc : Obj B c 101 64) (ob : Obj B b 4 2) (rb : rf B b 0 = some e) (oe : Obj B e 101 64)
    (V :
    ((64 ≤ x4 →
      Q none (B, n)) ∧
    (x4 < 64 →
      ((x4 < n a 1 →
        Rn w mX4_increaseBy d G Q 42 [(0, vr a), (1, vr b), (2, vl x2), (4, vi x4)] [] (B, n)) ∧
      (n a 1 ≤ x4 →
        ((x2 ≤ 0 →
          Q none (B, n)) ∧
        (0 < x2 →
          Rn w mX4_increaseBy d G Q 42 [(0, vr a), (1, vr b), (2, vl x2), (4, vi x4)] [] (B, n)))))))) :
    Rn w mX4_increaseBy d G Q 20 [(0, vr a), (1, vr b), (2, vl x2), (4, vi x4)] [] (B, n) := by
  refine r_iload dX4_increaseBy_20 rfl ?_
  refine r_bipush (x := 64) dX4_increaseBy_22 (by decide +kernel) (by decide) ?_
  obtain ⟨V1, V2⟩ := V
  refine r_jge (tgt := 102) dX4_increaseBy_24 (by decide) (fun c21 => ?_) (fun c21 => ?_)
  · have V := V1 c21
    exact r_ret dX4_increaseBy_102 rfl V
  · have V := V2 c21
    refine r_iload dX4_increaseBy_27 rfl ?_
    refine r_aload_n dX4_increaseBy_29 rfl rfl ?_
    refine r_getI (fi := 1) dX4_increaseBy_30 fX4_13 oa (by decide) (by decide) rfl ?_
    obtain ⟨V1, V2⟩ := V
    refine r_jlt (tgt := 42) dX4_increaseBy_33 (by decide) (fun c22 => ?_) (fun c22 => ?_)
    · have V := V1 c22
      exact V
    · have V := V2 c22
      refine r_lload_n dX4_increaseBy_36 rfl rfl ?_
      refine r_lconst (x := 0) dX4_increaseBy_37 rfl (by decide) ?_
      obtain ⟨V1, V2⟩ := V
      refine r_lle dX4_increaseBy_38 rfl dX4_increaseBy_39 (tgt := 102) (by decide) (fun c23 => ?_) (fun c23 => ?_)
      · have V := V1 c23
        exact r_ret dX4_increaseBy_102 rfl V
      · have V := V2 c23
        exact V

theorem gX4_increaseBy_42 {w : WD} {d : Nat} {G : GM} {Q : Option AV → Hp → Prop} {B : HB} {a c : Nat} {b e : Nat} {n : NM} {x2 x4 : Int} (oa : Obj B a 4 2) (ra : rf B a 0 = some c) (oc : Obj B c 101 64) (ob : Obj B b 4 2) (rb : rf B b 0 = some e) (oe : Obj B e 101 64)
    (V :
    (0 ≤ x4) ∧
    (x4 < 64) ∧
    (0 ≤ x4) ∧
    (x4 < 64) ∧
    (inJ ((n c x4) + (n e x4))) ∧
    (inJ (((n c x4) + (n e x4)) + x2)) ∧
    (0 ≤ ((n c x4) + (n e x4)) + x2) ∧
    (0 ≤ x4) ∧
    (x4 < 64) ∧
    (0 ≤ ((n c x4) + (n e x4)) + x2) ∧
    (inI (x4 + 1)) ∧
    (inI (x4 + 1)) ∧
    Rn w mX4_increaseBy (d + 1) G Q 20 [(0, vr a), (1, vr b), (2, vl ((((n c x4) + (n e x4)) + x2) / 1000000000)), (4, vi (x4 + 1))] [] (B, upn (upn n c x4 ((((n c x4) + (n e x4)) + x2) % 1000000000)) a 1 (max ((upn n c x4 ((((n c x4) + (n e x4)) + x2) % 1000000000)) a 1) (x4 + 1)))) :
    Rn w mX4_increaseBy (d + 1) G Q 42 [(0, vr a), (1, vr b), (2, vl x2), (4, vi x4)] [] (B, n) := by
  refine r_aload_n dX4_increaseBy_42 rfl rfl ?_
  refine r_getR (b := c) dX4_increaseBy_43 fX4_9 oa (by decide) rfl ra ?_
  refine r_iload dX4_increaseBy_46 rfl ?_
  obtain ⟨s21, V⟩ := V
  obtain ⟨s22, V⟩ := V
  refine r_lald dX4_increaseBy_48 oc s21 s22 ?_
  refine r_aload_n dX4_increaseBy_49 rfl rfl ?_
  refine r_getR (b := e) dX4_increaseBy_50 fX4_9 ob (by decide) rfl rb ?_
  refine r_iload dX4_increaseBy_53 rfl ?_
  obtain ⟨s23, V⟩ := V
  obtain ⟨s24, V⟩ := V
  refine r_lald dX4_increaseBy_55 oe s23 s24 ?_
  obtain ⟨s25, V⟩ := V
  refine r_ladd dX4_increaseBy_56 s25 ?_
  refine r_lload_n dX4_increaseBy_57 rfl rfl ?_
  obtain ⟨s26, V⟩ := V
  refine r_ladd dX4_increaseBy_58 s26 ?_
  refine r_lstore (ls' := [(0, vr a), (1, vr b), (2, vl x2), (4, vi x4), (5, vl (((n c x4) + (n e x4)) + x2))]) dX4_increaseBy_59 (by decide) rfl ?_
  refine r_aload_n dX4_increaseBy_61 rfl rfl ?_
  refine r_getR (b := c) dX4_increaseBy_62 fX4_9 oa (by decide) rfl ra ?_
  refine r_iload dX4_increaseBy_65 rfl ?_
  refine r_lload dX4_increaseBy_67 rfl ?_
  refine r_ldc2 (x := 1000000000) dX4_increaseBy_69 qX4_29 (by decide) ?_
  obtain ⟨s27, V⟩ := V
  refine r_lrem dX4_increaseBy_72 s27 (by decide) ?_
  obtain ⟨s28, V⟩ := V
  obtain ⟨s29, V⟩ := V
  refine r_last (h' := (B, upn n c x4 ((((n c x4) + (n e x4)) + x2) % 1000000000))) dX4_increaseBy_73 oc s28 s29 rfl ?_
  refine r_lload dX4_increaseBy_74 rfl ?_
  refine r_ldc2 (x := 1000000000) dX4_increaseBy_76 qX4_29 (by decide) ?_
  obtain ⟨s30, V⟩ := V
  refine r_ldiv dX4_increaseBy_79 s30 (by decide) ?_
  refine r_lstore_n (ls' := [(0, vr a), (1, vr b), (2, vl ((((n c x4) + (n e x4)) + x2) / 1000000000)), (4, vi x4), (5, vl (((n c x4) + (n e x4)) + x2))]) dX4_increaseBy_80 rfl (by decide) rfl ?_
  refine r_aload_n dX4_increaseBy_81 rfl rfl ?_
  refine r_aload_n dX4_increaseBy_82 rfl rfl ?_
  refine r_getI (fi := 1) dX4_increaseBy_83 fX4_13 oa (by decide) (by decide) rfl ?_
  refine r_iload dX4_increaseBy_86 rfl ?_
  refine r_iconst (x := 1) dX4_increaseBy_88 rfl (by decide) ?_
  obtain ⟨s31, V⟩ := V
  refine r_iadd dX4_increaseBy_89 s31 ?_
  refine r_mmax dX4_increaseBy_90 kX4_31 (Nat.le_of_ble_eq_true rfl) ?_
  refine r_putI (fi := 1) (h' := (B, upn (upn n c x4 ((((n c x4) + (n e x4)) + x2) % 1000000000)) a 1 (max ((upn n c x4 ((((n c x4) + (n e x4)) + x2) % 1000000000)) a 1) (x4 + 1)))) dX4_increaseBy_93 pX4_13 oa (by decide) rfl rfl rfl ?_
  obtain ⟨s32, V⟩ := V
  refine r_iinc (y := x4 + 1) (ls' := [(0, vr a), (1, vr b), (2, vl ((((n c x4) + (n e x4)) + x2) / 1000000000)), (4, vi (x4 + 1)), (5, vl (((n c x4) + (n e x4)) + x2))]) dX4_increaseBy_96 rfl rfl s32 (by decide) rfl ?_
  refine r_goto (tgt := 20) dX4_increaseBy_99 (by decide) ?_
  refine r_pick [0, 1, 2, 3] (ls' := [(0, vr a), (1, vr b), (2, vl ((((n c x4) + (n e x4)) + x2) / 1000000000)), (4, vi (x4 + 1))]) rfl ?_
  exact V

theorem gX4_decreaseBy_0 {w : WD} {d : Nat} {G : GM} {Q : Option AV → Hp → Prop} {B : HB} {a c : Nat} {b e : Nat} {n : NM} (oa : Obj B a 4 2) (ra : rf B a 0 = some c) (oc : Obj B c 101 64) (ob : Obj B b 4 2) (rb : rf B b 0 = some e) (oe : Obj B e 101 64)
    (V :
    Rn w mX4_decreaseBy d G Q 5 [(0, vr a), (1, vr b), (2, vl 0), (4, vi 0)] [] (B, n)) :
    Rn w mX4_decreaseBy d G Q 0 [(0, vr a), (1, vr b)] [] (B, n) := by
  refine r_lconst (x := 0) dX4_decreaseBy_0 rfl (by decide) ?_
  refine r_lstore_n (ls' := [(0, vr a), (1, vr b), (2, vl 0)]) dX4_decreaseBy_1 rfl (by decide) rfl ?_
  refine r_iconst (x := 0) dX4_decreaseBy_2 rfl (by decide) ?_
  refine r_istore (ls' := [(0, vr a), (1, vr b), (2, vl 0), (4, vi 0)]) dX4_decreaseBy_3 (by decide) rfl ?_
  exact V

theorem gX4_decreaseBy_5 {w : WD} {d : Nat} {G : GM} {Q : Option AV → Hp → Prop} {B : HB} {a c : Nat} {b e : Nat} {n : NM} {x2 x4 : Int} (oa : Obj B a 4 2) (ra : rf B a 0 = some c) (oc : Obj B c 101 64) (ob : Obj B b 4 2) (rb : rf B b 0 = some e) (oe : Obj B e 101 64)
    (V :
    ((64 ≤ x4 →
      Q none (B, n)) ∧
    (x4 < 64 →
      ((n a 1 ≤ x4 →
        Q none (B, n)) ∧
      (x4 < n a 1 →
        (0 ≤ x4) ∧
        (x4 < 64) ∧
        (0 ≤ x4) ∧
        (x4 < 64) ∧
        (inJ ((n c x4) - (n e x4))) ∧
        (inJ (((n c x4) - (n e x4)) - x2)) ∧
        (∀ z30 : Int, z30 = (if 0 ≤ ((n c x4) - (n e x4)) - x2 then 0 else 1) → 
        (inJ (z30 * 1000000000)) ∧
        (inJ ((((n c x4) - (n e x4)) - x2) + (z30 * 1000000000))) ∧
        (0 ≤ x4) ∧
        (x4 < 64) ∧
        (inI (x4 + 1)) ∧
        Rn w mX4_decreaseBy d G Q 5 [(0, vr a), (1, vr b), (2, vl z30), (4, vi (x4 + 1))] [] (B, upn n c x4 ((((n c x4) - (n e x4)) - x2) + (z30 * 1000000000))))))))) :
    Rn w mX4_decreaseBy d G Q 5 [(0, vr a), (1, vr b), (2, vl x2), (4, vi x4)] [] (B, n) := by
  refine r_iload dX4_decreaseBy_5 rfl ?_
  refine r_bipush (x := 64) dX4_decreaseBy_7 (by decide +kernel) (by decide) ?_
  obtain ⟨V1, V2⟩ := V
  refine r_jge (tgt := 74) dX4_decreaseBy_9 (by decide) (fun c21 => ?_) (fun c21 => ?_)
  · have V := V1 c21
    exact r_ret dX4_decreaseBy_74 rfl V
  · have V := V2 c21
    refine r_iload dX4_decreaseBy_12 rfl ?_
    refine r_aload_n dX4_decreaseBy_14 rfl rfl ?_
    refine r_getI (fi := 1) dX4_decreaseBy_15 fX4_13 oa (by decide) (by decide) rfl ?_
    obtain ⟨V1, V2⟩ := V
    refine r_jge (tgt := 74) dX4_decreaseBy_18 (by decide) (fun c22 => ?_) (fun c22 => ?_)
    · have V := V1 c22
      exact r_ret dX4_decreaseBy_74 rfl V
    · have V := V2 c22
      refine r_aload_n dX4_decreaseBy_21 rfl rfl ?_
      refine r_getR (b := c) dX4_decreaseBy_22 fX4_9 oa (by decide) rfl ra ?_
      refine r_iload dX4_decreaseBy_25 rfl ?_
      obtain ⟨s23, V⟩ := V
      obtain ⟨s24, V⟩ := V
      refine r_lald dX4_decreaseBy_27 oc s23 s24 ?_
      refine r_aload_n dX4_decreaseBy_28 rfl rfl ?_
      refine r_getR (b := e) dX4_decreaseBy_29 fX4_9 ob (by decide) rfl rb ?_
      refine r_iload dX4_decreaseBy_32 rfl ?_
      obtain ⟨s25, V⟩ := V
      obtain ⟨s26, V⟩ := V
      refine r_lald dX4_decreaseBy_34 oe s25 s26 ?_
      obtain ⟨s27, V⟩ := V
      refine r_lsub dX4_decreaseBy_35 s27 ?_
      refine r_lload_n dX4_decreaseBy_36 rfl rfl ?_
      obtain ⟨s28, V⟩ := V
      refine r_lsub dX4_decreaseBy_37 s28 ?_
      refine r_lstore (ls' := [(0, vr a), (1, vr b), (2, vl x2), (4, vi x4), (5, vl (((n c x4) - (n e x4)) - x2))]) dX4_decreaseBy_38 (by decide) rfl ?_
      refine r_lload dX4_decreaseBy_40 rfl ?_
      refine r_lconst (x := 0) dX4_decreaseBy_42 rfl (by decide) ?_
      have K : ∀ z30 : Int, z30 = (if 0 ≤ ((n c x4) - (n e x4)) - x2 then 0 else 1) → Rn w mX4_decreaseBy d G Q 52 [(0, vr a), (1, vr b), (4, vi x4), (5, vl (((n c x4) - (n e x4)) - x2))] [vl z30] (B, n) := by
        intro z30 ez30
        have V := V z30 ez30
        refine r_lstore_n (ls' := [(0, vr a), (1, vr b), (2, vl z30), (4, vi x4), (5, vl (((n c x4) - (n e x4)) - x2))]) dX4_decreaseBy_52 rfl (by decide) rfl ?_
        refine r_aload_n dX4_decreaseBy_53 rfl rfl ?_
        refine r_getR (b := c) dX4_decreaseBy_54 fX4_9 oa (by decide) rfl ra ?_
        refine r_iload dX4_decreaseBy_57 rfl ?_
        refine r_lload dX4_decreaseBy_59 rfl ?_
        refine r_lload_n dX4_decreaseBy_61 rfl rfl ?_
        refine r_ldc2 (x := 1000000000) dX4_decreaseBy_62 qX4_29 (by decide) ?_
        obtain ⟨s31, V⟩ := V
        refine r_lmul dX4_decreaseBy_65 s31 ?_
        obtain ⟨s32, V⟩ := V
        refine r_ladd dX4_decreaseBy_66 s32 ?_
        obtain ⟨s33, V⟩ := V
        obtain ⟨s34, V⟩ := V
        refine r_last (h' := (B, upn n c x4 ((((n c x4) - (n e x4)) - x2) + (z30 * 1000000000)))) dX4_decreaseBy_67 oc s33 s34 rfl ?_
        obtain ⟨s35, V⟩ := V
        refine r_iinc (y := x4 + 1) (ls' := [(0, vr a), (1, vr b), (2, vl z30), (4, vi (x4 + 1)), (5, vl (((n c x4) - (n e x4)) - x2))]) dX4_decreaseBy_68 rfl rfl s35 (by decide) rfl ?_
        refine r_goto (tgt := 5) dX4_decreaseBy_71 (by decide) ?_
        refine r_pick [0, 1, 2, 3] (ls' := [(0, vr a), (1, vr b), (2, vl z30), (4, vi (x4 + 1))]) rfl ?_
        exact V
      refine r_lge dX4_decreaseBy_43 rfl dX4_decreaseBy_44 (tgt := 51) (by decide) (fun c29 => ?_) (fun c29 => ?_)
      · refine r_lconst (x := 0) dX4_decreaseBy_51 rfl (by decide) ?_
        refine r_pick [0, 1, 3, 4] (ls' := [(0, vr a), (1, vr b), (4, vi x4), (5, vl (((n c x4) - (n e x4)) - x2))]) rfl ?_
        exact K 0 (by first | rfl | (simp only [if_pos c29]))
      · refine r_lconst (x := 1) dX4_decreaseBy_47 rfl (by decide) ?_
        refine r_goto (tgt := 52) dX4_decreaseBy_48 (by decide) ?_
        refine r_pick [0, 1, 3, 4] (ls' := [(0, vr a), (1, vr b), (4, vi x4), (5, vl (((n c x4) - (n e x4)) - x2))]) rfl ?_
        exact K 1 (by first | rfl | (simp only [if_neg (Int.not_le.mpr c29)]))

theorem gX4_isAbove_0 {w : WD} {d : Nat} {G : GM} {Q : Option AV → Hp → Prop} {B : HB} {a c : Nat} {b e : Nat} {n : NM} (oa : Obj B a 4 2) (ra : rf B a 0 = some c) (oc : Obj B c 101 64) (ob : Obj B b 4 2) (rb : rf B b 0 = some e) (oe : Obj B e 101 64)
    (V :
    (inI ((min (max (n a 1) (n b 1)) 64) - 1)) ∧
    Rn w mX4_isAbove (d + 1) G Q 19 [(0, vr a), (1, vr b), (2, vi ((min (max (n a 1) (n b 1)) 64) - 1))] [] (B, n)) :
    Rn w mX4_isAbove (d + 1) G Q 0 [(0, vr a), (1, vr b)] [] (B, n) := by
  refine r_aload_n dX4_isAbove_0 rfl rfl ?_
  refine r_getI (fi := 1) dX4_isAbove_1 fX4_13 oa (by decide) (by decide) rfl ?_
  refine r_aload_n dX4_isAbove_4 rfl rfl ?_
  refine r_getI (fi := 1) dX4_isAbove_5 fX4_13 ob (by decide) (by decide) rfl ?_
  refine r_mmax dX4_isAbove_8 kX4_31 (Nat.le_of_ble_eq_true rfl) ?_
  refine r_bipush (x := 64) dX4_isAbove_11 (by decide +kernel) (by decide) ?_
  refine r_mmin dX4_isAbove_13 kX4_41 (Nat.le_of_ble_eq_true rfl) ?_
  refine r_iconst (x := 1) dX4_isAbove_16 rfl (by decide) ?_
  obtain ⟨s21, V⟩ := V
  refine r_isub dX4_isAbove_17 s21 ?_
  refine r_istore_n (ls' := [(0, vr a), (1, vr b), (2, vi ((min (max (n a 1) (n b 1)) 64) - 1))]) dX4_isAbove_18 rfl (by decide) rfl ?_
  exact V

theorem gX4_isAbove_19 {w : WD} {d : Nat} {G : GM} {Q : Option AV → Hp → Prop} {B : HB} {a c : Nat} {b e : Nat} {n : NM} {x2 : Int} (oa : Obj B a 4 2) (ra : rf B a 0 = some c) (oc : Obj B c 101 64) (ob : Obj B b 4 2) (rb : rf B b 0 = some e) (oe : Obj B e 101 64)
    (V :
    ((x2 < 0 →
      Q (some (vi 0)) (B, n)) ∧
    (0 ≤ x2 →
      (0 ≤ x2) ∧
      (x2 < 64) ∧
      (0 ≤ x2) ∧
      (x2 < 64) ∧
      ((n c x2 = n e x2 →
        (inI (x2 + (-1))) ∧
        Rn w mX4_isAbove d G Q 19 [(0, vr a), (1, vr b), (2, vi (x2 + (-1)))] [] (B, n)) ∧
      (n c x2 ≠ n e x2 →
        (0 ≤ x2) ∧
        (x2 < 64) ∧
        (0 ≤ x2) ∧
        (x2 < 64) ∧
        ((n c x2 ≤ n e x2 →
          Q (some (vi 0)) (B, n)) ∧
        (n e x2 < n c x2 →
          Q (some (vi 1)) (B, n)))))))) :
    Rn w mX4_isAbove d G Q 19 [(0, vr a), (1, vr b), (2, vi x2)] [] (B, n) := by
  refine r_iload_n dX4_isAbove_19 rfl rfl ?_
  obtain ⟨V1, V2⟩ := V
  refine r_zlt (tgt := 67) dX4_isAbove_20 (by decide) (fun c21 => ?_) (fun c21 => ?_)
  · have V := V1 c21
    refine r_iconst (x := 0) dX4_isAbove_67 rfl (by decide) ?_
    exact r_zret dX4_isAbove_68 rfl (by decide) V
  · have V := V2 c21
    refine r_aload_n dX4_isAbove_23 rfl rfl ?_
    refine r_getR (b := c) dX4_isAbove_24 fX4_9 oa (by decide) rfl ra ?_
    refine r_iload_n dX4_isAbove_27 rfl rfl ?_
    obtain ⟨s22, V⟩ := V
    obtain ⟨s23, V⟩ := V
    refine r_lald dX4_isAbove_28 oc s22 s23 ?_
    refine r_aload_n dX4_isAbove_29 rfl rfl ?_
    refine r_getR (b := e) dX4_isAbove_30 fX4_9 ob (by decide) rfl rb ?_
    refine r_iload_n dX4_isAbove_33 rfl rfl ?_
    obtain ⟨s24, V⟩ := V
    obtain ⟨s25, V⟩ := V
    refine r_lald dX4_isAbove_34 oe s24 s25 ?_
    obtain ⟨V1, V2⟩ := V
    refine r_leq dX4_isAbove_35 rfl dX4_isAbove_36 (tgt := 61) (by decide) (fun c26 => ?_) (fun c26 => ?_)
    · have V := V1 c26
      obtain ⟨s27, V⟩ := V
      refine r_iinc (y := x2 + (-1)) (ls' := [(0, vr a), (1, vr b), (2, vi (x2 + (-1)))]) dX4_isAbove_61 rfl rfl s27 (by decide) rfl ?_
      refine r_goto (tgt := 19) dX4_isAbove_64 (by decide) ?_
      exact V
    · have V := V2 c26
      refine r_aload_n dX4_isAbove_39 rfl rfl ?_
      refine r_getR (b := c) dX4_isAbove_40 fX4_9 oa (by decide) rfl ra ?_
      refine r_iload_n dX4_isAbove_43 rfl rfl ?_
      obtain ⟨s28, V⟩ := V
      obtain ⟨s29, V⟩ := V
      refine r_lald dX4_isAbove_44 oc s28 s29 ?_
      refine r_aload_n dX4_isAbove_45 rfl rfl ?_
      refine r_getR (b := e) dX4_isAbove_46 fX4_9 ob (by decide) rfl rb ?_
      refine r_iload_n dX4_isAbove_49 rfl rfl ?_
      obtain ⟨s30, V⟩ := V
      obtain ⟨s31, V⟩ := V
      refine r_lald dX4_isAbove_50 oe s30 s31 ?_
      obtain ⟨V1, V2⟩ := V
      refine r_lle dX4_isAbove_51 rfl dX4_isAbove_52 (tgt := 59) (by decide) (fun c32 => ?_) (fun c32 => ?_)
      · have V := V1 c32
        refine r_iconst (x := 0) dX4_isAbove_59 rfl (by decide) ?_
        exact r_zret dX4_isAbove_60 rfl (by decide) V
      · have V := V2 c32
        refine r_iconst (x := 1) dX4_isAbove_55 rfl (by decide) ?_
        refine r_goto (tgt := 60) dX4_isAbove_56 (by decide) ?_
        exact r_zret dX4_isAbove_60 rfl (by decide) V
theorem gX8_size_0 {w : WD} {d : Nat} {G : GM} {Q : Option AV → Hp → Prop} {n : NM}
    (V :
    Q (some (vi (n 35 1))) (B0, n)) :
    Rn w mX8_size d G Q 0 [(0, vr 35)] [] (B0, n) := by
  refine r_aload_n dX8_size_0 rfl rfl ?_
  refine r_getI (fi := 1) dX8_size_1 fX8_15 ob_35 (by decide) (by decide) rfl ?_
  exact r_iret dX8_size_4 rfl V

theorem gX8_at_0 {w : WD} {d : Nat} {G : GM} {Q : Option AV → Hp → Prop} {n : NM} {x1 : Int}
    (V :
    ((x1 < 0 →
      Q (some (vi (-1))) (B0, n)) ∧
    (0 ≤ x1 →
      ((n 35 1 ≤ x1 →
        Q (some (vi (-1))) (B0, n)) ∧
      (x1 < n 35 1 →
        ((400 ≤ x1 →
          Q (some (vi (-1))) (B0, n)) ∧
        (x1 < 400 →
          (0 ≤ x1) ∧
          (x1 < 400) ∧
          Q (some (vi (n 36 x1))) (B0, n)))))))) :
    Rn w mX8_at d G Q 0 [(0, vr 35), (1, vi x1)] [] (B0, n) := by
  refine r_iload_n dX8_at_0 rfl rfl ?_
  obtain ⟨V1, V2⟩ := V
  refine r_zlt (tgt := 30) dX8_at_1 (by decide) (fun c21 => ?_) (fun c21 => ?_)
  · have V := V1 c21
    refine r_iconst (x := -1) dX8_at_30 rfl (by decide) ?_
    exact r_iret dX8_at_31 rfl V
  · have V := V2 c21
    refine r_iload_n dX8_at_4 rfl rfl ?_
    refine r_aload_n dX8_at_5 rfl rfl ?_
    refine r_getI (fi := 1) dX8_at_6 fX8_15 ob_35 (by decide) (by decide) rfl ?_
    obtain ⟨V1, V2⟩ := V
    refine r_jge (tgt := 30) dX8_at_9 (by decide) (fun c22 => ?_) (fun c22 => ?_)
    · have V := V1 c22
      refine r_iconst (x := -1) dX8_at_30 rfl (by decide) ?_
      exact r_iret dX8_at_31 rfl V
    · have V := V2 c22
      refine r_iload_n dX8_at_12 rfl rfl ?_
      refine r_aload_n dX8_at_13 rfl rfl ?_
      refine r_getR (b := 36) dX8_at_14 fX8_9 ob_35 (by decide) rfl rfl ?_
      refine r_alen (c := 0) (x := 400) dX8_at_17 ob_36 (by decide) rfl (by decide) ?_
      obtain ⟨V1, V2⟩ := V
      refine r_jge (tgt := 30) dX8_at_18 (by decide) (fun c23 => ?_) (fun c23 => ?_)
      · have V := V1 c23
        refine r_iconst (x := -1) dX8_at_30 rfl (by decide) ?_
        exact r_iret dX8_at_31 rfl V
      · have V := V2 c23
        refine r_aload_n dX8_at_21 rfl rfl ?_
        refine r_getR (b := 36) dX8_at_22 fX8_9 ob_35 (by decide) rfl rfl ?_
        refine r_iload_n dX8_at_25 rfl rfl ?_
        obtain ⟨s24, V⟩ := V
        obtain ⟨s25, V⟩ := V
        refine r_iald dX8_at_26 ob_36 s24 s25 ?_
        refine r_goto (tgt := 31) dX8_at_27 (by decide) ?_
        exact r_iret dX8_at_31 rfl V

theorem gX8_hasRoomForFiveNumbers_0 {w : WD} {d : Nat} {G : GM} {Q : Option AV → Hp → Prop} {n : NM}
    (V :
    (inI ((n 35 1) + 20)) ∧
    ((400 < (n 35 1) + 20 →
      Q (some (vi 0)) (B0, n)) ∧
    ((n 35 1) + 20 ≤ 400 →
      Q (some (vi 1)) (B0, n)))) :
    Rn w mX8_hasRoomForFiveNumbers d G Q 0 [(0, vr 35)] [] (B0, n) := by
  refine r_aload_n dX8_hasRoomForFiveNumbers_0 rfl rfl ?_
  refine r_getI (fi := 1) dX8_hasRoomForFiveNumbers_1 fX8_15 ob_35 (by decide) (by decide) rfl ?_
  refine r_bipush (x := 20) dX8_hasRoomForFiveNumbers_4 (by decide +kernel) (by decide) ?_
  obtain ⟨s21, V⟩ := V
  refine r_iadd dX8_hasRoomForFiveNumbers_6 s21 ?_
  refine r_sipush (x := 400) dX8_hasRoomForFiveNumbers_7 (by decide +kernel) (by decide) ?_
  obtain ⟨V1, V2⟩ := V
  refine r_jgt (tgt := 17) dX8_hasRoomForFiveNumbers_10 (by decide) (fun c22 => ?_) (fun c22 => ?_)
  · have V := V1 c22
    refine r_iconst (x := 0) dX8_hasRoomForFiveNumbers_17 rfl (by decide) ?_
    exact r_zret dX8_hasRoomForFiveNumbers_18 rfl (by decide) V
  · have V := V2 c22
    refine r_iconst (x := 1) dX8_hasRoomForFiveNumbers_13 rfl (by decide) ?_
    refine r_goto (tgt := 18) dX8_hasRoomForFiveNumbers_14 (by decide) ?_
    exact r_zret dX8_hasRoomForFiveNumbers_18 rfl (by decide) V

theorem gX8_addNumber_0 {w : WD} {d : Nat} {G : GM} {Q : Option AV → Hp → Prop} {n : NM} {x1 : Int}
    (V :
    Rn w mX8_addNumber d G Q 3 [(0, vr 35), (1, vi x1), (2, vi 24)] [] (B0, n)) :
    Rn w mX8_addNumber d G Q 0 [(0, vr 35), (1, vi x1)] [] (B0, n) := by
  refine r_bipush (x := 24) dX8_addNumber_0 (by decide +kernel) (by decide) ?_
  refine r_istore_n (ls' := [(0, vr 35), (1, vi x1), (2, vi 24)]) dX8_addNumber_2 rfl (by decide) rfl ?_
  exact V

theorem gX8_addNumber_3 {w : WD} {d : Nat} {G : GM} {Q : Option AV → Hp → Prop} {n : NM} {x1 x2 : Int}
    (V :
    ((x2 < 0 →
      Q none (B0, n)) ∧
    (0 ≤ x2 →
      ((400 ≤ n 35 1 →
        (inI (x2 + (-8))) ∧
        Rn w mX8_addNumber d G Q 3 [(0, vr 35), (1, vi x1), (2, vi (x2 + (-8)))] [] (B0, n)) ∧
      (n 35 1 < 400 →
        (∃ k24 : Nat, x2 = (k24 : Int) ∧ k24 < 32 ∧
        (0 ≤ n 35 1) ∧
        (n 35 1 < 400) ∧
        (inI ((n 35 1) + 1)) ∧
        (inI (x2 + (-8))) ∧
        Rn w mX8_addNumber d G Q 3 [(0, vr 35), (1, vi x1), (2, vi (x2 + (-8)))] [] (B0, upn (upn n 36 (n 35 1) ((x1 / ((2 ^ k24 : Nat) : Int)) % 256)) 35 1 ((n 35 1) + 1)))))))) :
    Rn w mX8_addNumber d G Q 3 [(0, vr 35), (1, vi x1), (2, vi x2)] [] (B0, n) := by
  refine r_iload_n dX8_addNumber_3 rfl rfl ?_
  obtain ⟨V1, V2⟩ := V
  refine r_zlt (tgt := 51) dX8_addNumber_4 (by decide) (fun c21 => ?_) (fun c21 => ?_)
  · have V := V1 c21
    exact r_ret dX8_addNumber_51 rfl V
  · have V := V2 c21
    refine r_aload_n dX8_addNumber_7 rfl rfl ?_
    refine r_getI (fi := 1) dX8_addNumber_8 fX8_15 ob_35 (by decide) (by decide) rfl ?_
    refine r_aload_n dX8_addNumber_11 rfl rfl ?_
    refine r_getR (b := 36) dX8_addNumber_12 fX8_9 ob_35 (by decide) rfl rfl ?_
    refine r_alen (c := 0) (x := 400) dX8_addNumber_15 ob_36 (by decide) rfl (by decide) ?_
    obtain ⟨V1, V2⟩ := V
    refine r_jge (tgt := 45) dX8_addNumber_16 (by decide) (fun c22 => ?_) (fun c22 => ?_)
    · have V := V1 c22
      obtain ⟨s23, V⟩ := V
      refine r_iinc (y := x2 + (-8)) (ls' := [(0, vr 35), (1, vi x1), (2, vi (x2 + (-8)))]) dX8_addNumber_45 rfl rfl s23 (by decide) rfl ?_
      refine r_goto (tgt := 3) dX8_addNumber_48 (by decide) ?_
      exact V
    · have V := V2 c22
      refine r_aload_n dX8_addNumber_19 rfl rfl ?_
      refine r_getR (b := 36) dX8_addNumber_20 fX8_9 ob_35 (by decide) rfl rfl ?_
      refine r_aload_n dX8_addNumber_23 rfl rfl ?_
      refine r_getI (fi := 1) dX8_addNumber_24 fX8_15 ob_35 (by decide) (by decide) rfl ?_
      refine r_iload_n dX8_addNumber_27 rfl rfl ?_
      refine r_iload_n dX8_addNumber_28 rfl rfl ?_
      obtain ⟨k24, hk24, lk24, V⟩ := V
      refine r_ishr (n := k24) dX8_addNumber_29 hk24 lk24 (fun _ => ?_)
      refine r_sipush (x := 255) dX8_addNumber_30 (by decide +kernel) (by decide) ?_
      refine r_iand (n := 8) dX8_addNumber_33 (by decide) (by decide) ?_
      show Rn w mX8_addNumber d G Q 34 [(0, vr 35), (1, vi x1), (2, vi x2)] [vi ((x1 / ((2 ^ k24 : Nat) : Int)) % 256), vi (n 35 1), vr 36] (B0, n)
      obtain ⟨s25, V⟩ := V
      obtain ⟨s26, V⟩ := V
      refine r_iast (h' := (B0, upn n 36 (n 35 1) ((x1 / ((2 ^ k24 : Nat) : Int)) % 256))) dX8_addNumber_34 ob_36 s25 s26 rfl ?_
      refine r_aload_n dX8_addNumber_35 rfl rfl ?_
      refine r_dup dX8_addNumber_36 rfl ?_
      refine r_getI (fi := 1) dX8_addNumber_37 fX8_15 ob_35 (by decide) (by decide) rfl ?_
      show Rn w mX8_addNumber d G Q 40 [(0, vr 35), (1, vi x1), (2, vi x2)] [vi (n 35 1), vr 35] (B0, upn n 36 (n 35 1) ((x1 / ((2 ^ k24 : Nat) : Int)) % 256))
      refine r_iconst (x := 1) dX8_addNumber_40 rfl (by decide) ?_
      obtain ⟨s27, V⟩ := V
      refine r_iadd dX8_addNumber_41 s27 ?_
      refine r_putI (fi := 1) (h' := (B0, upn (upn n 36 (n 35 1) ((x1 / ((2 ^ k24 : Nat) : Int)) % 256)) 35 1 ((n 35 1) + 1))) dX8_addNumber_42 pX8_15 ob_35 (by decide) rfl rfl rfl ?_
      obtain ⟨s28, V⟩ := V
      refine r_iinc (y := x2 + (-8)) (ls' := [(0, vr 35), (1, vi x1), (2, vi (x2 + (-8)))]) dX8_addNumber_45 rfl rfl s28 (by decide) rfl ?_
      refine r_goto (tgt := 3) dX8_addNumber_48 (by decide) ?_
      exact V

theorem gX8_cutTo_0 {w : WD} {d : Nat} {G : GM} {Q : Option AV → Hp → Prop} {n : NM} {x1 : Int}
    (V :
    Q none (B0, upn n 35 1 (max 0 (min x1 (n 35 1))))) :
    Rn w mX8_cutTo (d + 1) G Q 0 [(0, vr 35), (1, vi x1)] [] (B0, n) := by
  refine r_aload_n dX8_cutTo_0 rfl rfl ?_
  refine r_iconst (x := 0) dX8_cutTo_1 rfl (by decide) ?_
  refine r_iload_n dX8_cutTo_2 rfl rfl ?_
  refine r_aload_n dX8_cutTo_3 rfl rfl ?_
  refine r_getI (fi := 1) dX8_cutTo_4 fX8_15 ob_35 (by decide) (by decide) rfl ?_
  refine r_mmin dX8_cutTo_7 kX8_19 (Nat.le_of_ble_eq_true rfl) ?_
  refine r_mmax dX8_cutTo_10 kX8_25 (Nat.le_of_ble_eq_true rfl) ?_
  refine r_putI (fi := 1) (h' := (B0, upn n 35 1 (max 0 (min x1 (n 35 1))))) dX8_cutTo_13 pX8_15 ob_35 (by decide) rfl rfl rfl ?_
  exact r_ret dX8_cutTo_16 rfl V
theorem gX9_cut_0 {w : WD} {d : Nat} {G : GM} {Q : Option AV → Hp → Prop} {n : NM}
    (V :
    Rn w mX9_cut d G Q 9 [(0, vr 38), (1, vr 35), (2, vi 0), (3, vi 0)] [] (B0, upn n 38 3 0)) :
    Rn w mX9_cut d G Q 0 [(0, vr 38), (1, vr 35)] [] (B0, n) := by
  refine r_aload_n dX9_cut_0 rfl rfl ?_
  refine r_iconst (x := 0) dX9_cut_1 rfl (by decide) ?_
  refine r_putI (fi := 3) (h' := (B0, upn n 38 3 0)) dX9_cut_2 pX9_21 ob_38 (by decide) rfl rfl rfl ?_
  refine r_iconst (x := 0) dX9_cut_5 rfl (by decide) ?_
  refine r_istore_n (ls' := [(0, vr 38), (1, vr 35), (2, vi 0)]) dX9_cut_6 rfl (by decide) rfl ?_
  refine r_iconst (x := 0) dX9_cut_7 rfl (by decide) ?_
  refine r_istore_n (ls' := [(0, vr 38), (1, vr 35), (2, vi 0), (3, vi 0)]) dX9_cut_8 rfl (by decide) rfl ?_
  exact V

theorem gX9_cut_9 {w : WD} {d : Nat} {G : GM} {Q : Option AV → Hp → Prop} {n : NM} {x2 x3 : Int}
    (V :
    ((400 ≤ x3 →
      (Ev w d 0 0 mX9_addToken [vr 38, vr 35, vi x2, vi x2] (B0, n) (fun r h' => ∃ n22 : NM, r = none ∧ h' = (B0, n22) ∧ 
        Q none (B0, n22)))) ∧
    (x3 < 400 →
      (Ev w d 0 0 mX8_size [vr 35] (B0, n) (fun r h' => ∃ (x24 : Int) (n23 : NM), r = some (vi x24) ∧ h' = (B0, n23) ∧ 
        ((x24 ≤ x2 →
          (Ev w d 0 0 mX9_addToken [vr 38, vr 35, vi x2, vi x2] (B0, n23) (fun r h' => ∃ n26 : NM, r = none ∧ h' = (B0, n26) ∧ 
            Q none (B0, n26)))) ∧
        (x2 < x24 →
          (Ev w d 0 0 mX9_endOfToken [vr 35, vi x2] (B0, n23) (fun r h' => ∃ (x28 : Int) (n27 : NM), r = some (vi x28) ∧ h' = (B0, n27) ∧ 
            (Ev w d 0 0 mX8_at [vr 35, vi x2] (B0, n27) (fun r h' => ∃ (x30 : Int) (n29 : NM), r = some (vi x30) ∧ h' = (B0, n29) ∧ 
              ((x30 = 32 →
                (inI (x3 + 1)) ∧
                Rn w mX9_cut (d + 1) G Q 9 [(0, vr 38), (1, vr 35), (2, vi x28), (3, vi (x3 + 1))] [] (B0, n29)) ∧
              (x30 ≠ 32 →
                (Ev w d 0 0 mX9_addToken [vr 38, vr 35, vi x2, vi x28] (B0, n29) (fun r h' => ∃ n33 : NM, r = none ∧ h' = (B0, n33) ∧ 
                  (inI (x3 + 1)) ∧
                  Rn w mX9_cut (d + 1) G Q 9 [(0, vr 38), (1, vr 35), (2, vi x28), (3, vi (x3 + 1))] [] (B0, n33)))))))))))))))) :
    Rn w mX9_cut (d + 1) G Q 9 [(0, vr 38), (1, vr 35), (2, vi x2), (3, vi x3)] [] (B0, n) := by
  refine r_iload_n dX9_cut_9 rfl rfl ?_
  refine r_sipush (x := 400) dX9_cut_10 (by decide +kernel) (by decide) ?_
  obtain ⟨V1, V2⟩ := V
  refine r_jge (tgt := 58) dX9_cut_13 (by decide) (fun c21 => ?_) (fun c21 => ?_)
  · have V := V1 c21
    refine r_aload_n dX9_cut_58 rfl rfl ?_
    refine r_aload_n dX9_cut_59 rfl rfl ?_
    refine r_iload_n dX9_cut_60 rfl rfl ?_
    refine r_iload_n dX9_cut_61 rfl rfl ?_
    refine r_callV (args := [vr 35, vi x2, vi x2]) dX9_cut_62 kX9_39 ob_38 ⟨_, _, rfl⟩ (by decide) rfl rfl (Nat.le_of_ble_eq_true rfl) cap0 (Ev.mono V ?_)
    rintro r h' ⟨n22, rfl, rfl, V⟩
    show Rn w mX9_cut (d + 1) G Q 65 [(0, vr 38), (1, vr 35), (2, vi x2), (3, vi x3)] [] (B0, n22)
    exact r_ret dX9_cut_65 rfl V
  · have V := V2 c21
    refine r_iload_n dX9_cut_16 rfl rfl ?_
    refine r_aload_n dX9_cut_17 rfl rfl ?_
    refine r_callV (args := []) dX9_cut_18 kX9_25 ob_35 ⟨_, _, rfl⟩ (by decide) rfl rfl (Nat.le_of_ble_eq_true rfl) cap0 (Ev.mono V ?_)
    rintro r h' ⟨x24, n23, rfl, rfl, V⟩
    show Rn w mX9_cut (d + 1) G Q 21 [(0, vr 38), (1, vr 35), (2, vi x2), (3, vi x3)] [vi x24, vi x2] (B0, n23)
    obtain ⟨V1, V2⟩ := V
    refine r_jge (tgt := 58) dX9_cut_21 (by decide) (fun c25 => ?_) (fun c25 => ?_)
    · have V := V1 c25
      refine r_aload_n dX9_cut_58 rfl rfl ?_
      refine r_aload_n dX9_cut_59 rfl rfl ?_
      refine r_iload_n dX9_cut_60 rfl rfl ?_
      refine r_iload_n dX9_cut_61 rfl rfl ?_
      refine r_callV (args := [vr 35, vi x2, vi x2]) dX9_cut_62 kX9_39 ob_38 ⟨_, _, rfl⟩ (by decide) rfl rfl (Nat.le_of_ble_eq_true rfl) cap0 (Ev.mono V ?_)
      rintro r h' ⟨n26, rfl, rfl, V⟩
      show Rn w mX9_cut (d + 1) G Q 65 [(0, vr 38), (1, vr 35), (2, vi x2), (3, vi x3)] [] (B0, n26)
      exact r_ret dX9_cut_65 rfl V
    · have V := V2 c25
      refine r_aload_n dX9_cut_24 rfl rfl ?_
      refine r_iload_n dX9_cut_25 rfl rfl ?_
      refine r_callS (args := [vr 35, vi x2]) dX9_cut_26 kX9_31 rfl rfl (Nat.le_of_ble_eq_true rfl) cap0 (Ev.mono V ?_)
      rintro r h' ⟨x28, n27, rfl, rfl, V⟩
      show Rn w mX9_cut (d + 1) G Q 29 [(0, vr 38), (1, vr 35), (2, vi x2), (3, vi x3)] [vi x28] (B0, n27)
      refine r_istore (ls' := [(0, vr 38), (1, vr 35), (2, vi x2), (3, vi x3), (4, vi x28)]) dX9_cut_29 (by decide) rfl ?_
      refine r_aload_n dX9_cut_31 rfl rfl ?_
      refine r_iload_n dX9_cut_32 rfl rfl ?_
      refine r_callV (args := [vi x2]) dX9_cut_33 kX9_35 ob_35 ⟨_, _, rfl⟩ (by decide) rfl rfl (Nat.le_of_ble_eq_true rfl) cap0 (Ev.mono V ?_)
      rintro r h' ⟨x30, n29, rfl, rfl, V⟩
      show Rn w mX9_cut (d + 1) G Q 36 [(0, vr 38), (1, vr 35), (2, vi x2), (3, vi x3), (4, vi x28)] [vi x30] (B0, n29)
      refine r_bipush (x := 32) dX9_cut_36 (by decide +kernel) (by decide) ?_
      obtain ⟨V1, V2⟩ := V
      refine r_jeq (tgt := 49) dX9_cut_38 (by decide) (fun c31 => ?_) (fun c31 => ?_)
      · have V := V1 c31
        refine r_iload dX9_cut_49 rfl ?_
        refine r_istore_n (ls' := [(0, vr 38), (1, vr 35), (2, vi x28), (3, vi x3), (4, vi x28)]) dX9_cut_51 rfl (by decide) rfl ?_
        obtain ⟨s32, V⟩ := V
        refine r_iinc (y := x3 + 1) (ls' := [(0, vr 38), (1, vr 35), (2, vi x28), (3, vi (x3 + 1)), (4, vi x28)]) dX9_cut_52 rfl rfl s32 (by decide) rfl ?_
        refine r_goto (tgt := 9) dX9_cut_55 (by decide) ?_
        refine r_pick [0, 1, 2, 3] (ls' := [(0, vr 38), (1, vr 35), (2, vi x28), (3, vi (x3 + 1))]) rfl ?_
        exact V
      · have V := V2 c31
        refine r_aload_n dX9_cut_41 rfl rfl ?_
        refine r_aload_n dX9_cut_42 rfl rfl ?_
        refine r_iload_n dX9_cut_43 rfl rfl ?_
        refine r_iload dX9_cut_44 rfl ?_
        refine r_callV (args := [vr 35, vi x2, vi x28]) dX9_cut_46 kX9_39 ob_38 ⟨_, _, rfl⟩ (by decide) rfl rfl (Nat.le_of_ble_eq_true rfl) cap0 (Ev.mono V ?_)
        rintro r h' ⟨n33, rfl, rfl, V⟩
        show Rn w mX9_cut (d + 1) G Q 49 [(0, vr 38), (1, vr 35), (2, vi x2), (3, vi x3), (4, vi x28)] [] (B0, n33)
        refine r_iload dX9_cut_49 rfl ?_
        refine r_istore_n (ls' := [(0, vr 38), (1, vr 35), (2, vi x28), (3, vi x3), (4, vi x28)]) dX9_cut_51 rfl (by decide) rfl ?_
        obtain ⟨s34, V⟩ := V
        refine r_iinc (y := x3 + 1) (ls' := [(0, vr 38), (1, vr 35), (2, vi x28), (3, vi (x3 + 1)), (4, vi x28)]) dX9_cut_52 rfl rfl s34 (by decide) rfl ?_
        refine r_goto (tgt := 9) dX9_cut_55 (by decide) ?_
        refine r_pick [0, 1, 2, 3] (ls' := [(0, vr 38), (1, vr 35), (2, vi x28), (3, vi (x3 + 1))]) rfl ?_
        exact V

theorem gX9_isAt_0 {w : WD} {d : Nat} {G : GM} {Q : Option AV → Hp → Prop} {n : NM} {x1 x2 x3 : Int}
    (V :
    (∀ z24 : Int, z24 = (if x1 < 0 then 0 else (if n 38 3 ≤ x1 then 0 else (if 401 ≤ x1 then 0 else 1))) → 
    ((z24 = 0 →
      Q (some (vi 0)) (B0, n)) ∧
    (z24 ≠ 0 →
      (0 ≤ x1) ∧
      (x1 < 401) ∧
      ((n 39 x1 ≠ x2 →
        Q (some (vi 0)) (B0, n)) ∧
      (n 39 x1 = x2 →
        (0 ≤ x1) ∧
        (x1 < 401) ∧
        ((n 40 x1 ≠ x3 →
          Q (some (vi 0)) (B0, n)) ∧
        (n 40 x1 = x3 →
          Q (some (vi 1)) (B0, n))))))))) :
    Rn w mX9_isAt d G Q 0 [(0, vr 38), (1, vi x1), (2, vi x2), (3, vi x3)] [] (B0, n) := by
  refine r_iload_n dX9_isAt_0 rfl rfl ?_
  have K : ∀ z24 : Int, z24 = (if x1 < 0 then 0 else (if n 38 3 ≤ x1 then 0 else (if 401 ≤ x1 then 0 else 1))) → Rn w mX9_isAt d G Q 26 [(0, vr 38), (1, vi x1), (2, vi x2), (3, vi x3)] [vi z24] (B0, n) := by
    intro z24 ez24
    have V := V z24 ez24
    refine r_istore (ls' := [(0, vr 38), (1, vi x1), (2, vi x2), (3, vi x3), (4, vi z24)]) dX9_isAt_26 (by decide) rfl ?_
    refine r_iload dX9_isAt_28 rfl ?_
    obtain ⟨V1, V2⟩ := V
    refine r_zeq (tgt := 57) dX9_isAt_30 (by decide) (fun c25 => ?_) (fun c25 => ?_)
    · have V := V1 c25
      refine r_iconst (x := 0) dX9_isAt_57 rfl (by decide) ?_
      exact r_zret dX9_isAt_58 rfl (by decide) V
    · have V := V2 c25
      refine r_aload_n dX9_isAt_33 rfl rfl ?_
      refine r_getR (b := 39) dX9_isAt_34 fX9_9 ob_38 (by decide) rfl rfl ?_
      refine r_iload_n dX9_isAt_37 rfl rfl ?_
      obtain ⟨s26, V⟩ := V
      obtain ⟨s27, V⟩ := V
      refine r_iald dX9_isAt_38 ob_39 s26 s27 ?_
      refine r_iload_n dX9_isAt_39 rfl rfl ?_
      obtain ⟨V1, V2⟩ := V
      refine r_jne (tgt := 57) dX9_isAt_40 (by decide) (fun c28 => ?_) (fun c28 => ?_)
      · have V := V1 c28
        refine r_iconst (x := 0) dX9_isAt_57 rfl (by decide) ?_
        exact r_zret dX9_isAt_58 rfl (by decide) V
      · have V := V2 c28
        refine r_aload_n dX9_isAt_43 rfl rfl ?_
        refine r_getR (b := 40) dX9_isAt_44 fX9_15 ob_38 (by decide) rfl rfl ?_
        refine r_iload_n dX9_isAt_47 rfl rfl ?_
        obtain ⟨s29, V⟩ := V
        obtain ⟨s30, V⟩ := V
        refine r_iald dX9_isAt_48 ob_40 s29 s30 ?_
        refine r_iload_n dX9_isAt_49 rfl rfl ?_
        obtain ⟨V1, V2⟩ := V
        refine r_jne (tgt := 57) dX9_isAt_50 (by decide) (fun c31 => ?_) (fun c31 => ?_)
        · have V := V1 c31
          refine r_iconst (x := 0) dX9_isAt_57 rfl (by decide) ?_
          exact r_zret dX9_isAt_58 rfl (by decide) V
        · have V := V2 c31
          refine r_iconst (x := 1) dX9_isAt_53 rfl (by decide) ?_
          refine r_goto (tgt := 58) dX9_isAt_54 (by decide) ?_
          exact r_zret dX9_isAt_58 rfl (by decide) V
  refine r_zlt (tgt := 25) dX9_isAt_1 (by decide) (fun c21 => ?_) (fun c21 => ?_)
  · refine r_iconst (x := 0) dX9_isAt_25 rfl (by decide) ?_
    exact K 0 (by first | rfl | (simp only [if_pos c21]))
  · refine r_iload_n dX9_isAt_4 rfl rfl ?_
    refine r_aload_n dX9_isAt_5 rfl rfl ?_
    refine r_getI (fi := 3) dX9_isAt_6 fX9_21 ob_38 (by decide) (by decide) rfl ?_
    refine r_jge (tgt := 25) dX9_isAt_9 (by decide) (fun c22 => ?_) (fun c22 => ?_)
    · refine r_iconst (x := 0) dX9_isAt_25 rfl (by decide) ?_
      exact K 0 (by first | rfl | (simp only [if_neg (Int.not_lt.mpr c21), if_pos c22]))
    · refine r_iload_n dX9_isAt_12 rfl rfl ?_
      refine r_aload_n dX9_isAt_13 rfl rfl ?_
      refine r_getR (b := 39) dX9_isAt_14 fX9_9 ob_38 (by decide) rfl rfl ?_
      refine r_alen (c := 0) (x := 401) dX9_isAt_17 ob_39 (by decide) rfl (by decide) ?_
      refine r_jge (tgt := 25) dX9_isAt_18 (by decide) (fun c23 => ?_) (fun c23 => ?_)
      · refine r_iconst (x := 0) dX9_isAt_25 rfl (by decide) ?_
        exact K 0 (by first | rfl | (simp only [if_neg (Int.not_lt.mpr c21), if_neg (Int.not_le.mpr c22), if_pos c23]))
      · refine r_iconst (x := 1) dX9_isAt_21 rfl (by decide) ?_
        refine r_goto (tgt := 26) dX9_isAt_22 (by decide) ?_
        exact K 1 (by first | rfl | (simp only [if_neg (Int.not_lt.mpr c21), if_neg (Int.not_le.mpr c22), if_neg (Int.not_le.mpr c23)]))

theorem gX9_kindOf_0 {w : WD} {d : Nat} {G : GM} {Q : Option AV → Hp → Prop} {n : NM} {x1 : Int}
    (V :
    ((x1 < 0 →
      Q (some (vi 0)) (B0, n)) ∧
    (0 ≤ x1 →
      ((n 38 3 ≤ x1 →
        Q (some (vi 0)) (B0, n)) ∧
      (x1 < n 38 3 →
        ((401 ≤ x1 →
          Q (some (vi 0)) (B0, n)) ∧
        (x1 < 401 →
          (0 ≤ x1) ∧
          (x1 < 401) ∧
          Q (some (vi (n 39 x1))) (B0, n)))))))) :
    Rn w mX9_kindOf d G Q 0 [(0, vr 38), (1, vi x1)] [] (B0, n) := by
  refine r_iload_n dX9_kindOf_0 rfl rfl ?_
  obtain ⟨V1, V2⟩ := V
  refine r_zlt (tgt := 30) dX9_kindOf_1 (by decide) (fun c21 => ?_) (fun c21 => ?_)
  · have V := V1 c21
    refine r_iconst (x := 0) dX9_kindOf_30 rfl (by decide) ?_
    exact r_iret dX9_kindOf_31 rfl V
  · have V := V2 c21
    refine r_iload_n dX9_kindOf_4 rfl rfl ?_
    refine r_aload_n dX9_kindOf_5 rfl rfl ?_
    refine r_getI (fi := 3) dX9_kindOf_6 fX9_21 ob_38 (by decide) (by decide) rfl ?_
    obtain ⟨V1, V2⟩ := V
    refine r_jge (tgt := 30) dX9_kindOf_9 (by decide) (fun c22 => ?_) (fun c22 => ?_)
    · have V := V1 c22
      refine r_iconst (x := 0) dX9_kindOf_30 rfl (by decide) ?_
      exact r_iret dX9_kindOf_31 rfl V
    · have V := V2 c22
      refine r_iload_n dX9_kindOf_12 rfl rfl ?_
      refine r_aload_n dX9_kindOf_13 rfl rfl ?_
      refine r_getR (b := 39) dX9_kindOf_14 fX9_9 ob_38 (by decide) rfl rfl ?_
      refine r_alen (c := 0) (x := 401) dX9_kindOf_17 ob_39 (by decide) rfl (by decide) ?_
      obtain ⟨V1, V2⟩ := V
      refine r_jge (tgt := 30) dX9_kindOf_18 (by decide) (fun c23 => ?_) (fun c23 => ?_)
      · have V := V1 c23
        refine r_iconst (x := 0) dX9_kindOf_30 rfl (by decide) ?_
        exact r_iret dX9_kindOf_31 rfl V
      · have V := V2 c23
        refine r_aload_n dX9_kindOf_21 rfl rfl ?_
        refine r_getR (b := 39) dX9_kindOf_22 fX9_9 ob_38 (by decide) rfl rfl ?_
        refine r_iload_n dX9_kindOf_25 rfl rfl ?_
        obtain ⟨s24, V⟩ := V
        obtain ⟨s25, V⟩ := V
        refine r_iald dX9_kindOf_26 ob_39 s24 s25 ?_
        refine r_goto (tgt := 31) dX9_kindOf_27 (by decide) ?_
        exact r_iret dX9_kindOf_31 rfl V

theorem gX9_valueOf_0 {w : WD} {d : Nat} {G : GM} {Q : Option AV → Hp → Prop} {n : NM} {x1 : Int}
    (V :
    ((x1 < 0 →
      Q (some (vi (-1))) (B0, n)) ∧
    (0 ≤ x1 →
      ((n 38 3 ≤ x1 →
        Q (some (vi (-1))) (B0, n)) ∧
      (x1 < n 38 3 →
        ((401 ≤ x1 →
          Q (some (vi (-1))) (B0, n)) ∧
        (x1 < 401 →
          (0 ≤ x1) ∧
          (x1 < 401) ∧
          Q (some (vi (n 40 x1))) (B0, n)))))))) :
    Rn w mX9_valueOf d G Q 0 [(0, vr 38), (1, vi x1)] [] (B0, n) := by
  refine r_iload_n dX9_valueOf_0 rfl rfl ?_
  obtain ⟨V1, V2⟩ := V
  refine r_zlt (tgt := 30) dX9_valueOf_1 (by decide) (fun c21 => ?_) (fun c21 => ?_)
  · have V := V1 c21
    refine r_iconst (x := -1) dX9_valueOf_30 rfl (by decide) ?_
    exact r_iret dX9_valueOf_31 rfl V
  · have V := V2 c21
    refine r_iload_n dX9_valueOf_4 rfl rfl ?_
    refine r_aload_n dX9_valueOf_5 rfl rfl ?_
    refine r_getI (fi := 3) dX9_valueOf_6 fX9_21 ob_38 (by decide) (by decide) rfl ?_
    obtain ⟨V1, V2⟩ := V
    refine r_jge (tgt := 30) dX9_valueOf_9 (by decide) (fun c22 => ?_) (fun c22 => ?_)
    · have V := V1 c22
      refine r_iconst (x := -1) dX9_valueOf_30 rfl (by decide) ?_
      exact r_iret dX9_valueOf_31 rfl V
    · have V := V2 c22
      refine r_iload_n dX9_valueOf_12 rfl rfl ?_
      refine r_aload_n dX9_valueOf_13 rfl rfl ?_
      refine r_getR (b := 40) dX9_valueOf_14 fX9_15 ob_38 (by decide) rfl rfl ?_
      refine r_alen (c := 0) (x := 401) dX9_valueOf_17 ob_40 (by decide) rfl (by decide) ?_
      obtain ⟨V1, V2⟩ := V
      refine r_jge (tgt := 30) dX9_valueOf_18 (by decide) (fun c23 => ?_) (fun c23 => ?_)
      · have V := V1 c23
        refine r_iconst (x := -1) dX9_valueOf_30 rfl (by decide) ?_
        exact r_iret dX9_valueOf_31 rfl V
      · have V := V2 c23
        refine r_aload_n dX9_valueOf_21 rfl rfl ?_
        refine r_getR (b := 40) dX9_valueOf_22 fX9_15 ob_38 (by decide) rfl rfl ?_
        refine r_iload_n dX9_valueOf_25 rfl rfl ?_
        obtain ⟨s24, V⟩ := V
        obtain ⟨s25, V⟩ := V
        refine r_iald dX9_valueOf_26 ob_40 s24 s25 ?_
        refine r_goto (tgt := 31) dX9_valueOf_27 (by decide) ?_
        exact r_iret dX9_valueOf_31 rfl V

theorem gX9_placeOf_0 {w : WD} {d : Nat} {G : GM} {Q : Option AV → Hp → Prop} {n : NM} {x1 : Int}
    (V :
    ((x1 < 0 →
      Q (some (vi (-1))) (B0, n)) ∧
    (0 ≤ x1 →
      ((n 38 3 ≤ x1 →
        Q (some (vi (-1))) (B0, n)) ∧
      (x1 < n 38 3 →
        ((401 ≤ x1 →
          Q (some (vi (-1))) (B0, n)) ∧
        (x1 < 401 →
          (0 ≤ x1) ∧
          (x1 < 401) ∧
          Q (some (vi (n 41 x1))) (B0, n)))))))) :
    Rn w mX9_placeOf d G Q 0 [(0, vr 38), (1, vi x1)] [] (B0, n) := by
  refine r_iload_n dX9_placeOf_0 rfl rfl ?_
  obtain ⟨V1, V2⟩ := V
  refine r_zlt (tgt := 30) dX9_placeOf_1 (by decide) (fun c21 => ?_) (fun c21 => ?_)
  · have V := V1 c21
    refine r_iconst (x := -1) dX9_placeOf_30 rfl (by decide) ?_
    exact r_iret dX9_placeOf_31 rfl V
  · have V := V2 c21
    refine r_iload_n dX9_placeOf_4 rfl rfl ?_
    refine r_aload_n dX9_placeOf_5 rfl rfl ?_
    refine r_getI (fi := 3) dX9_placeOf_6 fX9_21 ob_38 (by decide) (by decide) rfl ?_
    obtain ⟨V1, V2⟩ := V
    refine r_jge (tgt := 30) dX9_placeOf_9 (by decide) (fun c22 => ?_) (fun c22 => ?_)
    · have V := V1 c22
      refine r_iconst (x := -1) dX9_placeOf_30 rfl (by decide) ?_
      exact r_iret dX9_placeOf_31 rfl V
    · have V := V2 c22
      refine r_iload_n dX9_placeOf_12 rfl rfl ?_
      refine r_aload_n dX9_placeOf_13 rfl rfl ?_
      refine r_getR (b := 41) dX9_placeOf_14 fX9_18 ob_38 (by decide) rfl rfl ?_
      refine r_alen (c := 0) (x := 401) dX9_placeOf_17 ob_41 (by decide) rfl (by decide) ?_
      obtain ⟨V1, V2⟩ := V
      refine r_jge (tgt := 30) dX9_placeOf_18 (by decide) (fun c23 => ?_) (fun c23 => ?_)
      · have V := V1 c23
        refine r_iconst (x := -1) dX9_placeOf_30 rfl (by decide) ?_
        exact r_iret dX9_placeOf_31 rfl V
      · have V := V2 c23
        refine r_aload_n dX9_placeOf_21 rfl rfl ?_
        refine r_getR (b := 41) dX9_placeOf_22 fX9_18 ob_38 (by decide) rfl rfl ?_
        refine r_iload_n dX9_placeOf_25 rfl rfl ?_
        obtain ⟨s24, V⟩ := V
        obtain ⟨s25, V⟩ := V
        refine r_iald dX9_placeOf_26 ob_41 s24 s25 ?_
        refine r_goto (tgt := 31) dX9_placeOf_27 (by decide) ?_
        exact r_iret dX9_placeOf_31 rfl V

theorem gX9_addToken_0 {w : WD} {d : Nat} {G : GM} {Q : Option AV → Hp → Prop} {n : NM} {x2 x3 : Int}
    (V :
    ((401 ≤ n 38 3 →
      Q none (B0, n)) ∧
    (n 38 3 < 401 →
      (Ev w d 0 0 mX8_at [vr 35, vi x2] (B0, n) (fun r h' => ∃ (x23 : Int) (n22 : NM), r = some (vi x23) ∧ h' = (B0, n22) ∧ 
        (Ev w d 0 0 mX9_kindOfByte [vi x23] (B0, n22) (fun r h' => ∃ (x25 : Int) (n24 : NM), r = some (vi x25) ∧ h' = (B0, n24) ∧ 
          (0 ≤ n24 38 3) ∧
          (n24 38 3 < 401) ∧
          (0 ≤ n24 38 3) ∧
          (n24 38 3 < 401) ∧
          ((x25 ≠ 1 →
            ((x25 ≠ 2 →
              (Ev w d 0 0 mX8_at [vr 35, vi x2] (B0, upn (upn n24 39 (n24 38 3) x25) 41 (n24 38 3) x2) (fun r h' => ∃ (x33 : Int) (n32 : NM), r = some (vi x33) ∧ h' = (B0, n32) ∧ 
                Rn w mX9_addToken (d + 1) G Q 86 [(0, vr 38)] [vi x33, vi (n24 38 3), vr 40] (B0, n32)))) ∧
            (x25 = 2 →
              (Ev w d 0 0 mX9_numberAt [vr 35, vi x2, vi x3] (B0, upn (upn n24 39 (n24 38 3) x25) 41 (n24 38 3) x2) (fun r h' => ∃ (x35 : Int) (n34 : NM), r = some (vi x35) ∧ h' = (B0, n34) ∧ 
                Rn w mX9_addToken (d + 1) G Q 86 [(0, vr 38)] [vi x35, vi (n24 38 3), vr 40] (B0, n34)))))) ∧
          (x25 = 1 →
            (Ev w d 0 0 mX9_wordAt [vr 35, vi x2, vi x3] (B0, upn (upn n24 39 (n24 38 3) x25) 41 (n24 38 3) x2) (fun r h' => ∃ (x37 : Int) (n36 : NM), r = some (vi x37) ∧ h' = (B0, n36) ∧ 
              Rn w mX9_addToken (d + 1) G Q 86 [(0, vr 38)] [vi x37, vi (n24 38 3), vr 40] (B0, n36)))))))))))) :
    Rn w mX9_addToken (d + 1) G Q 0 [(0, vr 38), (1, vr 35), (2, vi x2), (3, vi x3)] [] (B0, n) := by
  refine r_aload_n dX9_addToken_0 rfl rfl ?_
  refine r_getI (fi := 3) dX9_addToken_1 fX9_21 ob_38 (by decide) (by decide) rfl ?_
  refine r_aload_n dX9_addToken_4 rfl rfl ?_
  refine r_getR (b := 39) dX9_addToken_5 fX9_9 ob_38 (by decide) rfl rfl ?_
  refine r_alen (c := 0) (x := 401) dX9_addToken_8 ob_39 (by decide) rfl (by decide) ?_
  obtain ⟨V1, V2⟩ := V
  refine r_jge (tgt := 97) dX9_addToken_9 (by decide) (fun c21 => ?_) (fun c21 => ?_)
  · have V := V1 c21
    exact r_ret dX9_addToken_97 rfl V
  · have V := V2 c21
    refine r_aload_n dX9_addToken_12 rfl rfl ?_
    refine r_iload_n dX9_addToken_13 rfl rfl ?_
    refine r_callV (args := [vi x2]) dX9_addToken_14 kX9_35 ob_35 ⟨_, _, rfl⟩ (by decide) rfl rfl (Nat.le_of_ble_eq_true rfl) cap0 (Ev.mono V ?_)
    rintro r h' ⟨x23, n22, rfl, rfl, V⟩
    show Rn w mX9_addToken (d + 1) G Q 17 [(0, vr 38), (1, vr 35), (2, vi x2), (3, vi x3)] [vi x23] (B0, n22)
    refine r_callS (args := [vi x23]) dX9_addToken_17 kX9_43 rfl rfl (Nat.le_of_ble_eq_true rfl) cap0 (Ev.mono V ?_)
    rintro r h' ⟨x25, n24, rfl, rfl, V⟩
    show Rn w mX9_addToken (d + 1) G Q 20 [(0, vr 38), (1, vr 35), (2, vi x2), (3, vi x3)] [vi x25] (B0, n24)
    refine r_istore (ls' := [(0, vr 38), (1, vr 35), (2, vi x2), (3, vi x3), (4, vi x25)]) dX9_addToken_20 (by decide) rfl ?_
    refine r_aload_n dX9_addToken_22 rfl rfl ?_
    refine r_getR (b := 39) dX9_addToken_23 fX9_9 ob_38 (by decide) rfl rfl ?_
    refine r_aload_n dX9_addToken_26 rfl rfl ?_
    refine r_getI (fi := 3) dX9_addToken_27 fX9_21 ob_38 (by decide) (by decide) rfl ?_
    refine r_iload dX9_addToken_30 rfl ?_
    obtain ⟨s26, V⟩ := V
    obtain ⟨s27, V⟩ := V
    refine r_iast (h' := (B0, upn n24 39 (n24 38 3) x25)) dX9_addToken_32 ob_39 s26 s27 rfl ?_
    refine r_aload_n dX9_addToken_33 rfl rfl ?_
    refine r_getR (b := 41) dX9_addToken_34 fX9_18 ob_38 (by decide) rfl rfl ?_
    refine r_aload_n dX9_addToken_37 rfl rfl ?_
    refine r_getI (fi := 3) dX9_addToken_38 fX9_21 ob_38 (by decide) (by decide) rfl ?_
    show Rn w mX9_addToken (d + 1) G Q 41 [(0, vr 38), (1, vr 35), (2, vi x2), (3, vi x3), (4, vi x25)] [vi (n24 38 3), vr 41] (B0, upn n24 39 (n24 38 3) x25)
    refine r_iload_n dX9_addToken_41 rfl rfl ?_
    obtain ⟨s28, V⟩ := V
    obtain ⟨s29, V⟩ := V
    refine r_iast (h' := (B0, upn (upn n24 39 (n24 38 3) x25) 41 (n24 38 3) x2)) dX9_addToken_42 ob_41 s28 s29 rfl ?_
    refine r_aload_n dX9_addToken_43 rfl rfl ?_
    refine r_getR (b := 40) dX9_addToken_44 fX9_15 ob_38 (by decide) rfl rfl ?_
    refine r_aload_n dX9_addToken_47 rfl rfl ?_
    refine r_getI (fi := 3) dX9_addToken_48 fX9_21 ob_38 (by decide) (by decide) rfl ?_
    show Rn w mX9_addToken (d + 1) G Q 51 [(0, vr 38), (1, vr 35), (2, vi x2), (3, vi x3), (4, vi x25)] [vi (n24 38 3), vr 40] (B0, upn (upn n24 39 (n24 38 3) x25) 41 (n24 38 3) x2)
    refine r_iload dX9_addToken_51 rfl ?_
    refine r_iconst (x := 1) dX9_addToken_53 rfl (by decide) ?_
    obtain ⟨V1, V2⟩ := V
    refine r_jne (tgt := 66) dX9_addToken_54 (by decide) (fun c30 => ?_) (fun c30 => ?_)
    · have V := V1 c30
      refine r_iload dX9_addToken_66 rfl ?_
      refine r_iconst (x := 2) dX9_addToken_68 rfl (by decide) ?_
      obtain ⟨V1, V2⟩ := V
      refine r_jne (tgt := 81) dX9_addToken_69 (by decide) (fun c31 => ?_) (fun c31 => ?_)
      · have V := V1 c31
        refine r_aload_n dX9_addToken_81 rfl rfl ?_
        refine r_iload_n dX9_addToken_82 rfl rfl ?_
        refine r_callV (args := [vi x2]) dX9_addToken_83 kX9_35 ob_35 ⟨_, _, rfl⟩ (by decide) rfl rfl (Nat.le_of_ble_eq_true rfl) cap0 (Ev.mono V ?_)
        rintro r h' ⟨x33, n32, rfl, rfl, V⟩
        show Rn w mX9_addToken (d + 1) G Q 86 [(0, vr 38), (1, vr 35), (2, vi x2), (3, vi x3), (4, vi x25)] [vi x33, vi (n24 38 3), vr 40] (B0, n32)
        refine r_pick [0] (ls' := [(0, vr 38)]) rfl ?_
        exact V
      · have V := V2 c31
        refine r_aload_n dX9_addToken_72 rfl rfl ?_
        refine r_iload_n dX9_addToken_73 rfl rfl ?_
        refine r_iload_n dX9_addToken_74 rfl rfl ?_
        refine r_callS (args := [vr 35, vi x2, vi x3]) dX9_addToken_75 kX9_50 rfl rfl (Nat.le_of_ble_eq_true rfl) cap0 (Ev.mono V ?_)
        rintro r h' ⟨x35, n34, rfl, rfl, V⟩
        show Rn w mX9_addToken (d + 1) G Q 78 [(0, vr 38), (1, vr 35), (2, vi x2), (3, vi x3), (4, vi x25)] [vi x35, vi (n24 38 3), vr 40] (B0, n34)
        refine r_goto (tgt := 86) dX9_addToken_78 (by decide) ?_
        refine r_pick [0] (ls' := [(0, vr 38)]) rfl ?_
        exact V
    · have V := V2 c30
      refine r_aload_n dX9_addToken_57 rfl rfl ?_
      refine r_iload_n dX9_addToken_58 rfl rfl ?_
      refine r_iload_n dX9_addToken_59 rfl rfl ?_
      refine r_callS (args := [vr 35, vi x2, vi x3]) dX9_addToken_60 kX9_46 rfl rfl (Nat.le_of_ble_eq_true rfl) cap0 (Ev.mono V ?_)
      rintro r h' ⟨x37, n36, rfl, rfl, V⟩
      show Rn w mX9_addToken (d + 1) G Q 63 [(0, vr 38), (1, vr 35), (2, vi x2), (3, vi x3), (4, vi x25)] [vi x37, vi (n24 38 3), vr 40] (B0, n36)
      refine r_goto (tgt := 86) dX9_addToken_63 (by decide) ?_
      refine r_pick [0] (ls' := [(0, vr 38)]) rfl ?_
      exact V

theorem gX9_addToken_86 {w : WD} {d : Nat} {G : GM} {Q : Option AV → Hp → Prop} {n : NM} {t1 t2 : Int}
    (V :
    (0 ≤ t1) ∧
    (t1 < 401) ∧
    (inI ((n 38 3) + 1)) ∧
    Q none (B0, upn (upn n 40 t1 t2) 38 3 ((n 38 3) + 1))) :
    Rn w mX9_addToken d G Q 86 [(0, vr 38)] [vi t2, vi t1, vr 40] (B0, n) := by
  obtain ⟨s21, V⟩ := V
  obtain ⟨s22, V⟩ := V
  refine r_iast (h' := (B0, upn n 40 t1 t2)) dX9_addToken_86 ob_40 s21 s22 rfl ?_
  refine r_aload_n dX9_addToken_87 rfl rfl ?_
  refine r_dup dX9_addToken_88 rfl ?_
  refine r_getI (fi := 3) dX9_addToken_89 fX9_21 ob_38 (by decide) (by decide) rfl ?_
  show Rn w mX9_addToken d G Q 92 [(0, vr 38)] [vi (n 38 3), vr 38] (B0, upn n 40 t1 t2)
  refine r_iconst (x := 1) dX9_addToken_92 rfl (by decide) ?_
  obtain ⟨s23, V⟩ := V
  refine r_iadd dX9_addToken_93 s23 ?_
  refine r_putI (fi := 3) (h' := (B0, upn (upn n 40 t1 t2) 38 3 ((n 38 3) + 1))) dX9_addToken_94 pX9_21 ob_38 (by decide) rfl rfl rfl ?_
  exact r_ret dX9_addToken_97 rfl V

theorem gX9_endOfToken_0 {w : WD} {d : Nat} {G : GM} {Q : Option AV → Hp → Prop} {n : NM} {x1 : Int}
    (V :
    (Ev w d 0 0 mX8_at [vr 35, vi x1] (B0, n) (fun r h' => ∃ (x22 : Int) (n21 : NM), r = some (vi x22) ∧ h' = (B0, n21) ∧ 
      (Ev w d 0 0 mX9_kindOfByte [vi x22] (B0, n21) (fun r h' => ∃ (x24 : Int) (n23 : NM), r = some (vi x24) ∧ h' = (B0, n23) ∧ 
        (inI (x1 + 1)) ∧
        Rn w mX9_endOfToken (d + 1) G Q 13 [(0, vr 35), (2, vi x24), (3, vi (x1 + 1))] [] (B0, n23)))))) :
    Rn w mX9_endOfToken (d + 1) G Q 0 [(0, vr 35), (1, vi x1)] [] (B0, n) := by
  refine r_aload_n dX9_endOfToken_0 rfl rfl ?_
  refine r_iload_n dX9_endOfToken_1 rfl rfl ?_
  refine r_callV (args := [vi x1]) dX9_endOfToken_2 kX9_35 ob_35 ⟨_, _, rfl⟩ (by decide) rfl rfl (Nat.le_of_ble_eq_true rfl) cap0 (Ev.mono V ?_)
  rintro r h' ⟨x22, n21, rfl, rfl, V⟩
  show Rn w mX9_endOfToken (d + 1) G Q 5 [(0, vr 35), (1, vi x1)] [vi x22] (B0, n21)
  refine r_callS (args := [vi x22]) dX9_endOfToken_5 kX9_43 rfl rfl (Nat.le_of_ble_eq_true rfl) cap0 (Ev.mono V ?_)
  rintro r h' ⟨x24, n23, rfl, rfl, V⟩
  show Rn w mX9_endOfToken (d + 1) G Q 8 [(0, vr 35), (1, vi x1)] [vi x24] (B0, n23)
  refine r_istore_n (ls' := [(0, vr 35), (1, vi x1), (2, vi x24)]) dX9_endOfToken_8 rfl (by decide) rfl ?_
  refine r_iload_n dX9_endOfToken_9 rfl rfl ?_
  refine r_iconst (x := 1) dX9_endOfToken_10 rfl (by decide) ?_
  obtain ⟨s25, V⟩ := V
  refine r_iadd dX9_endOfToken_11 s25 ?_
  refine r_istore_n (ls' := [(0, vr 35), (1, vi x1), (2, vi x24), (3, vi (x1 + 1))]) dX9_endOfToken_12 rfl (by decide) rfl ?_
  refine r_pick [0, 2, 3] (ls' := [(0, vr 35), (2, vi x24), (3, vi (x1 + 1))]) rfl ?_
  exact V

theorem gX9_endOfToken_13 {w : WD} {d : Nat} {G : GM} {Q : Option AV → Hp → Prop} {n : NM} {x2 x3 : Int}
    (V :
    ((x2 = 3 →
      Q (some (vi x3)) (B0, n)) ∧
    (x2 ≠ 3 →
      (Ev w d 0 0 mX8_size [vr 35] (B0, n) (fun r h' => ∃ (x23 : Int) (n22 : NM), r = some (vi x23) ∧ h' = (B0, n22) ∧ 
        ((x23 ≤ x3 →
          Q (some (vi x3)) (B0, n22)) ∧
        (x3 < x23 →
          (Ev w d 0 0 mX8_at [vr 35, vi x3] (B0, n22) (fun r h' => ∃ (x26 : Int) (n25 : NM), r = some (vi x26) ∧ h' = (B0, n25) ∧ 
            (Ev w d 0 0 mX9_kindOfByte [vi x26] (B0, n25) (fun r h' => ∃ (x28 : Int) (n27 : NM), r = some (vi x28) ∧ h' = (B0, n27) ∧ 
              ((x28 ≠ x2 →
                Q (some (vi x3)) (B0, n27)) ∧
              (x28 = x2 →
                (inI (x3 + 1)) ∧
                Rn w mX9_endOfToken (d + 1) G Q 13 [(0, vr 35), (2, vi x2), (3, vi (x3 + 1))] [] (B0, n27)))))))))))))) :
    Rn w mX9_endOfToken (d + 1) G Q 13 [(0, vr 35), (2, vi x2), (3, vi x3)] [] (B0, n) := by
  refine r_iload_n dX9_endOfToken_13 rfl rfl ?_
  refine r_iconst (x := 3) dX9_endOfToken_14 rfl (by decide) ?_
  obtain ⟨V1, V2⟩ := V
  refine r_jeq (tgt := 44) dX9_endOfToken_15 (by decide) (fun c21 => ?_) (fun c21 => ?_)
  · have V := V1 c21
    refine r_iload_n dX9_endOfToken_44 rfl rfl ?_
    exact r_iret dX9_endOfToken_45 rfl V
  · have V := V2 c21
    refine r_iload_n dX9_endOfToken_18 rfl rfl ?_
    refine r_aload_n dX9_endOfToken_19 rfl rfl ?_
    refine r_callV (args := []) dX9_endOfToken_20 kX9_25 ob_35 ⟨_, _, rfl⟩ (by decide) rfl rfl (Nat.le_of_ble_eq_true rfl) cap0 (Ev.mono V ?_)
    rintro r h' ⟨x23, n22, rfl, rfl, V⟩
    show Rn w mX9_endOfToken (d + 1) G Q 23 [(0, vr 35), (2, vi x2), (3, vi x3)] [vi x23, vi x3] (B0, n22)
    obtain ⟨V1, V2⟩ := V
    refine r_jge (tgt := 44) dX9_endOfToken_23 (by decide) (fun c24 => ?_) (fun c24 => ?_)
    · have V := V1 c24
      refine r_iload_n dX9_endOfToken_44 rfl rfl ?_
      exact r_iret dX9_endOfToken_45 rfl V
    · have V := V2 c24
      refine r_aload_n dX9_endOfToken_26 rfl rfl ?_
      refine r_iload_n dX9_endOfToken_27 rfl rfl ?_
      refine r_callV (args := [vi x3]) dX9_endOfToken_28 kX9_35 ob_35 ⟨_, _, rfl⟩ (by decide) rfl rfl (Nat.le_of_ble_eq_true rfl) cap0 (Ev.mono V ?_)
      rintro r h' ⟨x26, n25, rfl, rfl, V⟩
      show Rn w mX9_endOfToken (d + 1) G Q 31 [(0, vr 35), (2, vi x2), (3, vi x3)] [vi x26] (B0, n25)
      refine r_callS (args := [vi x26]) dX9_endOfToken_31 kX9_43 rfl rfl (Nat.le_of_ble_eq_true rfl) cap0 (Ev.mono V ?_)
      rintro r h' ⟨x28, n27, rfl, rfl, V⟩
      show Rn w mX9_endOfToken (d + 1) G Q 34 [(0, vr 35), (2, vi x2), (3, vi x3)] [vi x28] (B0, n27)
      refine r_iload_n dX9_endOfToken_34 rfl rfl ?_
      obtain ⟨V1, V2⟩ := V
      refine r_jne (tgt := 44) dX9_endOfToken_35 (by decide) (fun c29 => ?_) (fun c29 => ?_)
      · have V := V1 c29
        refine r_iload_n dX9_endOfToken_44 rfl rfl ?_
        exact r_iret dX9_endOfToken_45 rfl V
      · have V := V2 c29
        obtain ⟨s30, V⟩ := V
        refine r_iinc (y := x3 + 1) (ls' := [(0, vr 35), (2, vi x2), (3, vi (x3 + 1))]) dX9_endOfToken_38 rfl rfl s30 (by decide) rfl ?_
        refine r_goto (tgt := 13) dX9_endOfToken_41 (by decide) ?_
        exact V

theorem gX9_kindOfByte_0 {w : WD} {d : Nat} {G : GM} {Q : Option AV → Hp → Prop} {n : NM} {x0 : Int}
    (V :
    ((x0 ≠ (-1) →
      (Ev w d 0 0 mX11_within [vi x0, vi 97, vi 122] (B0, n) (fun r h' => ∃ (x23 : Int) (n22 : NM), r = some (vi x23) ∧ h' = (B0, n22) ∧ 
        ((x23 = 0 →
          (Ev w d 0 0 mX11_within [vi x0, vi 48, vi 57] (B0, n22) (fun r h' => ∃ (x26 : Int) (n25 : NM), r = some (vi x26) ∧ h' = (B0, n25) ∧ 
            ((x26 = 0 →
              Q (some (vi 3)) (B0, n25)) ∧
            (x26 ≠ 0 →
              Q (some (vi 2)) (B0, n25)))))) ∧
        (x23 ≠ 0 →
          Q (some (vi 1)) (B0, n22)))))) ∧
    (x0 = (-1) →
      Q (some (vi 0)) (B0, n)))) :
    Rn w mX9_kindOfByte (d + 1) G Q 0 [(0, vi x0)] [] (B0, n) := by
  refine r_iload_n dX9_kindOfByte_0 rfl rfl ?_
  refine r_iconst (x := -1) dX9_kindOfByte_1 rfl (by decide) ?_
  obtain ⟨V1, V2⟩ := V
  refine r_jne (tgt := 7) dX9_kindOfByte_2 (by decide) (fun c21 => ?_) (fun c21 => ?_)
  · have V := V1 c21
    refine r_iload_n dX9_kindOfByte_7 rfl rfl ?_
    refine r_bipush (x := 97) dX9_kindOfByte_8 (by decide +kernel) (by decide) ?_
    refine r_bipush (x := 122) dX9_kindOfByte_10 (by decide +kernel) (by decide) ?_
    refine r_callSN (args := [vi x0, vi 97, vi 122]) dX9_kindOfByte_12 kX9_53 rfl rfl (Nat.le_of_ble_eq_true rfl) cap0 (Ev.mono V ?_)
    rintro r h' ⟨x23, n22, rfl, rfl, V⟩
    show Rn w mX9_kindOfByte (d + 1) G Q 15 [(0, vi x0)] [vi x23] (B0, n22)
    obtain ⟨V1, V2⟩ := V
    refine r_zeq (tgt := 20) dX9_kindOfByte_15 (by decide) (fun c24 => ?_) (fun c24 => ?_)
    · have V := V1 c24
      refine r_iload_n dX9_kindOfByte_20 rfl rfl ?_
      refine r_bipush (x := 48) dX9_kindOfByte_21 (by decide +kernel) (by decide) ?_
      refine r_bipush (x := 57) dX9_kindOfByte_23 (by decide +kernel) (by decide) ?_
      refine r_callSN (args := [vi x0, vi 48, vi 57]) dX9_kindOfByte_25 kX9_53 rfl rfl (Nat.le_of_ble_eq_true rfl) cap0 (Ev.mono V ?_)
      rintro r h' ⟨x26, n25, rfl, rfl, V⟩
      show Rn w mX9_kindOfByte (d + 1) G Q 28 [(0, vi x0)] [vi x26] (B0, n25)
      obtain ⟨V1, V2⟩ := V
      refine r_zeq (tgt := 35) dX9_kindOfByte_28 (by decide) (fun c27 => ?_) (fun c27 => ?_)
      · have V := V1 c27
        refine r_iconst (x := 3) dX9_kindOfByte_35 rfl (by decide) ?_
        exact r_iret dX9_kindOfByte_36 rfl V
      · have V := V2 c27
        refine r_iconst (x := 2) dX9_kindOfByte_31 rfl (by decide) ?_
        refine r_goto (tgt := 36) dX9_kindOfByte_32 (by decide) ?_
        exact r_iret dX9_kindOfByte_36 rfl V
    · have V := V2 c24
      refine r_iconst (x := 1) dX9_kindOfByte_18 rfl (by decide) ?_
      exact r_iret dX9_kindOfByte_19 rfl V
  · have V := V2 c21
    refine r_iconst (x := 0) dX9_kindOfByte_5 rfl (by decide) ?_
    exact r_iret dX9_kindOfByte_6 rfl V

theorem gX9_numberAt_0 {w : WD} {d : Nat} {G : GM} {Q : Option AV → Hp → Prop} {n : NM} {x1 x2 : Int}
    (V :
    Rn w mX9_numberAt d G Q 5 [(0, vr 35), (2, vi x2), (3, vi 0), (4, vi x1)] [] (B0, n)) :
    Rn w mX9_numberAt d G Q 0 [(0, vr 35), (1, vi x1), (2, vi x2)] [] (B0, n) := by
  refine r_iconst (x := 0) dX9_numberAt_0 rfl (by decide) ?_
  refine r_istore_n (ls' := [(0, vr 35), (1, vi x1), (2, vi x2), (3, vi 0)]) dX9_numberAt_1 rfl (by decide) rfl ?_
  refine r_iload_n dX9_numberAt_2 rfl rfl ?_
  refine r_istore (ls' := [(0, vr 35), (1, vi x1), (2, vi x2), (3, vi 0), (4, vi x1)]) dX9_numberAt_3 (by decide) rfl ?_
  refine r_pick [0, 2, 3, 4] (ls' := [(0, vr 35), (2, vi x2), (3, vi 0), (4, vi x1)]) rfl ?_
  exact V

theorem gX9_numberAt_5 {w : WD} {d : Nat} {G : GM} {Q : Option AV → Hp → Prop} {n : NM} {x2 x3 x4 : Int}
    (V :
    ((x2 ≤ x4 →
      Q (some (vi x3)) (B0, n)) ∧
    (x4 < x2 →
      (inI (x3 * 10)) ∧
      (Ev w d 0 0 mX8_at [vr 35, vi x4] (B0, n) (fun r h' => ∃ (x24 : Int) (n23 : NM), r = some (vi x24) ∧ h' = (B0, n23) ∧ 
        (inI ((x3 * 10) + x24)) ∧
        (inI (((x3 * 10) + x24) - 48)) ∧
        (inI (x4 + 1)) ∧
        Rn w mX9_numberAt (d + 1) G Q 5 [(0, vr 35), (2, vi x2), (3, vi (min (((x3 * 10) + x24) - 48) 100001)), (4, vi (x4 + 1))] [] (B0, n23)))))) :
    Rn w mX9_numberAt (d + 1) G Q 5 [(0, vr 35), (2, vi x2), (3, vi x3), (4, vi x4)] [] (B0, n) := by
  refine r_iload dX9_numberAt_5 rfl ?_
  refine r_iload_n dX9_numberAt_7 rfl rfl ?_
  obtain ⟨V1, V2⟩ := V
  refine r_jge (tgt := 37) dX9_numberAt_8 (by decide) (fun c21 => ?_) (fun c21 => ?_)
  · have V := V1 c21
    refine r_iload_n dX9_numberAt_37 rfl rfl ?_
    exact r_iret dX9_numberAt_38 rfl V
  · have V := V2 c21
    refine r_iload_n dX9_numberAt_11 rfl rfl ?_
    refine r_bipush (x := 10) dX9_numberAt_12 (by decide +kernel) (by decide) ?_
    obtain ⟨s22, V⟩ := V
    refine r_imul dX9_numberAt_14 s22 ?_
    refine r_aload_n dX9_numberAt_15 rfl rfl ?_
    refine r_iload dX9_numberAt_16 rfl ?_
    refine r_callV (args := [vi x4]) dX9_numberAt_18 kX9_35 ob_35 ⟨_, _, rfl⟩ (by decide) rfl rfl (Nat.le_of_ble_eq_true rfl) cap0 (Ev.mono V ?_)
    rintro r h' ⟨x24, n23, rfl, rfl, V⟩
    show Rn w mX9_numberAt (d + 1) G Q 21 [(0, vr 35), (2, vi x2), (3, vi x3), (4, vi x4)] [vi x24, vi (x3 * 10)] (B0, n23)
    obtain ⟨s25, V⟩ := V
    refine r_iadd dX9_numberAt_21 s25 ?_
    refine r_bipush (x := 48) dX9_numberAt_22 (by decide +kernel) (by decide) ?_
    obtain ⟨s26, V⟩ := V
    refine r_isub dX9_numberAt_24 s26 ?_
    refine r_ldc (x := 100001) dX9_numberAt_25 qX9_57 (by decide) ?_
    refine r_mmin dX9_numberAt_27 kX9_58 (Nat.le_of_ble_eq_true rfl) ?_
    refine r_istore_n (ls' := [(0, vr 35), (2, vi x2), (3, vi (min (((x3 * 10) + x24) - 48) 100001)), (4, vi x4)]) dX9_numberAt_30 rfl (by decide) rfl ?_
    obtain ⟨s27, V⟩ := V
    refine r_iinc (y := x4 + 1) (ls' := [(0, vr 35), (2, vi x2), (3, vi (min (((x3 * 10) + x24) - 48) 100001)), (4, vi (x4 + 1))]) dX9_numberAt_31 rfl rfl s27 (by decide) rfl ?_
    refine r_goto (tgt := 5) dX9_numberAt_34 (by decide) ?_
    exact V

theorem gX9_wordAt_0 {w : WD} {d : Nat} {G : GM} {Q : Option AV → Hp → Prop} {n : NM} {x1 x2 : Int}
    (V :
    Rn w mX9_wordAt (d + 4) G Q 8 [(0, vr 35), (1, vi x1), (2, vi x2), (3, vi 0), (4, vi 0), (5, vi 0)] [] (B0, n)) :
    Rn w mX9_wordAt (d + 4) G Q 0 [(0, vr 35), (1, vi x1), (2, vi x2)] [] (B0, n) := by
  refine r_iconst (x := 0) dX9_wordAt_0 rfl (by decide) ?_
  refine r_istore_n (ls' := [(0, vr 35), (1, vi x1), (2, vi x2), (3, vi 0)]) dX9_wordAt_1 rfl (by decide) rfl ?_
  refine r_iconst (x := 0) dX9_wordAt_2 rfl (by decide) ?_
  refine r_istore (ls' := [(0, vr 35), (1, vi x1), (2, vi x2), (3, vi 0), (4, vi 0)]) dX9_wordAt_3 (by decide) rfl ?_
  refine r_iconst (x := 0) dX9_wordAt_5 rfl (by decide) ?_
  refine r_istore (ls' := [(0, vr 35), (1, vi x1), (2, vi x2), (3, vi 0), (4, vi 0), (5, vi 0)]) dX9_wordAt_6 (by decide) rfl ?_
  exact V

theorem gX9_wordAt_8 {w : WD} {d : Nat} {G : GM} {Q : Option AV → Hp → Prop} {n : NM} {x1 x2 x3 x4 x5 : Int}
    (V :
    ((94 < x5 →
      Q (some (vi (-1))) (B0, n)) ∧
    (x5 ≤ 94 →
      ((x5 = 94 →
        Rn w mX9_wordAt (d + 4) G Q 40 [(0, vr 35), (1, vi x1), (2, vi x2), (3, vi x3), (4, vi x4), (5, vi x5)] [] (B0, n)) ∧
      (x5 ≠ 94 →
        (0 ≤ x5) ∧
        (x5 < 94) ∧
        ((strC x5 ≠ 32 →
          (inI (x5 + 1)) ∧
          Rn w mX9_wordAt (d + 4) G Q 8 [(0, vr 35), (1, vi x1), (2, vi x2), (3, vi x3), (4, vi x4), (5, vi (x5 + 1))] [] (B0, n)) ∧
        (strC x5 = 32 →
          Rn w mX9_wordAt (d + 4) G Q 40 [(0, vr 35), (1, vi x1), (2, vi x2), (3, vi x3), (4, vi x4), (5, vi x5)] [] (B0, n)))))))) :
    Rn w mX9_wordAt (d + 4) G Q 8 [(0, vr 35), (1, vi x1), (2, vi x2), (3, vi x3), (4, vi x4), (5, vi x5)] [] (B0, n) := by
  refine r_iload dX9_wordAt_8 rfl ?_
  refine r_ldcS rfl dX9_wordAt_10 ?_
  refine r_strlen dX9_wordAt_12 kX9_66 (Nat.le_of_ble_eq_true rfl) ?_
  obtain ⟨V1, V2⟩ := V
  refine r_jgt (tgt := 80) dX9_wordAt_15 (by decide) (fun c21 => ?_) (fun c21 => ?_)
  · have V := V1 c21
    refine r_iconst (x := -1) dX9_wordAt_80 rfl (by decide) ?_
    exact r_iret dX9_wordAt_81 rfl V
  · have V := V2 c21
    refine r_iload dX9_wordAt_18 rfl ?_
    refine r_ldcS rfl dX9_wordAt_20 ?_
    refine r_strlen dX9_wordAt_22 kX9_66 (Nat.le_of_ble_eq_true rfl) ?_
    obtain ⟨V1, V2⟩ := V
    refine r_jeq (tgt := 40) dX9_wordAt_25 (by decide) (fun c22 => ?_) (fun c22 => ?_)
    · have V := V1 c22
      exact V
    · have V := V2 c22
      refine r_ldcS rfl dX9_wordAt_28 ?_
      refine r_iload dX9_wordAt_30 rfl ?_
      obtain ⟨s23, V⟩ := V
      obtain ⟨s24, V⟩ := V
      refine r_charAt dX9_wordAt_32 kX9_71 (Nat.le_of_ble_eq_true rfl) s23 s24 ?_
      refine r_bipush (x := 32) dX9_wordAt_35 (by decide +kernel) (by decide) ?_
      obtain ⟨V1, V2⟩ := V
      refine r_jne (tgt := 74) dX9_wordAt_37 (by decide) (fun c25 => ?_) (fun c25 => ?_)
      · have V := V1 c25
        obtain ⟨s26, V⟩ := V
        refine r_iinc (y := x5 + 1) (ls' := [(0, vr 35), (1, vi x1), (2, vi x2), (3, vi x3), (4, vi x4), (5, vi (x5 + 1))]) dX9_wordAt_74 rfl rfl s26 (by decide) rfl ?_
        refine r_goto (tgt := 8) dX9_wordAt_77 (by decide) ?_
        exact V
      · have V := V2 c25
        exact V

theorem gX9_wordAt_40 {w : WD} {d : Nat} {G : GM} {Q : Option AV → Hp → Prop} {n : NM} {x1 x2 x3 x4 x5 : Int}
    (V :
    (inI (x5 - x4)) ∧
    (inI (x2 - x1)) ∧
    ((x5 - x4 ≠ x2 - x1 →
      Rn w mX9_wordAt (d + 4) G Q 65 [(0, vr 35), (1, vi x1), (2, vi x2), (3, vi x3), (5, vi x5)] [] (B0, n)) ∧
    (x5 - x4 = x2 - x1 →
      (Ev w (d + 3) 0 0 mX9_isAlike [vr 35, vi x1, vi x4, vi x5] (B0, n) (fun r h' => ∃ (x25 : Int) (n24 : NM), r = some (vi x25) ∧ h' = (B0, n24) ∧ 
        ((x25 = 0 →
          Rn w mX9_wordAt (d + 4) G Q 65 [(0, vr 35), (1, vi x1), (2, vi x2), (3, vi x3), (5, vi x5)] [] (B0, n24)) ∧
        (x25 ≠ 0 →
          Q (some (vi x3)) (B0, n24)))))))) :
    Rn w mX9_wordAt (d + 4) G Q 40 [(0, vr 35), (1, vi x1), (2, vi x2), (3, vi x3), (4, vi x4), (5, vi x5)] [] (B0, n) := by
  refine r_iload dX9_wordAt_40 rfl ?_
  refine r_iload dX9_wordAt_42 rfl ?_
  obtain ⟨s21, V⟩ := V
  refine r_isub dX9_wordAt_44 s21 ?_
  refine r_iload_n dX9_wordAt_45 rfl rfl ?_
  refine r_iload_n dX9_wordAt_46 rfl rfl ?_
  obtain ⟨s22, V⟩ := V
  refine r_isub dX9_wordAt_47 s22 ?_
  obtain ⟨V1, V2⟩ := V
  refine r_jne (tgt := 65) dX9_wordAt_48 (by decide) (fun c23 => ?_) (fun c23 => ?_)
  · have V := V1 c23
    refine r_pick [0, 1, 2, 3, 5] (ls' := [(0, vr 35), (1, vi x1), (2, vi x2), (3, vi x3), (5, vi x5)]) rfl ?_
    exact V
  · have V := V2 c23
    refine r_aload_n dX9_wordAt_51 rfl rfl ?_
    refine r_iload_n dX9_wordAt_52 rfl rfl ?_
    refine r_iload dX9_wordAt_53 rfl ?_
    refine r_iload dX9_wordAt_55 rfl ?_
    refine r_callS (args := [vr 35, vi x1, vi x4, vi x5]) dX9_wordAt_57 kX9_75 rfl rfl (Nat.le_of_ble_eq_true rfl) cap0 (Ev.mono V ?_)
    rintro r h' ⟨x25, n24, rfl, rfl, V⟩
    show Rn w mX9_wordAt (d + 4) G Q 60 [(0, vr 35), (1, vi x1), (2, vi x2), (3, vi x3), (4, vi x4), (5, vi x5)] [vi x25] (B0, n24)
    obtain ⟨V1, V2⟩ := V
    refine r_zeq (tgt := 65) dX9_wordAt_60 (by decide) (fun c26 => ?_) (fun c26 => ?_)
    · have V := V1 c26
      refine r_pick [0, 1, 2, 3, 5] (ls' := [(0, vr 35), (1, vi x1), (2, vi x2), (3, vi x3), (5, vi x5)]) rfl ?_
      exact V
    · have V := V2 c26
      refine r_iload_n dX9_wordAt_63 rfl rfl ?_
      exact r_iret dX9_wordAt_64 rfl V

theorem gX9_wordAt_65 {w : WD} {d : Nat} {G : GM} {Q : Option AV → Hp → Prop} {n : NM} {x1 x2 x3 x5 : Int}
    (V :
    (inI (x3 + 1)) ∧
    (inI (x5 + 1)) ∧
    (inI (x5 + 1)) ∧
    Rn w mX9_wordAt (d + 4) G Q 8 [(0, vr 35), (1, vi x1), (2, vi x2), (3, vi (x3 + 1)), (4, vi (x5 + 1)), (5, vi (x5 + 1))] [] (B0, n)) :
    Rn w mX9_wordAt (d + 4) G Q 65 [(0, vr 35), (1, vi x1), (2, vi x2), (3, vi x3), (5, vi x5)] [] (B0, n) := by
  obtain ⟨s21, V⟩ := V
  refine r_iinc (y := x3 + 1) (ls' := [(0, vr 35), (1, vi x1), (2, vi x2), (3, vi (x3 + 1)), (5, vi x5)]) dX9_wordAt_65 rfl rfl s21 (by decide) rfl ?_
  refine r_iload dX9_wordAt_68 rfl ?_
  refine r_iconst (x := 1) dX9_wordAt_70 rfl (by decide) ?_
  obtain ⟨s22, V⟩ := V
  refine r_iadd dX9_wordAt_71 s22 ?_
  refine r_istore (ls' := [(0, vr 35), (1, vi x1), (2, vi x2), (3, vi (x3 + 1)), (4, vi (x5 + 1)), (5, vi x5)]) dX9_wordAt_72 (by decide) rfl ?_
  obtain ⟨s23, V⟩ := V
  refine r_iinc (y := x5 + 1) (ls' := [(0, vr 35), (1, vi x1), (2, vi x2), (3, vi (x3 + 1)), (4, vi (x5 + 1)), (5, vi (x5 + 1))]) dX9_wordAt_74 rfl rfl s23 (by decide) rfl ?_
  refine r_goto (tgt := 8) dX9_wordAt_77 (by decide) ?_
  exact V

theorem gX9_isAlike_0 {w : WD} {d : Nat} {G : GM} {Q : Option AV → Hp → Prop} {n : NM} {x1 x2 x3 : Int}
    (V :
    Rn w mX9_isAlike (d + 4) G Q 3 [(0, vr 35), (1, vi x1), (2, vi x2), (3, vi x3), (4, vi x2)] [] (B0, n)) :
    Rn w mX9_isAlike (d + 4) G Q 0 [(0, vr 35), (1, vi x1), (2, vi x2), (3, vi x3)] [] (B0, n) := by
  refine r_iload_n dX9_isAlike_0 rfl rfl ?_
  refine r_istore (ls' := [(0, vr 35), (1, vi x1), (2, vi x2), (3, vi x3), (4, vi x2)]) dX9_isAlike_1 (by decide) rfl ?_
  exact V

theorem gX9_isAlike_3 {w : WD} {d : Nat} {G : GM} {Q : Option AV → Hp → Prop} {n : NM} {x1 x2 x3 x4 : Int}
    (V :
    ((x3 ≤ x4 →
      Q (some (vi 1)) (B0, n)) ∧
    (x4 < x3 →
      ((94 ≤ x4 →
        Q (some (vi 1)) (B0, n)) ∧
      (x4 < 94 →
        (0 ≤ x4) ∧
        (x4 < 94) ∧
        (inI (x1 + x4)) ∧
        (inI ((x1 + x4) - x2)) ∧
        (Ev w (d + 3) 0 0 mX8_at [vr 35, vi ((x1 + x4) - x2)] (B0, n) (fun r h' => ∃ (x28 : Int) (n27 : NM), r = some (vi x28) ∧ h' = (B0, n27) ∧ 
          ((strC x4 = x28 →
            (inI (x4 + 1)) ∧
            Rn w mX9_isAlike (d + 4) G Q 3 [(0, vr 35), (1, vi x1), (2, vi x2), (3, vi x3), (4, vi (x4 + 1))] [] (B0, n27)) ∧
          (strC x4 ≠ x28 →
            Q (some (vi 0)) (B0, n27)))))))))) :
    Rn w mX9_isAlike (d + 4) G Q 3 [(0, vr 35), (1, vi x1), (2, vi x2), (3, vi x3), (4, vi x4)] [] (B0, n) := by
  refine r_iload dX9_isAlike_3 rfl ?_
  refine r_iload_n dX9_isAlike_5 rfl rfl ?_
  obtain ⟨V1, V2⟩ := V
  refine r_jge (tgt := 47) dX9_isAlike_6 (by decide) (fun c21 => ?_) (fun c21 => ?_)
  · have V := V1 c21
    refine r_iconst (x := 1) dX9_isAlike_47 rfl (by decide) ?_
    exact r_zret dX9_isAlike_48 rfl (by decide) V
  · have V := V2 c21
    refine r_iload dX9_isAlike_9 rfl ?_
    refine r_ldcS rfl dX9_isAlike_11 ?_
    refine r_strlen dX9_isAlike_13 kX9_66 (Nat.le_of_ble_eq_true rfl) ?_
    obtain ⟨V1, V2⟩ := V
    refine r_jge (tgt := 47) dX9_isAlike_16 (by decide) (fun c22 => ?_) (fun c22 => ?_)
    · have V := V1 c22
      refine r_iconst (x := 1) dX9_isAlike_47 rfl (by decide) ?_
      exact r_zret dX9_isAlike_48 rfl (by decide) V
    · have V := V2 c22
      refine r_ldcS rfl dX9_isAlike_19 ?_
      refine r_iload dX9_isAlike_21 rfl ?_
      obtain ⟨s23, V⟩ := V
      obtain ⟨s24, V⟩ := V
      refine r_charAt dX9_isAlike_23 kX9_71 (Nat.le_of_ble_eq_true rfl) s23 s24 ?_
      refine r_aload_n dX9_isAlike_26 rfl rfl ?_
      refine r_iload_n dX9_isAlike_27 rfl rfl ?_
      refine r_iload dX9_isAlike_28 rfl ?_
      obtain ⟨s25, V⟩ := V
      refine r_iadd dX9_isAlike_30 s25 ?_
      refine r_iload_n dX9_isAlike_31 rfl rfl ?_
      obtain ⟨s26, V⟩ := V
      refine r_isub dX9_isAlike_32 s26 ?_
      refine r_callV (args := [vi ((x1 + x4) - x2)]) dX9_isAlike_33 kX9_35 ob_35 ⟨_, _, rfl⟩ (by decide) rfl rfl (Nat.le_of_ble_eq_true rfl) cap0 (Ev.mono V ?_)
      rintro r h' ⟨x28, n27, rfl, rfl, V⟩
      show Rn w mX9_isAlike (d + 4) G Q 36 [(0, vr 35), (1, vi x1), (2, vi x2), (3, vi x3), (4, vi x4)] [vi x28, vi (strC x4)] (B0, n27)
      obtain ⟨V1, V2⟩ := V
      refine r_jeq (tgt := 41) dX9_isAlike_36 (by decide) (fun c29 => ?_) (fun c29 => ?_)
      · have V := V1 c29
        obtain ⟨s30, V⟩ := V
        refine r_iinc (y := x4 + 1) (ls' := [(0, vr 35), (1, vi x1), (2, vi x2), (3, vi x3), (4, vi (x4 + 1))]) dX9_isAlike_41 rfl rfl s30 (by decide) rfl ?_
        refine r_goto (tgt := 3) dX9_isAlike_44 (by decide) ?_
        exact V
      · have V := V2 c29
        refine r_iconst (x := 0) dX9_isAlike_39 rfl (by decide) ?_
        exact r_zret dX9_isAlike_40 rfl (by decide) V
theorem gX3_read_0 {w : WD} {d : Nat} {G : GM} {Q : Option AV → Hp → Prop} {n : NM}
    (V :
    (Ev w d 0 0 mX9_cut [vr 38, vr 35] (B0, n) (fun r h' => ∃ n21 : NM, r = none ∧ h' = (B0, n21) ∧ 
      (Ev w d 0 0 mX2_clear [vr 42] (B0, n21) (fun r h' => ∃ n22 : NM, r = none ∧ h' = (B0, n22) ∧ 
        (Ev w d 0 0 mX3_clause [vr 37] (B0, upn (upn (upn n22 37 2 0) 37 3 0) 37 4 (-1)) (fun r h' => ∃ n23 : NM, r = none ∧ h' = (B0, n23) ∧ 
          Rn w mX3_read (d + 1) G Q 36 [(0, vr 37), (2, vi 1)] [] (B0, n23)))))))) :
    Rn w mX3_read (d + 1) G Q 0 [(0, vr 37), (1, vr 35)] [] (B0, n) := by
  refine r_aload_n dX3_read_0 rfl rfl ?_
  refine r_getR (b := 38) dX3_read_1 fX3_12 ob_37 (by decide) rfl rfl ?_
  refine r_aload_n dX3_read_4 rfl rfl ?_
  refine r_callV (args := [vr 35]) dX3_read_5 kX3_35 ob_38 ⟨_, _, rfl⟩ (by decide) rfl rfl (Nat.le_of_ble_eq_true rfl) cap0 (Ev.mono V ?_)
  rintro r h' ⟨n21, rfl, rfl, V⟩
  show Rn w mX3_read (d + 1) G Q 8 [(0, vr 37), (1, vr 35)] [] (B0, n21)
  refine r_aload_n dX3_read_8 rfl rfl ?_
  refine r_getR (b := 42) dX3_read_9 fX3_21 ob_37 (by decide) rfl rfl ?_
  refine r_callV (args := []) dX3_read_12 kX3_39 ob_42 ⟨_, _, rfl⟩ (by decide) rfl rfl (Nat.le_of_ble_eq_true rfl) cap0 (Ev.mono V ?_)
  rintro r h' ⟨n22, rfl, rfl, V⟩
  show Rn w mX3_read (d + 1) G Q 15 [(0, vr 37), (1, vr 35)] [] (B0, n22)
  refine r_aload_n dX3_read_15 rfl rfl ?_
  refine r_iconst (x := 0) dX3_read_16 rfl (by decide) ?_
  refine r_putI (fi := 2) (h' := (B0, upn n22 37 2 0)) dX3_read_17 pX3_25 ob_37 (by decide) rfl rfl rfl ?_
  refine r_aload_n dX3_read_20 rfl rfl ?_
  refine r_iconst (x := 0) dX3_read_21 rfl (by decide) ?_
  refine r_putI (fi := 3) (h' := (B0, upn (upn n22 37 2 0) 37 3 0)) dX3_read_22 pX3_29 ob_37 (by decide) rfl rfl rfl ?_
  refine r_aload_n dX3_read_25 rfl rfl ?_
  refine r_iconst (x := -1) dX3_read_26 rfl (by decide) ?_
  refine r_putI (fi := 4) (h' := (B0, upn (upn (upn n22 37 2 0) 37 3 0) 37 4 (-1))) dX3_read_27 pX3_32 ob_37 (by decide) rfl rfl rfl ?_
  refine r_aload_n dX3_read_30 rfl rfl ?_
  refine r_callV (args := []) dX3_read_31 kX3_42 ob_37 ⟨_, _, rfl⟩ (by decide) rfl rfl (Nat.le_of_ble_eq_true rfl) cap0 (Ev.mono V ?_)
  rintro r h' ⟨n23, rfl, rfl, V⟩
  show Rn w mX3_read (d + 1) G Q 34 [(0, vr 37), (1, vr 35)] [] (B0, n23)
  refine r_iconst (x := 1) dX3_read_34 rfl (by decide) ?_
  refine r_istore_n (ls' := [(0, vr 37), (1, vr 35), (2, vi 1)]) dX3_read_35 rfl (by decide) rfl ?_
  refine r_pick [0, 2] (ls' := [(0, vr 37), (2, vi 1)]) rfl ?_
  exact V

theorem gX3_read_36 {w : WD} {d : Nat} {G : GM} {Q : Option AV → Hp → Prop} {n : NM} {x2 : Int}
    (V :
    ((12 ≤ x2 →
      Rn w mX3_read (d + 1) G Q 62 [(0, vr 37)] [] (B0, n)) ∧
    (x2 < 12 →
      (Ev w d 0 0 mX3_take [vr 37, vi 3, vi 59] (B0, n) (fun r h' => ∃ (x23 : Int) (n22 : NM), r = some (vi x23) ∧ h' = (B0, n22) ∧ 
        ((x23 = 0 →
          Rn w mX3_read (d + 1) G Q 62 [(0, vr 37)] [] (B0, n22)) ∧
        (x23 ≠ 0 →
          (Ev w d 0 0 mX3_clause [vr 37] (B0, n22) (fun r h' => ∃ n25 : NM, r = none ∧ h' = (B0, n25) ∧ 
            (inI (x2 + 1)) ∧
            Rn w mX3_read (d + 1) G Q 36 [(0, vr 37), (2, vi (x2 + 1))] [] (B0, n25)))))))))) :
    Rn w mX3_read (d + 1) G Q 36 [(0, vr 37), (2, vi x2)] [] (B0, n) := by
  refine r_iload_n dX3_read_36 rfl rfl ?_
  refine r_bipush (x := 12) dX3_read_37 (by decide +kernel) (by decide) ?_
  obtain ⟨V1, V2⟩ := V
  refine r_jge (tgt := 62) dX3_read_39 (by decide) (fun c21 => ?_) (fun c21 => ?_)
  · have V := V1 c21
    refine r_pick [0] (ls' := [(0, vr 37)]) rfl ?_
    exact V
  · have V := V2 c21
    refine r_aload_n dX3_read_42 rfl rfl ?_
    refine r_iconst (x := 3) dX3_read_43 rfl (by decide) ?_
    refine r_bipush (x := 59) dX3_read_44 (by decide +kernel) (by decide) ?_
    refine r_callV (args := [vi 3, vi 59]) dX3_read_46 kX3_45 ob_37 ⟨_, _, rfl⟩ (by decide) rfl rfl (Nat.le_of_ble_eq_true rfl) cap0 (Ev.mono V ?_)
    rintro r h' ⟨x23, n22, rfl, rfl, V⟩
    show Rn w mX3_read (d + 1) G Q 49 [(0, vr 37), (2, vi x2)] [vi x23] (B0, n22)
    obtain ⟨V1, V2⟩ := V
    refine r_zeq (tgt := 62) dX3_read_49 (by decide) (fun c24 => ?_) (fun c24 => ?_)
    · have V := V1 c24
      refine r_pick [0] (ls' := [(0, vr 37)]) rfl ?_
      exact V
    · have V := V2 c24
      refine r_aload_n dX3_read_52 rfl rfl ?_
      refine r_callV (args := []) dX3_read_53 kX3_42 ob_37 ⟨_, _, rfl⟩ (by decide) rfl rfl (Nat.le_of_ble_eq_true rfl) cap0 (Ev.mono V ?_)
      rintro r h' ⟨n25, rfl, rfl, V⟩
      show Rn w mX3_read (d + 1) G Q 56 [(0, vr 37), (2, vi x2)] [] (B0, n25)
      obtain ⟨s26, V⟩ := V
      refine r_iinc (y := x2 + 1) (ls' := [(0, vr 37), (2, vi (x2 + 1))]) dX3_read_56 rfl rfl s26 (by decide) rfl ?_
      refine r_goto (tgt := 36) dX3_read_59 (by decide) ?_
      exact V

theorem gX3_read_62 {w : WD} {d : Nat} {G : GM} {Q : Option AV → Hp → Prop} {n : NM}
    (V :
    (Ev w d 0 0 mX9_kindOf [vr 38, vi (n 37 2)] (B0, n) (fun r h' => ∃ (x22 : Int) (n21 : NM), r = some (vi x22) ∧ h' = (B0, n21) ∧ 
      ((x22 = 0 →
        Q none (B0, n21)) ∧
      (x22 ≠ 0 →
        (Ev w d 0 0 mX3_take [vr 37, vi 3, vi 59] (B0, n21) (fun r h' => ∃ (x25 : Int) (n24 : NM), r = some (vi x25) ∧ h' = (B0, n24) ∧ 
          (Ev w d 0 0 mX3_fail [vr 37] (B0, n24) (fun r h' => ∃ n26 : NM, r = none ∧ h' = (B0, n26) ∧ 
            Q none (B0, n26)))))))))) :
    Rn w mX3_read (d + 1) G Q 62 [(0, vr 37)] [] (B0, n) := by
  refine r_aload_n dX3_read_62 rfl rfl ?_
  refine r_getR (b := 38) dX3_read_63 fX3_12 ob_37 (by decide) rfl rfl ?_
  refine r_aload_n dX3_read_66 rfl rfl ?_
  refine r_getI (fi := 2) dX3_read_67 fX3_25 ob_37 (by decide) (by decide) rfl ?_
  refine r_callV (args := [vi (n 37 2)]) dX3_read_70 kX3_49 ob_38 ⟨_, _, rfl⟩ (by decide) rfl rfl (Nat.le_of_ble_eq_true rfl) cap0 (Ev.mono V ?_)
  rintro r h' ⟨x22, n21, rfl, rfl, V⟩
  show Rn w mX3_read (d + 1) G Q 73 [(0, vr 37)] [vi x22] (B0, n21)
  obtain ⟨V1, V2⟩ := V
  refine r_zeq (tgt := 88) dX3_read_73 (by decide) (fun c23 => ?_) (fun c23 => ?_)
  · have V := V1 c23
    exact r_ret dX3_read_88 rfl V
  · have V := V2 c23
    refine r_aload_n dX3_read_76 rfl rfl ?_
    refine r_iconst (x := 3) dX3_read_77 rfl (by decide) ?_
    refine r_bipush (x := 59) dX3_read_78 (by decide +kernel) (by decide) ?_
    refine r_callV (args := [vi 3, vi 59]) dX3_read_80 kX3_45 ob_37 ⟨_, _, rfl⟩ (by decide) rfl rfl (Nat.le_of_ble_eq_true rfl) cap0 (Ev.mono V ?_)
    rintro r h' ⟨x25, n24, rfl, rfl, V⟩
    show Rn w mX3_read (d + 1) G Q 83 [(0, vr 37)] [vi x25] (B0, n24)
    refine r_pop dX3_read_83 rfl ?_
    refine r_aload_n dX3_read_84 rfl rfl ?_
    refine r_callV (args := []) dX3_read_85 kX3_53 ob_37 ⟨_, _, rfl⟩ (by decide) rfl rfl (Nat.le_of_ble_eq_true rfl) cap0 (Ev.mono V ?_)
    rintro r h' ⟨n26, rfl, rfl, V⟩
    show Rn w mX3_read (d + 1) G Q 88 [(0, vr 37)] [] (B0, n26)
    exact r_ret dX3_read_88 rfl V

theorem gX3_faultPlace_0 {w : WD} {d : Nat} {G : GM} {Q : Option AV → Hp → Prop} {n : NM}
    (V :
    Q (some (vi (n 37 4))) (B0, n)) :
    Rn w mX3_faultPlace d G Q 0 [(0, vr 37)] [] (B0, n) := by
  refine r_aload_n dX3_faultPlace_0 rfl rfl ?_
  refine r_getI (fi := 4) dX3_faultPlace_1 fX3_32 ob_37 (by decide) (by decide) rfl ?_
  exact r_iret dX3_faultPlace_4 rfl V

theorem gX3_draft_0 {w : WD} {d : Nat} {G : GM} {Q : Option AV → Hp → Prop} {n : NM}
    (V :
    Q (some (vr 42)) (B0, n)) :
    Rn w mX3_draft d G Q 0 [(0, vr 37)] [] (B0, n) := by
  refine r_aload_n dX3_draft_0 rfl rfl ?_
  refine r_getR (b := 42) dX3_draft_1 fX3_21 ob_37 (by decide) rfl rfl ?_
  exact r_aret (rt := .object "LakeWatch$Law") dX3_draft_4 rfl rfl V

theorem gX3_clause_0 {w : WD} {d : Nat} {G : GM} {Q : Option AV → Hp → Prop} {n : NM}
    (V :
    (Ev w d 0 0 mX9_valueOf [vr 38, vi (n 37 2)] (B0, n) (fun r h' => ∃ (x22 : Int) (n21 : NM), r = some (vi x22) ∧ h' = (B0, n21) ∧ 
      (Ev w d 0 0 mX9_kindOf [vr 38, vi (n21 37 2)] (B0, n21) (fun r h' => ∃ (x24 : Int) (n23 : NM), r = some (vi x24) ∧ h' = (B0, n23) ∧ 
        ((x24 ≠ 1 →
          (Ev w d 0 0 mX3_fail [vr 37] (B0, n23) (fun r h' => ∃ n26 : NM, r = none ∧ h' = (B0, n26) ∧ 
            Q none (B0, n26)))) ∧
        (x24 = 1 →
          (Ev w d 0 0 mX11_within [vi x22, vi 0, vi 5] (B0, n23) (fun r h' => ∃ (x28 : Int) (n27 : NM), r = some (vi x28) ∧ h' = (B0, n27) ∧ 
            ((x28 ≠ 0 →
              (inI ((n27 37 2) + 1)) ∧
              (Ev w d 0 0 mX2_steps [vr 42] (B0, upn n27 37 2 ((n27 37 2) + 1)) (fun r h' => ∃ (x32 : Int) (n31 : NM), r = some (vi x32) ∧ h' = (B0, n31) ∧ 
                (Ev w d 0 0 mX3_sum [vr 37, vi 0] (B0, n31) (fun r h' => ∃ n33 : NM, r = none ∧ h' = (B0, n33) ∧ 
                  (Ev w d 0 0 mX2_steps [vr 42] (B0, n33) (fun r h' => ∃ (x35 : Int) (n34 : NM), r = some (vi x35) ∧ h' = (B0, n34) ∧ 
                    (Ev w d 0 0 mX3_take [vr 37, vi 1, vi 15] (B0, n34) (fun r h' => ∃ (x37 : Int) (n36 : NM), r = some (vi x37) ∧ h' = (B0, n36) ∧ 
                      ((x37 = 0 →
                        Rn w mX3_clause (d + 1) G Q 87 [(0, vr 37), (1, vi x22), (2, vi x32), (3, vi x35)] [] (B0, n36)) ∧
                      (x37 ≠ 0 →
                        (Ev w d 0 0 mX3_test [vr 37, vi 0] (B0, n36) (fun r h' => ∃ n39 : NM, r = none ∧ h' = (B0, n39) ∧ 
                          Rn w mX3_clause (d + 1) G Q 87 [(0, vr 37), (1, vi x22), (2, vi x32), (3, vi x35)] [] (B0, n39)))))))))))))) ∧
            (x28 = 0 →
              (Ev w d 0 0 mX3_fail [vr 37] (B0, n27) (fun r h' => ∃ n40 : NM, r = none ∧ h' = (B0, n40) ∧ 
                Q none (B0, n40)))))))))))))) :
    Rn w mX3_clause (d + 1) G Q 0 [(0, vr 37)] [] (B0, n) := by
  refine r_aload_n dX3_clause_0 rfl rfl ?_
  refine r_getR (b := 38) dX3_clause_1 fX3_12 ob_37 (by decide) rfl rfl ?_
  refine r_aload_n dX3_clause_4 rfl rfl ?_
  refine r_getI (fi := 2) dX3_clause_5 fX3_25 ob_37 (by decide) (by decide) rfl ?_
  refine r_callV (args := [vi (n 37 2)]) dX3_clause_8 kX3_56 ob_38 ⟨_, _, rfl⟩ (by decide) rfl rfl (Nat.le_of_ble_eq_true rfl) cap0 (Ev.mono V ?_)
  rintro r h' ⟨x22, n21, rfl, rfl, V⟩
  show Rn w mX3_clause (d + 1) G Q 11 [(0, vr 37)] [vi x22] (B0, n21)
  refine r_istore_n (ls' := [(0, vr 37), (1, vi x22)]) dX3_clause_11 rfl (by decide) rfl ?_
  refine r_aload_n dX3_clause_12 rfl rfl ?_
  refine r_getR (b := 38) dX3_clause_13 fX3_12 ob_37 (by decide) rfl rfl ?_
  refine r_aload_n dX3_clause_16 rfl rfl ?_
  refine r_getI (fi := 2) dX3_clause_17 fX3_25 ob_37 (by decide) (by decide) rfl ?_
  refine r_callV (args := [vi (n21 37 2)]) dX3_clause_20 kX3_49 ob_38 ⟨_, _, rfl⟩ (by decide) rfl rfl (Nat.le_of_ble_eq_true rfl) cap0 (Ev.mono V ?_)
  rintro r h' ⟨x24, n23, rfl, rfl, V⟩
  show Rn w mX3_clause (d + 1) G Q 23 [(0, vr 37), (1, vi x22)] [vi x24] (B0, n23)
  refine r_iconst (x := 1) dX3_clause_23 rfl (by decide) ?_
  obtain ⟨V1, V2⟩ := V
  refine r_jne (tgt := 36) dX3_clause_24 (by decide) (fun c25 => ?_) (fun c25 => ?_)
  · have V := V1 c25
    refine r_aload_n dX3_clause_36 rfl rfl ?_
    refine r_callV (args := []) dX3_clause_37 kX3_53 ob_37 ⟨_, _, rfl⟩ (by decide) rfl rfl (Nat.le_of_ble_eq_true rfl) cap0 (Ev.mono V ?_)
    rintro r h' ⟨n26, rfl, rfl, V⟩
    show Rn w mX3_clause (d + 1) G Q 40 [(0, vr 37), (1, vi x22)] [] (B0, n26)
    exact r_ret dX3_clause_40 rfl V
  · have V := V2 c25
    refine r_iload_n dX3_clause_27 rfl rfl ?_
    refine r_iconst (x := 0) dX3_clause_28 rfl (by decide) ?_
    refine r_iconst (x := 5) dX3_clause_29 rfl (by decide) ?_
    refine r_callSN (args := [vi x22, vi 0, vi 5]) dX3_clause_30 kX3_59 rfl rfl (Nat.le_of_ble_eq_true rfl) cap0 (Ev.mono V ?_)
    rintro r h' ⟨x28, n27, rfl, rfl, V⟩
    show Rn w mX3_clause (d + 1) G Q 33 [(0, vr 37), (1, vi x22)] [vi x28] (B0, n27)
    obtain ⟨V1, V2⟩ := V
    refine r_zne (tgt := 41) dX3_clause_33 (by decide) (fun c29 => ?_) (fun c29 => ?_)
    · have V := V1 c29
      refine r_aload_n dX3_clause_41 rfl rfl ?_
      refine r_dup dX3_clause_42 rfl ?_
      refine r_getI (fi := 2) dX3_clause_43 fX3_25 ob_37 (by decide) (by decide) rfl ?_
      refine r_iconst (x := 1) dX3_clause_46 rfl (by decide) ?_
      obtain ⟨s30, V⟩ := V
      refine r_iadd dX3_clause_47 s30 ?_
      refine r_putI (fi := 2) (h' := (B0, upn n27 37 2 ((n27 37 2) + 1))) dX3_clause_48 pX3_25 ob_37 (by decide) rfl rfl rfl ?_
      refine r_aload_n dX3_clause_51 rfl rfl ?_
      refine r_getR (b := 42) dX3_clause_52 fX3_21 ob_37 (by decide) rfl rfl ?_
      refine r_callV (args := []) dX3_clause_55 kX3_63 ob_42 ⟨_, _, rfl⟩ (by decide) rfl rfl (Nat.le_of_ble_eq_true rfl) cap0 (Ev.mono V ?_)
      rintro r h' ⟨x32, n31, rfl, rfl, V⟩
      show Rn w mX3_clause (d + 1) G Q 58 [(0, vr 37), (1, vi x22)] [vi x32] (B0, n31)
      refine r_istore_n (ls' := [(0, vr 37), (1, vi x22), (2, vi x32)]) dX3_clause_58 rfl (by decide) rfl ?_
      refine r_aload_n dX3_clause_59 rfl rfl ?_
      refine r_iconst (x := 0) dX3_clause_60 rfl (by decide) ?_
      refine r_callV (args := [vi 0]) dX3_clause_61 kX3_67 ob_37 ⟨_, _, rfl⟩ (by decide) rfl rfl (Nat.le_of_ble_eq_true rfl) cap0 (Ev.mono V ?_)
      rintro r h' ⟨n33, rfl, rfl, V⟩
      show Rn w mX3_clause (d + 1) G Q 64 [(0, vr 37), (1, vi x22), (2, vi x32)] [] (B0, n33)
      refine r_aload_n dX3_clause_64 rfl rfl ?_
      refine r_getR (b := 42) dX3_clause_65 fX3_21 ob_37 (by decide) rfl rfl ?_
      refine r_callV (args := []) dX3_clause_68 kX3_63 ob_42 ⟨_, _, rfl⟩ (by decide) rfl rfl (Nat.le_of_ble_eq_true rfl) cap0 (Ev.mono V ?_)
      rintro r h' ⟨x35, n34, rfl, rfl, V⟩
      show Rn w mX3_clause (d + 1) G Q 71 [(0, vr 37), (1, vi x22), (2, vi x32)] [vi x35] (B0, n34)
      refine r_istore_n (ls' := [(0, vr 37), (1, vi x22), (2, vi x32), (3, vi x35)]) dX3_clause_71 rfl (by decide) rfl ?_
      refine r_aload_n dX3_clause_72 rfl rfl ?_
      refine r_iconst (x := 1) dX3_clause_73 rfl (by decide) ?_
      refine r_bipush (x := 15) dX3_clause_74 (by decide +kernel) (by decide) ?_
      refine r_callV (args := [vi 1, vi 15]) dX3_clause_76 kX3_45 ob_37 ⟨_, _, rfl⟩ (by decide) rfl rfl (Nat.le_of_ble_eq_true rfl) cap0 (Ev.mono V ?_)
      rintro r h' ⟨x37, n36, rfl, rfl, V⟩
      show Rn w mX3_clause (d + 1) G Q 79 [(0, vr 37), (1, vi x22), (2, vi x32), (3, vi x35)] [vi x37] (B0, n36)
      obtain ⟨V1, V2⟩ := V
      refine r_zeq (tgt := 87) dX3_clause_79 (by decide) (fun c38 => ?_) (fun c38 => ?_)
      · have V := V1 c38
        exact V
      · have V := V2 c38
        refine r_aload_n dX3_clause_82 rfl rfl ?_
        refine r_iconst (x := 0) dX3_clause_83 rfl (by decide) ?_
        refine r_callV (args := [vi 0]) dX3_clause_84 kX3_71 ob_37 ⟨_, _, rfl⟩ (by decide) rfl rfl (Nat.le_of_ble_eq_true rfl) cap0 (Ev.mono V ?_)
        rintro r h' ⟨n39, rfl, rfl, V⟩
        show Rn w mX3_clause (d + 1) G Q 87 [(0, vr 37), (1, vi x22), (2, vi x32), (3, vi x35)] [] (B0, n39)
        exact V
    · have V := V2 c29
      refine r_aload_n dX3_clause_36 rfl rfl ?_
      refine r_callV (args := []) dX3_clause_37 kX3_53 ob_37 ⟨_, _, rfl⟩ (by decide) rfl rfl (Nat.le_of_ble_eq_true rfl) cap0 (Ev.mono V ?_)
      rintro r h' ⟨n40, rfl, rfl, V⟩
      show Rn w mX3_clause (d + 1) G Q 40 [(0, vr 37), (1, vi x22)] [] (B0, n40)
      exact r_ret dX3_clause_40 rfl V

theorem gX3_clause_87 {w : WD} {d : Nat} {G : GM} {Q : Option AV → Hp → Prop} {n : NM} {x1 x2 x3 : Int}
    (V :
    (Ev w d 0 0 mX2_addClause [vr 42, vi x1, vi x2, vi x3] (B0, n) (fun r h' => ∃ n21 : NM, r = none ∧ h' = (B0, n21) ∧ 
      Q none (B0, n21)))) :
    Rn w mX3_clause (d + 1) G Q 87 [(0, vr 37), (1, vi x1), (2, vi x2), (3, vi x3)] [] (B0, n) := by
  refine r_aload_n dX3_clause_87 rfl rfl ?_
  refine r_getR (b := 42) dX3_clause_88 fX3_21 ob_37 (by decide) rfl rfl ?_
  refine r_iload_n dX3_clause_91 rfl rfl ?_
  refine r_iload_n dX3_clause_92 rfl rfl ?_
  refine r_iload_n dX3_clause_93 rfl rfl ?_
  refine r_callV (args := [vi x1, vi x2, vi x3]) dX3_clause_94 kX3_74 ob_42 ⟨_, _, rfl⟩ (by decide) rfl rfl (Nat.le_of_ble_eq_true rfl) cap0 (Ev.mono V ?_)
  rintro r h' ⟨n21, rfl, rfl, V⟩
  show Rn w mX3_clause (d + 1) G Q 97 [(0, vr 37), (1, vi x1), (2, vi x2), (3, vi x3)] [] (B0, n21)
  exact r_ret dX3_clause_97 rfl V

theorem gX3_test_0 {w : WD} {d : Nat} {G : GM} {Q : Option AV → Hp → Prop} {n : NM} {x1 : Int}
    (V :
    (Ev w d 0 0 mX3_both [vr 37, vi x1] (B0, n) (fun r h' => ∃ n21 : NM, r = none ∧ h' = (B0, n21) ∧ 
      Rn w mX3_test (d + 1) G Q 7 [(0, vr 37), (1, vi x1), (2, vi 0)] [] (B0, n21)))) :
    Rn w mX3_test (d + 1) G Q 0 [(0, vr 37), (1, vi x1)] [] (B0, n) := by
  refine r_aload_n dX3_test_0 rfl rfl ?_
  refine r_iload_n dX3_test_1 rfl rfl ?_
  refine r_callV (args := [vi x1]) dX3_test_2 kX3_78 ob_37 ⟨_, _, rfl⟩ (by decide) rfl rfl (Nat.le_of_ble_eq_true rfl) cap0 (Ev.mono V ?_)
  rintro r h' ⟨n21, rfl, rfl, V⟩
  show Rn w mX3_test (d + 1) G Q 5 [(0, vr 37), (1, vi x1)] [] (B0, n21)
  refine r_iconst (x := 0) dX3_test_5 rfl (by decide) ?_
  refine r_istore_n (ls' := [(0, vr 37), (1, vi x1), (2, vi 0)]) dX3_test_6 rfl (by decide) rfl ?_
  exact V

theorem gX3_test_7 {w : WD} {d : Nat} {G : GM} {Q : Option AV → Hp → Prop} {n : NM} {x1 x2 : Int}
    (V :
    ((400 ≤ x2 →
      Q none (B0, n)) ∧
    (x2 < 400 →
      (Ev w d 0 0 mX3_take [vr 37, vi 1, vi 16] (B0, n) (fun r h' => ∃ (x23 : Int) (n22 : NM), r = some (vi x23) ∧ h' = (B0, n22) ∧ 
        ((x23 = 0 →
          Q none (B0, n22)) ∧
        (x23 ≠ 0 →
          (Ev w d 0 0 mX2_addStep [vr 42, vi 10, vi 0] (B0, n22) (fun r h' => ∃ (x26 : Int) (n25 : NM), r = some (vi x26) ∧ h' = (B0, n25) ∧ 
            (Ev w d 0 0 mX3_both [vr 37, vi x1] (B0, n25) (fun r h' => ∃ n27 : NM, r = none ∧ h' = (B0, n27) ∧ 
              (Ev w d 0 0 mX2_letSkipEndHere [vr 42, vi x26] (B0, n27) (fun r h' => ∃ n28 : NM, r = none ∧ h' = (B0, n28) ∧ 
                (inI (x2 + 1)) ∧
                Rn w mX3_test (d + 1) G Q 7 [(0, vr 37), (1, vi x1), (2, vi (x2 + 1))] [] (B0, n28)))))))))))))) :
    Rn w mX3_test (d + 1) G Q 7 [(0, vr 37), (1, vi x1), (2, vi x2)] [] (B0, n) := by
  refine r_iload_n dX3_test_7 rfl rfl ?_
  refine r_sipush (x := 400) dX3_test_8 (by decide +kernel) (by decide) ?_
  obtain ⟨V1, V2⟩ := V
  refine r_jge (tgt := 54) dX3_test_11 (by decide) (fun c21 => ?_) (fun c21 => ?_)
  · have V := V1 c21
    exact r_ret dX3_test_54 rfl V
  · have V := V2 c21
    refine r_aload_n dX3_test_14 rfl rfl ?_
    refine r_iconst (x := 1) dX3_test_15 rfl (by decide) ?_
    refine r_bipush (x := 16) dX3_test_16 (by decide +kernel) (by decide) ?_
    refine r_callV (args := [vi 1, vi 16]) dX3_test_18 kX3_45 ob_37 ⟨_, _, rfl⟩ (by decide) rfl rfl (Nat.le_of_ble_eq_true rfl) cap0 (Ev.mono V ?_)
    rintro r h' ⟨x23, n22, rfl, rfl, V⟩
    show Rn w mX3_test (d + 1) G Q 21 [(0, vr 37), (1, vi x1), (2, vi x2)] [vi x23] (B0, n22)
    obtain ⟨V1, V2⟩ := V
    refine r_zeq (tgt := 54) dX3_test_21 (by decide) (fun c24 => ?_) (fun c24 => ?_)
    · have V := V1 c24
      exact r_ret dX3_test_54 rfl V
    · have V := V2 c24
      refine r_aload_n dX3_test_24 rfl rfl ?_
      refine r_getR (b := 42) dX3_test_25 fX3_21 ob_37 (by decide) rfl rfl ?_
      refine r_bipush (x := 10) dX3_test_28 (by decide +kernel) (by decide) ?_
      refine r_iconst (x := 0) dX3_test_30 rfl (by decide) ?_
      refine r_callV (args := [vi 10, vi 0]) dX3_test_31 kX3_81 ob_42 ⟨_, _, rfl⟩ (by decide) rfl rfl (Nat.le_of_ble_eq_true rfl) cap0 (Ev.mono V ?_)
      rintro r h' ⟨x26, n25, rfl, rfl, V⟩
      show Rn w mX3_test (d + 1) G Q 34 [(0, vr 37), (1, vi x1), (2, vi x2)] [vi x26] (B0, n25)
      refine r_istore_n (ls' := [(0, vr 37), (1, vi x1), (2, vi x2), (3, vi x26)]) dX3_test_34 rfl (by decide) rfl ?_
      refine r_aload_n dX3_test_35 rfl rfl ?_
      refine r_iload_n dX3_test_36 rfl rfl ?_
      refine r_callV (args := [vi x1]) dX3_test_37 kX3_78 ob_37 ⟨_, _, rfl⟩ (by decide) rfl rfl (Nat.le_of_ble_eq_true rfl) cap0 (Ev.mono V ?_)
      rintro r h' ⟨n27, rfl, rfl, V⟩
      show Rn w mX3_test (d + 1) G Q 40 [(0, vr 37), (1, vi x1), (2, vi x2), (3, vi x26)] [] (B0, n27)
      refine r_aload_n dX3_test_40 rfl rfl ?_
      refine r_getR (b := 42) dX3_test_41 fX3_21 ob_37 (by decide) rfl rfl ?_
      refine r_iload_n dX3_test_44 rfl rfl ?_
      refine r_callV (args := [vi x26]) dX3_test_45 kX3_85 ob_42 ⟨_, _, rfl⟩ (by decide) rfl rfl (Nat.le_of_ble_eq_true rfl) cap0 (Ev.mono V ?_)
      rintro r h' ⟨n28, rfl, rfl, V⟩
      show Rn w mX3_test (d + 1) G Q 48 [(0, vr 37), (1, vi x1), (2, vi x2), (3, vi x26)] [] (B0, n28)
      obtain ⟨s29, V⟩ := V
      refine r_iinc (y := x2 + 1) (ls' := [(0, vr 37), (1, vi x1), (2, vi (x2 + 1)), (3, vi x26)]) dX3_test_48 rfl rfl s29 (by decide) rfl ?_
      refine r_goto (tgt := 7) dX3_test_51 (by decide) ?_
      refine r_pick [0, 1, 2] (ls' := [(0, vr 37), (1, vi x1), (2, vi (x2 + 1))]) rfl ?_
      exact V

theorem gX3_both_0 {w : WD} {d : Nat} {G : GM} {Q : Option AV → Hp → Prop} {n : NM} {x1 : Int}
    (V :
    (Ev w d 0 0 mX3_plain [vr 37, vi x1] (B0, n) (fun r h' => ∃ n21 : NM, r = none ∧ h' = (B0, n21) ∧ 
      Rn w mX3_both (d + 1) G Q 7 [(0, vr 37), (1, vi x1), (2, vi 0)] [] (B0, n21)))) :
    Rn w mX3_both (d + 1) G Q 0 [(0, vr 37), (1, vi x1)] [] (B0, n) := by
  refine r_aload_n dX3_both_0 rfl rfl ?_
  refine r_iload_n dX3_both_1 rfl rfl ?_
  refine r_callV (args := [vi x1]) dX3_both_2 kX3_88 ob_37 ⟨_, _, rfl⟩ (by decide) rfl rfl (Nat.le_of_ble_eq_true rfl) cap0 (Ev.mono V ?_)
  rintro r h' ⟨n21, rfl, rfl, V⟩
  show Rn w mX3_both (d + 1) G Q 5 [(0, vr 37), (1, vi x1)] [] (B0, n21)
  refine r_iconst (x := 0) dX3_both_5 rfl (by decide) ?_
  refine r_istore_n (ls' := [(0, vr 37), (1, vi x1), (2, vi 0)]) dX3_both_6 rfl (by decide) rfl ?_
  exact V

theorem gX3_both_7 {w : WD} {d : Nat} {G : GM} {Q : Option AV → Hp → Prop} {n : NM} {x1 x2 : Int}
    (V :
    ((400 ≤ x2 →
      Q none (B0, n)) ∧
    (x2 < 400 →
      (Ev w d 0 0 mX3_take [vr 37, vi 1, vi 17] (B0, n) (fun r h' => ∃ (x23 : Int) (n22 : NM), r = some (vi x23) ∧ h' = (B0, n22) ∧ 
        ((x23 = 0 →
          Q none (B0, n22)) ∧
        (x23 ≠ 0 →
          (Ev w d 0 0 mX2_addStep [vr 42, vi 11, vi 0] (B0, n22) (fun r h' => ∃ (x26 : Int) (n25 : NM), r = some (vi x26) ∧ h' = (B0, n25) ∧ 
            (Ev w d 0 0 mX3_plain [vr 37, vi x1] (B0, n25) (fun r h' => ∃ n27 : NM, r = none ∧ h' = (B0, n27) ∧ 
              (Ev w d 0 0 mX2_letSkipEndHere [vr 42, vi x26] (B0, n27) (fun r h' => ∃ n28 : NM, r = none ∧ h' = (B0, n28) ∧ 
                (inI (x2 + 1)) ∧
                Rn w mX3_both (d + 1) G Q 7 [(0, vr 37), (1, vi x1), (2, vi (x2 + 1))] [] (B0, n28)))))))))))))) :
    Rn w mX3_both (d + 1) G Q 7 [(0, vr 37), (1, vi x1), (2, vi x2)] [] (B0, n) := by
  refine r_iload_n dX3_both_7 rfl rfl ?_
  refine r_sipush (x := 400) dX3_both_8 (by decide +kernel) (by decide) ?_
  obtain ⟨V1, V2⟩ := V
  refine r_jge (tgt := 54) dX3_both_11 (by decide) (fun c21 => ?_) (fun c21 => ?_)
  · have V := V1 c21
    exact r_ret dX3_both_54 rfl V
  · have V := V2 c21
    refine r_aload_n dX3_both_14 rfl rfl ?_
    refine r_iconst (x := 1) dX3_both_15 rfl (by decide) ?_
    refine r_bipush (x := 17) dX3_both_16 (by decide +kernel) (by decide) ?_
    refine r_callV (args := [vi 1, vi 17]) dX3_both_18 kX3_45 ob_37 ⟨_, _, rfl⟩ (by decide) rfl rfl (Nat.le_of_ble_eq_true rfl) cap0 (Ev.mono V ?_)
    rintro r h' ⟨x23, n22, rfl, rfl, V⟩
    show Rn w mX3_both (d + 1) G Q 21 [(0, vr 37), (1, vi x1), (2, vi x2)] [vi x23] (B0, n22)
    obtain ⟨V1, V2⟩ := V
    refine r_zeq (tgt := 54) dX3_both_21 (by decide) (fun c24 => ?_) (fun c24 => ?_)
    · have V := V1 c24
      exact r_ret dX3_both_54 rfl V
    · have V := V2 c24
      refine r_aload_n dX3_both_24 rfl rfl ?_
      refine r_getR (b := 42) dX3_both_25 fX3_21 ob_37 (by decide) rfl rfl ?_
      refine r_bipush (x := 11) dX3_both_28 (by decide +kernel) (by decide) ?_
      refine r_iconst (x := 0) dX3_both_30 rfl (by decide) ?_
      refine r_callV (args := [vi 11, vi 0]) dX3_both_31 kX3_81 ob_42 ⟨_, _, rfl⟩ (by decide) rfl rfl (Nat.le_of_ble_eq_true rfl) cap0 (Ev.mono V ?_)
      rintro r h' ⟨x26, n25, rfl, rfl, V⟩
      show Rn w mX3_both (d + 1) G Q 34 [(0, vr 37), (1, vi x1), (2, vi x2)] [vi x26] (B0, n25)
      refine r_istore_n (ls' := [(0, vr 37), (1, vi x1), (2, vi x2), (3, vi x26)]) dX3_both_34 rfl (by decide) rfl ?_
      refine r_aload_n dX3_both_35 rfl rfl ?_
      refine r_iload_n dX3_both_36 rfl rfl ?_
      refine r_callV (args := [vi x1]) dX3_both_37 kX3_88 ob_37 ⟨_, _, rfl⟩ (by decide) rfl rfl (Nat.le_of_ble_eq_true rfl) cap0 (Ev.mono V ?_)
      rintro r h' ⟨n27, rfl, rfl, V⟩
      show Rn w mX3_both (d + 1) G Q 40 [(0, vr 37), (1, vi x1), (2, vi x2), (3, vi x26)] [] (B0, n27)
      refine r_aload_n dX3_both_40 rfl rfl ?_
      refine r_getR (b := 42) dX3_both_41 fX3_21 ob_37 (by decide) rfl rfl ?_
      refine r_iload_n dX3_both_44 rfl rfl ?_
      refine r_callV (args := [vi x26]) dX3_both_45 kX3_85 ob_42 ⟨_, _, rfl⟩ (by decide) rfl rfl (Nat.le_of_ble_eq_true rfl) cap0 (Ev.mono V ?_)
      rintro r h' ⟨n28, rfl, rfl, V⟩
      show Rn w mX3_both (d + 1) G Q 48 [(0, vr 37), (1, vi x1), (2, vi x2), (3, vi x26)] [] (B0, n28)
      obtain ⟨s29, V⟩ := V
      refine r_iinc (y := x2 + 1) (ls' := [(0, vr 37), (1, vi x1), (2, vi (x2 + 1)), (3, vi x26)]) dX3_both_48 rfl rfl s29 (by decide) rfl ?_
      refine r_goto (tgt := 7) dX3_both_51 (by decide) ?_
      refine r_pick [0, 1, 2] (ls' := [(0, vr 37), (1, vi x1), (2, vi (x2 + 1))]) rfl ?_
      exact V

theorem gX3_plain_0 {w : WD} {d : Nat} {G : GM} {Q : Option AV → Hp → Prop} {n : NM} {x1 : Int}
    (V :
    Rn w mX3_plain d G Q 4 [(0, vr 37), (1, vi x1), (2, vi 0), (3, vi 0)] [] (B0, n)) :
    Rn w mX3_plain d G Q 0 [(0, vr 37), (1, vi x1)] [] (B0, n) := by
  refine r_iconst (x := 0) dX3_plain_0 rfl (by decide) ?_
  refine r_istore_n (ls' := [(0, vr 37), (1, vi x1), (2, vi 0)]) dX3_plain_1 rfl (by decide) rfl ?_
  refine r_iconst (x := 0) dX3_plain_2 rfl (by decide) ?_
  refine r_istore_n (ls' := [(0, vr 37), (1, vi x1), (2, vi 0), (3, vi 0)]) dX3_plain_3 rfl (by decide) rfl ?_
  exact V

theorem gX3_plain_4 {w : WD} {d : Nat} {G : GM} {Q : Option AV → Hp → Prop} {n : NM} {x1 x2 x3 : Int}
    (V :
    ((400 ≤ x3 →
      Rn w mX3_plain (d + 1) G Q 37 [(0, vr 37), (1, vi x1), (2, vi x2)] [] (B0, n)) ∧
    (x3 < 400 →
      (Ev w d 0 0 mX3_take [vr 37, vi 1, vi 18] (B0, n) (fun r h' => ∃ (x23 : Int) (n22 : NM), r = some (vi x23) ∧ h' = (B0, n22) ∧ 
        ((x23 = 0 →
          Rn w mX3_plain (d + 1) G Q 37 [(0, vr 37), (1, vi x1), (2, vi x2)] [] (B0, n22)) ∧
        (x23 ≠ 0 →
          (∀ z26 : Int, z26 = (if x2 ≠ 0 then 0 else 1) → 
          (inI (x3 + 1)) ∧
          Rn w mX3_plain (d + 1) G Q 4 [(0, vr 37), (1, vi x1), (2, vi z26), (3, vi (x3 + 1))] [] (B0, n22))))))))) :
    Rn w mX3_plain (d + 1) G Q 4 [(0, vr 37), (1, vi x1), (2, vi x2), (3, vi x3)] [] (B0, n) := by
  refine r_iload_n dX3_plain_4 rfl rfl ?_
  refine r_sipush (x := 400) dX3_plain_5 (by decide +kernel) (by decide) ?_
  obtain ⟨V1, V2⟩ := V
  refine r_jge (tgt := 37) dX3_plain_8 (by decide) (fun c21 => ?_) (fun c21 => ?_)
  · have V := V1 c21
    refine r_pick [0, 1, 2] (ls' := [(0, vr 37), (1, vi x1), (2, vi x2)]) rfl ?_
    exact V
  · have V := V2 c21
    refine r_aload_n dX3_plain_11 rfl rfl ?_
    refine r_iconst (x := 1) dX3_plain_12 rfl (by decide) ?_
    refine r_bipush (x := 18) dX3_plain_13 (by decide +kernel) (by decide) ?_
    refine r_callV (args := [vi 1, vi 18]) dX3_plain_15 kX3_45 ob_37 ⟨_, _, rfl⟩ (by decide) rfl rfl (Nat.le_of_ble_eq_true rfl) cap0 (Ev.mono V ?_)
    rintro r h' ⟨x23, n22, rfl, rfl, V⟩
    show Rn w mX3_plain (d + 1) G Q 18 [(0, vr 37), (1, vi x1), (2, vi x2), (3, vi x3)] [vi x23] (B0, n22)
    obtain ⟨V1, V2⟩ := V
    refine r_zeq (tgt := 37) dX3_plain_18 (by decide) (fun c24 => ?_) (fun c24 => ?_)
    · have V := V1 c24
      refine r_pick [0, 1, 2] (ls' := [(0, vr 37), (1, vi x1), (2, vi x2)]) rfl ?_
      exact V
    · have V := V2 c24
      refine r_iload_n dX3_plain_21 rfl rfl ?_
      have K : ∀ z26 : Int, z26 = (if x2 ≠ 0 then 0 else 1) → Rn w mX3_plain (d + 1) G Q 30 [(0, vr 37), (1, vi x1), (3, vi x3)] [vi z26] (B0, n22) := by
        intro z26 ez26
        have V := V z26 ez26
        refine r_istore_n (ls' := [(0, vr 37), (1, vi x1), (2, vi z26), (3, vi x3)]) dX3_plain_30 rfl (by decide) rfl ?_
        obtain ⟨s27, V⟩ := V
        refine r_iinc (y := x3 + 1) (ls' := [(0, vr 37), (1, vi x1), (2, vi z26), (3, vi (x3 + 1))]) dX3_plain_31 rfl rfl s27 (by decide) rfl ?_
        refine r_goto (tgt := 4) dX3_plain_34 (by decide) ?_
        exact V
      refine r_zne (tgt := 29) dX3_plain_22 (by decide) (fun c25 => ?_) (fun c25 => ?_)
      · refine r_iconst (x := 0) dX3_plain_29 rfl (by decide) ?_
        refine r_pick [0, 1, 3] (ls' := [(0, vr 37), (1, vi x1), (3, vi x3)]) rfl ?_
        exact K 0 (by first | rfl | (simp only [if_pos c25]))
      · refine r_iconst (x := 1) dX3_plain_25 rfl (by decide) ?_
        refine r_goto (tgt := 30) dX3_plain_26 (by decide) ?_
        refine r_pick [0, 1, 3] (ls' := [(0, vr 37), (1, vi x1), (3, vi x3)]) rfl ?_
        exact K 1 (by first | rfl | (simp only [if_neg (show ¬ (x2 ≠ 0) from not_not_intro c25)]))

theorem gX3_plain_37 {w : WD} {d : Nat} {G : GM} {Q : Option AV → Hp → Prop} {n : NM} {x1 x2 : Int}
    (V :
    (Ev w d 0 0 mX9_isAt [vr 38, vi (n 37 2), vi 3, vi 40] (B0, n) (fun r h' => ∃ (x22 : Int) (n21 : NM), r = some (vi x22) ∧ h' = (B0, n21) ∧ 
      ((x22 = 0 →
        (Ev w d 0 0 mX3_comparison [vr 37, vi x1] (B0, n21) (fun r h' => ∃ n24 : NM, r = none ∧ h' = (B0, n24) ∧ 
          Rn w mX3_plain (d + 1) G Q 69 [(0, vr 37), (2, vi x2)] [] (B0, n24)))) ∧
      (x22 ≠ 0 →
        (inI (x1 + 1)) ∧
        (Ev w d 0 0 mX3_testInBrackets [vr 37, vi (x1 + 1)] (B0, n21) (fun r h' => ∃ n26 : NM, r = none ∧ h' = (B0, n26) ∧ 
          Rn w mX3_plain (d + 1) G Q 69 [(0, vr 37), (2, vi x2)] [] (B0, n26)))))))) :
    Rn w mX3_plain (d + 1) G Q 37 [(0, vr 37), (1, vi x1), (2, vi x2)] [] (B0, n) := by
  refine r_aload_n dX3_plain_37 rfl rfl ?_
  refine r_getR (b := 38) dX3_plain_38 fX3_12 ob_37 (by decide) rfl rfl ?_
  refine r_aload_n dX3_plain_41 rfl rfl ?_
  refine r_getI (fi := 2) dX3_plain_42 fX3_25 ob_37 (by decide) (by decide) rfl ?_
  refine r_iconst (x := 3) dX3_plain_45 rfl (by decide) ?_
  refine r_bipush (x := 40) dX3_plain_46 (by decide +kernel) (by decide) ?_
  refine r_callV (args := [vi (n 37 2), vi 3, vi 40]) dX3_plain_48 kX3_91 ob_38 ⟨_, _, rfl⟩ (by decide) rfl rfl (Nat.le_of_ble_eq_true rfl) cap0 (Ev.mono V ?_)
  rintro r h' ⟨x22, n21, rfl, rfl, V⟩
  show Rn w mX3_plain (d + 1) G Q 51 [(0, vr 37), (1, vi x1), (2, vi x2)] [vi x22] (B0, n21)
  obtain ⟨V1, V2⟩ := V
  refine r_zeq (tgt := 64) dX3_plain_51 (by decide) (fun c23 => ?_) (fun c23 => ?_)
  · have V := V1 c23
    refine r_aload_n dX3_plain_64 rfl rfl ?_
    refine r_iload_n dX3_plain_65 rfl rfl ?_
    refine r_callV (args := [vi x1]) dX3_plain_66 kX3_97 ob_37 ⟨_, _, rfl⟩ (by decide) rfl rfl (Nat.le_of_ble_eq_true rfl) cap0 (Ev.mono V ?_)
    rintro r h' ⟨n24, rfl, rfl, V⟩
    show Rn w mX3_plain (d + 1) G Q 69 [(0, vr 37), (1, vi x1), (2, vi x2)] [] (B0, n24)
    refine r_pick [0, 2] (ls' := [(0, vr 37), (2, vi x2)]) rfl ?_
    exact V
  · have V := V2 c23
    refine r_aload_n dX3_plain_54 rfl rfl ?_
    refine r_iload_n dX3_plain_55 rfl rfl ?_
    refine r_iconst (x := 1) dX3_plain_56 rfl (by decide) ?_
    obtain ⟨s25, V⟩ := V
    refine r_iadd dX3_plain_57 s25 ?_
    refine r_callV (args := [vi (x1 + 1)]) dX3_plain_58 kX3_94 ob_37 ⟨_, _, rfl⟩ (by decide) rfl rfl (Nat.le_of_ble_eq_true rfl) cap0 (Ev.mono V ?_)
    rintro r h' ⟨n26, rfl, rfl, V⟩
    show Rn w mX3_plain (d + 1) G Q 61 [(0, vr 37), (1, vi x1), (2, vi x2)] [] (B0, n26)
    refine r_goto (tgt := 69) dX3_plain_61 (by decide) ?_
    refine r_pick [0, 2] (ls' := [(0, vr 37), (2, vi x2)]) rfl ?_
    exact V

theorem gX3_plain_69 {w : WD} {d : Nat} {G : GM} {Q : Option AV → Hp → Prop} {n : NM} {x2 : Int}
    (V :
    ((x2 = 0 →
      Q none (B0, n)) ∧
    (x2 ≠ 0 →
      (Ev w d 0 0 mX2_addStep [vr 42, vi 9, vi 0] (B0, n) (fun r h' => ∃ (x23 : Int) (n22 : NM), r = some (vi x23) ∧ h' = (B0, n22) ∧ 
        Q none (B0, n22)))))) :
    Rn w mX3_plain (d + 1) G Q 69 [(0, vr 37), (2, vi x2)] [] (B0, n) := by
  refine r_iload_n dX3_plain_69 rfl rfl ?_
  obtain ⟨V1, V2⟩ := V
  refine r_zeq (tgt := 84) dX3_plain_70 (by decide) (fun c21 => ?_) (fun c21 => ?_)
  · have V := V1 c21
    exact r_ret dX3_plain_84 rfl V
  · have V := V2 c21
    refine r_aload_n dX3_plain_73 rfl rfl ?_
    refine r_getR (b := 42) dX3_plain_74 fX3_21 ob_37 (by decide) rfl rfl ?_
    refine r_bipush (x := 9) dX3_plain_77 (by decide +kernel) (by decide) ?_
    refine r_iconst (x := 0) dX3_plain_79 rfl (by decide) ?_
    refine r_callV (args := [vi 9, vi 0]) dX3_plain_80 kX3_81 ob_42 ⟨_, _, rfl⟩ (by decide) rfl rfl (Nat.le_of_ble_eq_true rfl) cap0 (Ev.mono V ?_)
    rintro r h' ⟨x23, n22, rfl, rfl, V⟩
    show Rn w mX3_plain (d + 1) G Q 83 [(0, vr 37), (2, vi x2)] [vi x23] (B0, n22)
    refine r_pop dX3_plain_83 rfl ?_
    exact r_ret dX3_plain_84 rfl V

theorem gX3_testInBrackets_0 {w : WD} {d : Nat} {G : GM} {Q : Option AV → Hp → Prop} {n : NM} {x1 : Int}
    (V :
    ((x1 ≤ 8 →
      (Ev w d 0 0 mX3_take [vr 37, vi 3, vi 40] (B0, n) (fun r h' => ∃ (x23 : Int) (n22 : NM), r = some (vi x23) ∧ h' = (B0, n22) ∧ 
        (Ev w d 0 0 mX3_test [vr 37, vi x1] (B0, n22) (fun r h' => ∃ n24 : NM, r = none ∧ h' = (B0, n24) ∧ 
          (Ev w d 0 0 mX3_take [vr 37, vi 3, vi 41] (B0, n24) (fun r h' => ∃ (x26 : Int) (n25 : NM), r = some (vi x26) ∧ h' = (B0, n25) ∧ 
            ((x26 ≠ 0 →
              Q none (B0, n25)) ∧
            (x26 = 0 →
              (Ev w d 0 0 mX3_fail [vr 37] (B0, n25) (fun r h' => ∃ n28 : NM, r = none ∧ h' = (B0, n28) ∧ 
                Q none (B0, n28)))))))))))) ∧
    (8 < x1 →
      (Ev w d 0 0 mX3_fail [vr 37] (B0, n) (fun r h' => ∃ n29 : NM, r = none ∧ h' = (B0, n29) ∧ 
        Q none (B0, n29)))))) :
    Rn w mX3_testInBrackets (d + 1) G Q 0 [(0, vr 37), (1, vi x1)] [] (B0, n) := by
  refine r_iload_n dX3_testInBrackets_0 rfl rfl ?_
  refine r_bipush (x := 8) dX3_testInBrackets_1 (by decide +kernel) (by decide) ?_
  obtain ⟨V1, V2⟩ := V
  refine r_jle (tgt := 11) dX3_testInBrackets_3 (by decide) (fun c21 => ?_) (fun c21 => ?_)
  · have V := V1 c21
    refine r_aload_n dX3_testInBrackets_11 rfl rfl ?_
    refine r_iconst (x := 3) dX3_testInBrackets_12 rfl (by decide) ?_
    refine r_bipush (x := 40) dX3_testInBrackets_13 (by decide +kernel) (by decide) ?_
    refine r_callV (args := [vi 3, vi 40]) dX3_testInBrackets_15 kX3_45 ob_37 ⟨_, _, rfl⟩ (by decide) rfl rfl (Nat.le_of_ble_eq_true rfl) cap0 (Ev.mono V ?_)
    rintro r h' ⟨x23, n22, rfl, rfl, V⟩
    show Rn w mX3_testInBrackets (d + 1) G Q 18 [(0, vr 37), (1, vi x1)] [vi x23] (B0, n22)
    refine r_pop dX3_testInBrackets_18 rfl ?_
    refine r_aload_n dX3_testInBrackets_19 rfl rfl ?_
    refine r_iload_n dX3_testInBrackets_20 rfl rfl ?_
    refine r_callV (args := [vi x1]) dX3_testInBrackets_21 kX3_71 ob_37 ⟨_, _, rfl⟩ (by decide) rfl rfl (Nat.le_of_ble_eq_true rfl) cap0 (Ev.mono V ?_)
    rintro r h' ⟨n24, rfl, rfl, V⟩
    show Rn w mX3_testInBrackets (d + 1) G Q 24 [(0, vr 37), (1, vi x1)] [] (B0, n24)
    refine r_aload_n dX3_testInBrackets_24 rfl rfl ?_
    refine r_iconst (x := 3) dX3_testInBrackets_25 rfl (by decide) ?_
    refine r_bipush (x := 41) dX3_testInBrackets_26 (by decide +kernel) (by decide) ?_
    refine r_callV (args := [vi 3, vi 41]) dX3_testInBrackets_28 kX3_45 ob_37 ⟨_, _, rfl⟩ (by decide) rfl rfl (Nat.le_of_ble_eq_true rfl) cap0 (Ev.mono V ?_)
    rintro r h' ⟨x26, n25, rfl, rfl, V⟩
    show Rn w mX3_testInBrackets (d + 1) G Q 31 [(0, vr 37), (1, vi x1)] [vi x26] (B0, n25)
    obtain ⟨V1, V2⟩ := V
    refine r_zne (tgt := 38) dX3_testInBrackets_31 (by decide) (fun c27 => ?_) (fun c27 => ?_)
    · have V := V1 c27
      exact r_ret dX3_testInBrackets_38 rfl V
    · have V := V2 c27
      refine r_aload_n dX3_testInBrackets_34 rfl rfl ?_
      refine r_callV (args := []) dX3_testInBrackets_35 kX3_53 ob_37 ⟨_, _, rfl⟩ (by decide) rfl rfl (Nat.le_of_ble_eq_true rfl) cap0 (Ev.mono V ?_)
      rintro r h' ⟨n28, rfl, rfl, V⟩
      show Rn w mX3_testInBrackets (d + 1) G Q 38 [(0, vr 37), (1, vi x1)] [] (B0, n28)
      exact r_ret dX3_testInBrackets_38 rfl V
  · have V := V2 c21
    refine r_aload_n dX3_testInBrackets_6 rfl rfl ?_
    refine r_callV (args := []) dX3_testInBrackets_7 kX3_53 ob_37 ⟨_, _, rfl⟩ (by decide) rfl rfl (Nat.le_of_ble_eq_true rfl) cap0 (Ev.mono V ?_)
    rintro r h' ⟨n29, rfl, rfl, V⟩
    show Rn w mX3_testInBrackets (d + 1) G Q 10 [(0, vr 37), (1, vi x1)] [] (B0, n29)
    exact r_ret dX3_testInBrackets_10 rfl V

theorem gX3_comparison_0 {w : WD} {d : Nat} {G : GM} {Q : Option AV → Hp → Prop} {n : NM} {x1 : Int}
    (V :
    (Ev w d 0 0 mX3_sum [vr 37, vi x1] (B0, n) (fun r h' => ∃ n21 : NM, r = none ∧ h' = (B0, n21) ∧ 
      (Ev w d 0 0 mX3_take [vr 37, vi 3, vi 60] (B0, n21) (fun r h' => ∃ (x23 : Int) (n22 : NM), r = some (vi x23) ∧ h' = (B0, n22) ∧ 
        ((x23 = 0 →
          (Ev w d 0 0 mX3_take [vr 37, vi 3, vi 62] (B0, n22) (fun r h' => ∃ (x26 : Int) (n25 : NM), r = some (vi x26) ∧ h' = (B0, n25) ∧ 
            ((x26 = 0 →
              (Ev w d 0 0 mX3_take [vr 37, vi 3, vi 61] (B0, n25) (fun r h' => ∃ (x29 : Int) (n28 : NM), r = some (vi x29) ∧ h' = (B0, n28) ∧ 
                (∀ z31 : Int, z31 = (if x29 = 0 then (-1) else 8) → 
                ((z31 ≠ (-1) →
                  (Ev w d 0 0 mX3_sum [vr 37, vi x1] (B0, n28) (fun r h' => ∃ n33 : NM, r = none ∧ h' = (B0, n33) ∧ 
                    (Ev w d 0 0 mX2_addStep [vr 42, vi z31, vi 0] (B0, n33) (fun r h' => ∃ (x35 : Int) (n34 : NM), r = some (vi x35) ∧ h' = (B0, n34) ∧ 
                      Q none (B0, n34)))))) ∧
                (z31 = (-1) →
                  (Ev w d 0 0 mX3_fail [vr 37] (B0, n28) (fun r h' => ∃ n36 : NM, r = none ∧ h' = (B0, n36) ∧ 
                    Q none (B0, n36))))))))) ∧
            (x26 ≠ 0 →
              Rn w mX3_comparison (d + 1) G Q 51 [(0, vr 37), (1, vi x1)] [vi 7] (B0, n25)))))) ∧
        (x23 ≠ 0 →
          Rn w mX3_comparison (d + 1) G Q 51 [(0, vr 37), (1, vi x1)] [vi 6] (B0, n22)))))))) :
    Rn w mX3_comparison (d + 1) G Q 0 [(0, vr 37), (1, vi x1)] [] (B0, n) := by
  refine r_aload_n dX3_comparison_0 rfl rfl ?_
  refine r_iload_n dX3_comparison_1 rfl rfl ?_
  refine r_callV (args := [vi x1]) dX3_comparison_2 kX3_67 ob_37 ⟨_, _, rfl⟩ (by decide) rfl rfl (Nat.le_of_ble_eq_true rfl) cap0 (Ev.mono V ?_)
  rintro r h' ⟨n21, rfl, rfl, V⟩
  show Rn w mX3_comparison (d + 1) G Q 5 [(0, vr 37), (1, vi x1)] [] (B0, n21)
  refine r_aload_n dX3_comparison_5 rfl rfl ?_
  refine r_iconst (x := 3) dX3_comparison_6 rfl (by decide) ?_
  refine r_bipush (x := 60) dX3_comparison_7 (by decide +kernel) (by decide) ?_
  refine r_callV (args := [vi 3, vi 60]) dX3_comparison_9 kX3_45 ob_37 ⟨_, _, rfl⟩ (by decide) rfl rfl (Nat.le_of_ble_eq_true rfl) cap0 (Ev.mono V ?_)
  rintro r h' ⟨x23, n22, rfl, rfl, V⟩
  show Rn w mX3_comparison (d + 1) G Q 12 [(0, vr 37), (1, vi x1)] [vi x23] (B0, n22)
  obtain ⟨V1, V2⟩ := V
  refine r_zeq (tgt := 20) dX3_comparison_12 (by decide) (fun c24 => ?_) (fun c24 => ?_)
  · have V := V1 c24
    refine r_aload_n dX3_comparison_20 rfl rfl ?_
    refine r_iconst (x := 3) dX3_comparison_21 rfl (by decide) ?_
    refine r_bipush (x := 62) dX3_comparison_22 (by decide +kernel) (by decide) ?_
    refine r_callV (args := [vi 3, vi 62]) dX3_comparison_24 kX3_45 ob_37 ⟨_, _, rfl⟩ (by decide) rfl rfl (Nat.le_of_ble_eq_true rfl) cap0 (Ev.mono V ?_)
    rintro r h' ⟨x26, n25, rfl, rfl, V⟩
    show Rn w mX3_comparison (d + 1) G Q 27 [(0, vr 37), (1, vi x1)] [vi x26] (B0, n25)
    obtain ⟨V1, V2⟩ := V
    refine r_zeq (tgt := 35) dX3_comparison_27 (by decide) (fun c27 => ?_) (fun c27 => ?_)
    · have V := V1 c27
      refine r_aload_n dX3_comparison_35 rfl rfl ?_
      refine r_iconst (x := 3) dX3_comparison_36 rfl (by decide) ?_
      refine r_bipush (x := 61) dX3_comparison_37 (by decide +kernel) (by decide) ?_
      refine r_callV (args := [vi 3, vi 61]) dX3_comparison_39 kX3_45 ob_37 ⟨_, _, rfl⟩ (by decide) rfl rfl (Nat.le_of_ble_eq_true rfl) cap0 (Ev.mono V ?_)
      rintro r h' ⟨x29, n28, rfl, rfl, V⟩
      show Rn w mX3_comparison (d + 1) G Q 42 [(0, vr 37), (1, vi x1)] [vi x29] (B0, n28)
      have K : ∀ z31 : Int, z31 = (if x29 = 0 then (-1) else 8) → Rn w mX3_comparison (d + 1) G Q 51 [(0, vr 37), (1, vi x1)] [vi z31] (B0, n28) := by
        intro z31 ez31
        have V := V z31 ez31
        refine r_istore_n (ls' := [(0, vr 37), (1, vi x1), (2, vi z31)]) dX3_comparison_51 rfl (by decide) rfl ?_
        refine r_iload_n dX3_comparison_52 rfl rfl ?_
        refine r_iconst (x := -1) dX3_comparison_53 rfl (by decide) ?_
        obtain ⟨V1, V2⟩ := V
        refine r_jne (tgt := 62) dX3_comparison_54 (by decide) (fun c32 => ?_) (fun c32 => ?_)
        · have V := V1 c32
          refine r_aload_n dX3_comparison_62 rfl rfl ?_
          refine r_iload_n dX3_comparison_63 rfl rfl ?_
          refine r_callV (args := [vi x1]) dX3_comparison_64 kX3_67 ob_37 ⟨_, _, rfl⟩ (by decide) rfl rfl (Nat.le_of_ble_eq_true rfl) cap0 (Ev.mono V ?_)
          rintro r h' ⟨n33, rfl, rfl, V⟩
          show Rn w mX3_comparison (d + 1) G Q 67 [(0, vr 37), (1, vi x1), (2, vi z31)] [] (B0, n33)
          refine r_aload_n dX3_comparison_67 rfl rfl ?_
          refine r_getR (b := 42) dX3_comparison_68 fX3_21 ob_37 (by decide) rfl rfl ?_
          refine r_iload_n dX3_comparison_71 rfl rfl ?_
          refine r_iconst (x := 0) dX3_comparison_72 rfl (by decide) ?_
          refine r_callV (args := [vi z31, vi 0]) dX3_comparison_73 kX3_81 ob_42 ⟨_, _, rfl⟩ (by decide) rfl rfl (Nat.le_of_ble_eq_true rfl) cap0 (Ev.mono V ?_)
          rintro r h' ⟨x35, n34, rfl, rfl, V⟩
          show Rn w mX3_comparison (d + 1) G Q 76 [(0, vr 37), (1, vi x1), (2, vi z31)] [vi x35] (B0, n34)
          refine r_pop dX3_comparison_76 rfl ?_
          exact r_ret dX3_comparison_77 rfl V
        · have V := V2 c32
          refine r_aload_n dX3_comparison_57 rfl rfl ?_
          refine r_callV (args := []) dX3_comparison_58 kX3_53 ob_37 ⟨_, _, rfl⟩ (by decide) rfl rfl (Nat.le_of_ble_eq_true rfl) cap0 (Ev.mono V ?_)
          rintro r h' ⟨n36, rfl, rfl, V⟩
          show Rn w mX3_comparison (d + 1) G Q 61 [(0, vr 37), (1, vi x1), (2, vi z31)] [] (B0, n36)
          exact r_ret dX3_comparison_61 rfl V
      refine r_zeq (tgt := 50) dX3_comparison_42 (by decide) (fun c30 => ?_) (fun c30 => ?_)
      · refine r_iconst (x := -1) dX3_comparison_50 rfl (by decide) ?_
        exact K (-1) (by first | rfl | (simp only [if_pos c30]))
      · refine r_bipush (x := 8) dX3_comparison_45 (by decide +kernel) (by decide) ?_
        refine r_goto (tgt := 51) dX3_comparison_47 (by decide) ?_
        exact K 8 (by first | rfl | (simp only [if_neg c30]))
    · have V := V2 c27
      refine r_bipush (x := 7) dX3_comparison_30 (by decide +kernel) (by decide) ?_
      refine r_goto (tgt := 51) dX3_comparison_32 (by decide) ?_
      exact V
  · have V := V2 c24
    refine r_bipush (x := 6) dX3_comparison_15 (by decide +kernel) (by decide) ?_
    refine r_goto (tgt := 51) dX3_comparison_17 (by decide) ?_
    exact V

theorem gX3_comparison_51 {w : WD} {d : Nat} {G : GM} {Q : Option AV → Hp → Prop} {n : NM} {x1 t0 : Int}
    (V :
    ((t0 ≠ (-1) →
      (Ev w d 0 0 mX3_sum [vr 37, vi x1] (B0, n) (fun r h' => ∃ n22 : NM, r = none ∧ h' = (B0, n22) ∧ 
        (Ev w d 0 0 mX2_addStep [vr 42, vi t0, vi 0] (B0, n22) (fun r h' => ∃ (x24 : Int) (n23 : NM), r = some (vi x24) ∧ h' = (B0, n23) ∧ 
          Q none (B0, n23)))))) ∧
    (t0 = (-1) →
      (Ev w d 0 0 mX3_fail [vr 37] (B0, n) (fun r h' => ∃ n25 : NM, r = none ∧ h' = (B0, n25) ∧ 
        Q none (B0, n25)))))) :
    Rn w mX3_comparison (d + 1) G Q 51 [(0, vr 37), (1, vi x1)] [vi t0] (B0, n) := by
  refine r_istore_n (ls' := [(0, vr 37), (1, vi x1), (2, vi t0)]) dX3_comparison_51 rfl (by decide) rfl ?_
  refine r_iload_n dX3_comparison_52 rfl rfl ?_
  refine r_iconst (x := -1) dX3_comparison_53 rfl (by decide) ?_
  obtain ⟨V1, V2⟩ := V
  refine r_jne (tgt := 62) dX3_comparison_54 (by decide) (fun c21 => ?_) (fun c21 => ?_)
  · have V := V1 c21
    refine r_aload_n dX3_comparison_62 rfl rfl ?_
    refine r_iload_n dX3_comparison_63 rfl rfl ?_
    refine r_callV (args := [vi x1]) dX3_comparison_64 kX3_67 ob_37 ⟨_, _, rfl⟩ (by decide) rfl rfl (Nat.le_of_ble_eq_true rfl) cap0 (Ev.mono V ?_)
    rintro r h' ⟨n22, rfl, rfl, V⟩
    show Rn w mX3_comparison (d + 1) G Q 67 [(0, vr 37), (1, vi x1), (2, vi t0)] [] (B0, n22)
    refine r_aload_n dX3_comparison_67 rfl rfl ?_
    refine r_getR (b := 42) dX3_comparison_68 fX3_21 ob_37 (by decide) rfl rfl ?_
    refine r_iload_n dX3_comparison_71 rfl rfl ?_
    refine r_iconst (x := 0) dX3_comparison_72 rfl (by decide) ?_
    refine r_callV (args := [vi t0, vi 0]) dX3_comparison_73 kX3_81 ob_42 ⟨_, _, rfl⟩ (by decide) rfl rfl (Nat.le_of_ble_eq_true rfl) cap0 (Ev.mono V ?_)
    rintro r h' ⟨x24, n23, rfl, rfl, V⟩
    show Rn w mX3_comparison (d + 1) G Q 76 [(0, vr 37), (1, vi x1), (2, vi t0)] [vi x24] (B0, n23)
    refine r_pop dX3_comparison_76 rfl ?_
    exact r_ret dX3_comparison_77 rfl V
  · have V := V2 c21
    refine r_aload_n dX3_comparison_57 rfl rfl ?_
    refine r_callV (args := []) dX3_comparison_58 kX3_53 ob_37 ⟨_, _, rfl⟩ (by decide) rfl rfl (Nat.le_of_ble_eq_true rfl) cap0 (Ev.mono V ?_)
    rintro r h' ⟨n25, rfl, rfl, V⟩
    show Rn w mX3_comparison (d + 1) G Q 61 [(0, vr 37), (1, vi x1), (2, vi t0)] [] (B0, n25)
    exact r_ret dX3_comparison_61 rfl V

theorem gX3_sum_0 {w : WD} {d : Nat} {G : GM} {Q : Option AV → Hp → Prop} {n : NM} {x1 : Int}
    (V :
    (Ev w d 0 0 mX3_term [vr 37, vi x1] (B0, n) (fun r h' => ∃ n21 : NM, r = none ∧ h' = (B0, n21) ∧ 
      Rn w mX3_sum (d + 1) G Q 7 [(0, vr 37), (1, vi x1), (2, vi 0)] [] (B0, n21)))) :
    Rn w mX3_sum (d + 1) G Q 0 [(0, vr 37), (1, vi x1)] [] (B0, n) := by
  refine r_aload_n dX3_sum_0 rfl rfl ?_
  refine r_iload_n dX3_sum_1 rfl rfl ?_
  refine r_callV (args := [vi x1]) dX3_sum_2 kX3_100 ob_37 ⟨_, _, rfl⟩ (by decide) rfl rfl (Nat.le_of_ble_eq_true rfl) cap0 (Ev.mono V ?_)
  rintro r h' ⟨n21, rfl, rfl, V⟩
  show Rn w mX3_sum (d + 1) G Q 5 [(0, vr 37), (1, vi x1)] [] (B0, n21)
  refine r_iconst (x := 0) dX3_sum_5 rfl (by decide) ?_
  refine r_istore_n (ls' := [(0, vr 37), (1, vi x1), (2, vi 0)]) dX3_sum_6 rfl (by decide) rfl ?_
  exact V

theorem gX3_sum_7 {w : WD} {d : Nat} {G : GM} {Q : Option AV → Hp → Prop} {n : NM} {x1 x2 : Int}
    (V :
    ((400 ≤ x2 →
      Q none (B0, n)) ∧
    (x2 < 400 →
      (Ev w d 0 0 mX3_take [vr 37, vi 3, vi 43] (B0, n) (fun r h' => ∃ (x23 : Int) (n22 : NM), r = some (vi x23) ∧ h' = (B0, n22) ∧ 
        ((x23 = 0 →
          (Ev w d 0 0 mX3_take [vr 37, vi 3, vi 45] (B0, n22) (fun r h' => ∃ (x26 : Int) (n25 : NM), r = some (vi x26) ∧ h' = (B0, n25) ∧ 
            (∀ z28 : Int, z28 = (if x26 = 0 then (-1) else 3) → 
            ((z28 ≠ (-1) →
              (Ev w d 0 0 mX3_term [vr 37, vi x1] (B0, n25) (fun r h' => ∃ n30 : NM, r = none ∧ h' = (B0, n30) ∧ 
                (Ev w d 0 0 mX2_addStep [vr 42, vi z28, vi 0] (B0, n30) (fun r h' => ∃ (x32 : Int) (n31 : NM), r = some (vi x32) ∧ h' = (B0, n31) ∧ 
                  (inI (x2 + 1)) ∧
                  Rn w mX3_sum (d + 1) G Q 7 [(0, vr 37), (1, vi x1), (2, vi (x2 + 1))] [] (B0, n31)))))) ∧
            (z28 = (-1) →
              Q none (B0, n25))))))) ∧
        (x23 ≠ 0 →
          Rn w mX3_sum (d + 1) G Q 43 [(0, vr 37), (1, vi x1), (2, vi x2)] [vi 2] (B0, n22)))))))) :
    Rn w mX3_sum (d + 1) G Q 7 [(0, vr 37), (1, vi x1), (2, vi x2)] [] (B0, n) := by
  refine r_iload_n dX3_sum_7 rfl rfl ?_
  refine r_sipush (x := 400) dX3_sum_8 (by decide +kernel) (by decide) ?_
  obtain ⟨V1, V2⟩ := V
  refine r_jge (tgt := 71) dX3_sum_11 (by decide) (fun c21 => ?_) (fun c21 => ?_)
  · have V := V1 c21
    exact r_ret dX3_sum_71 rfl V
  · have V := V2 c21
    refine r_aload_n dX3_sum_14 rfl rfl ?_
    refine r_iconst (x := 3) dX3_sum_15 rfl (by decide) ?_
    refine r_bipush (x := 43) dX3_sum_16 (by decide +kernel) (by decide) ?_
    refine r_callV (args := [vi 3, vi 43]) dX3_sum_18 kX3_45 ob_37 ⟨_, _, rfl⟩ (by decide) rfl rfl (Nat.le_of_ble_eq_true rfl) cap0 (Ev.mono V ?_)
    rintro r h' ⟨x23, n22, rfl, rfl, V⟩
    show Rn w mX3_sum (d + 1) G Q 21 [(0, vr 37), (1, vi x1), (2, vi x2)] [vi x23] (B0, n22)
    obtain ⟨V1, V2⟩ := V
    refine r_zeq (tgt := 28) dX3_sum_21 (by decide) (fun c24 => ?_) (fun c24 => ?_)
    · have V := V1 c24
      refine r_aload_n dX3_sum_28 rfl rfl ?_
      refine r_iconst (x := 3) dX3_sum_29 rfl (by decide) ?_
      refine r_bipush (x := 45) dX3_sum_30 (by decide +kernel) (by decide) ?_
      refine r_callV (args := [vi 3, vi 45]) dX3_sum_32 kX3_45 ob_37 ⟨_, _, rfl⟩ (by decide) rfl rfl (Nat.le_of_ble_eq_true rfl) cap0 (Ev.mono V ?_)
      rintro r h' ⟨x26, n25, rfl, rfl, V⟩
      show Rn w mX3_sum (d + 1) G Q 35 [(0, vr 37), (1, vi x1), (2, vi x2)] [vi x26] (B0, n25)
      have K : ∀ z28 : Int, z28 = (if x26 = 0 then (-1) else 3) → Rn w mX3_sum (d + 1) G Q 43 [(0, vr 37), (1, vi x1), (2, vi x2)] [vi z28] (B0, n25) := by
        intro z28 ez28
        have V := V z28 ez28
        refine r_istore_n (ls' := [(0, vr 37), (1, vi x1), (2, vi x2), (3, vi z28)]) dX3_sum_43 rfl (by decide) rfl ?_
        refine r_iload_n dX3_sum_44 rfl rfl ?_
        refine r_iconst (x := -1) dX3_sum_45 rfl (by decide) ?_
        obtain ⟨V1, V2⟩ := V
        refine r_jne (tgt := 50) dX3_sum_46 (by decide) (fun c29 => ?_) (fun c29 => ?_)
        · have V := V1 c29
          refine r_aload_n dX3_sum_50 rfl rfl ?_
          refine r_iload_n dX3_sum_51 rfl rfl ?_
          refine r_callV (args := [vi x1]) dX3_sum_52 kX3_100 ob_37 ⟨_, _, rfl⟩ (by decide) rfl rfl (Nat.le_of_ble_eq_true rfl) cap0 (Ev.mono V ?_)
          rintro r h' ⟨n30, rfl, rfl, V⟩
          show Rn w mX3_sum (d + 1) G Q 55 [(0, vr 37), (1, vi x1), (2, vi x2), (3, vi z28)] [] (B0, n30)
          refine r_aload_n dX3_sum_55 rfl rfl ?_
          refine r_getR (b := 42) dX3_sum_56 fX3_21 ob_37 (by decide) rfl rfl ?_
          refine r_iload_n dX3_sum_59 rfl rfl ?_
          refine r_iconst (x := 0) dX3_sum_60 rfl (by decide) ?_
          refine r_callV (args := [vi z28, vi 0]) dX3_sum_61 kX3_81 ob_42 ⟨_, _, rfl⟩ (by decide) rfl rfl (Nat.le_of_ble_eq_true rfl) cap0 (Ev.mono V ?_)
          rintro r h' ⟨x32, n31, rfl, rfl, V⟩
          show Rn w mX3_sum (d + 1) G Q 64 [(0, vr 37), (1, vi x1), (2, vi x2), (3, vi z28)] [vi x32] (B0, n31)
          refine r_pop dX3_sum_64 rfl ?_
          obtain ⟨s33, V⟩ := V
          refine r_iinc (y := x2 + 1) (ls' := [(0, vr 37), (1, vi x1), (2, vi (x2 + 1)), (3, vi z28)]) dX3_sum_65 rfl rfl s33 (by decide) rfl ?_
          refine r_goto (tgt := 7) dX3_sum_68 (by decide) ?_
          refine r_pick [0, 1, 2] (ls' := [(0, vr 37), (1, vi x1), (2, vi (x2 + 1))]) rfl ?_
          exact V
        · have V := V2 c29
          exact r_ret dX3_sum_49 rfl V
      refine r_zeq (tgt := 42) dX3_sum_35 (by decide) (fun c27 => ?_) (fun c27 => ?_)
      · refine r_iconst (x := -1) dX3_sum_42 rfl (by decide) ?_
        exact K (-1) (by first | rfl | (simp only [if_pos c27]))
      · refine r_iconst (x := 3) dX3_sum_38 rfl (by decide) ?_
        refine r_goto (tgt := 43) dX3_sum_39 (by decide) ?_
        exact K 3 (by first | rfl | (simp only [if_neg c27]))
    · have V := V2 c24
      refine r_iconst (x := 2) dX3_sum_24 rfl (by decide) ?_
      refine r_goto (tgt := 43) dX3_sum_25 (by decide) ?_
      exact V

theorem gX3_sum_43 {w : WD} {d : Nat} {G : GM} {Q : Option AV → Hp → Prop} {n : NM} {x1 x2 t0 : Int}
    (V :
    ((t0 ≠ (-1) →
      (Ev w d 0 0 mX3_term [vr 37, vi x1] (B0, n) (fun r h' => ∃ n22 : NM, r = none ∧ h' = (B0, n22) ∧ 
        (Ev w d 0 0 mX2_addStep [vr 42, vi t0, vi 0] (B0, n22) (fun r h' => ∃ (x24 : Int) (n23 : NM), r = some (vi x24) ∧ h' = (B0, n23) ∧ 
          (inI (x2 + 1)) ∧
          Rn w mX3_sum (d + 1) G Q 7 [(0, vr 37), (1, vi x1), (2, vi (x2 + 1))] [] (B0, n23)))))) ∧
    (t0 = (-1) →
      Q none (B0, n)))) :
    Rn w mX3_sum (d + 1) G Q 43 [(0, vr 37), (1, vi x1), (2, vi x2)] [vi t0] (B0, n) := by
  refine r_istore_n (ls' := [(0, vr 37), (1, vi x1), (2, vi x2), (3, vi t0)]) dX3_sum_43 rfl (by decide) rfl ?_
  refine r_iload_n dX3_sum_44 rfl rfl ?_
  refine r_iconst (x := -1) dX3_sum_45 rfl (by decide) ?_
  obtain ⟨V1, V2⟩ := V
  refine r_jne (tgt := 50) dX3_sum_46 (by decide) (fun c21 => ?_) (fun c21 => ?_)
  · have V := V1 c21
    refine r_aload_n dX3_sum_50 rfl rfl ?_
    refine r_iload_n dX3_sum_51 rfl rfl ?_
    refine r_callV (args := [vi x1]) dX3_sum_52 kX3_100 ob_37 ⟨_, _, rfl⟩ (by decide) rfl rfl (Nat.le_of_ble_eq_true rfl) cap0 (Ev.mono V ?_)
    rintro r h' ⟨n22, rfl, rfl, V⟩
    show Rn w mX3_sum (d + 1) G Q 55 [(0, vr 37), (1, vi x1), (2, vi x2), (3, vi t0)] [] (B0, n22)
    refine r_aload_n dX3_sum_55 rfl rfl ?_
    refine r_getR (b := 42) dX3_sum_56 fX3_21 ob_37 (by decide) rfl rfl ?_
    refine r_iload_n dX3_sum_59 rfl rfl ?_
    refine r_iconst (x := 0) dX3_sum_60 rfl (by decide) ?_
    refine r_callV (args := [vi t0, vi 0]) dX3_sum_61 kX3_81 ob_42 ⟨_, _, rfl⟩ (by decide) rfl rfl (Nat.le_of_ble_eq_true rfl) cap0 (Ev.mono V ?_)
    rintro r h' ⟨x24, n23, rfl, rfl, V⟩
    show Rn w mX3_sum (d + 1) G Q 64 [(0, vr 37), (1, vi x1), (2, vi x2), (3, vi t0)] [vi x24] (B0, n23)
    refine r_pop dX3_sum_64 rfl ?_
    obtain ⟨s25, V⟩ := V
    refine r_iinc (y := x2 + 1) (ls' := [(0, vr 37), (1, vi x1), (2, vi (x2 + 1)), (3, vi t0)]) dX3_sum_65 rfl rfl s25 (by decide) rfl ?_
    refine r_goto (tgt := 7) dX3_sum_68 (by decide) ?_
    refine r_pick [0, 1, 2] (ls' := [(0, vr 37), (1, vi x1), (2, vi (x2 + 1))]) rfl ?_
    exact V
  · have V := V2 c21
    exact r_ret dX3_sum_49 rfl V

theorem gX3_term_0 {w : WD} {d : Nat} {G : GM} {Q : Option AV → Hp → Prop} {n : NM} {x1 : Int}
    (V :
    (Ev w d 0 0 mX3_part [vr 37, vi x1] (B0, n) (fun r h' => ∃ n21 : NM, r = none ∧ h' = (B0, n21) ∧ 
      Rn w mX3_term (d + 1) G Q 7 [(0, vr 37), (1, vi x1), (2, vi 0)] [] (B0, n21)))) :
    Rn w mX3_term (d + 1) G Q 0 [(0, vr 37), (1, vi x1)] [] (B0, n) := by
  refine r_aload_n dX3_term_0 rfl rfl ?_
  refine r_iload_n dX3_term_1 rfl rfl ?_
  refine r_callV (args := [vi x1]) dX3_term_2 kX3_103 ob_37 ⟨_, _, rfl⟩ (by decide) rfl rfl (Nat.le_of_ble_eq_true rfl) cap0 (Ev.mono V ?_)
  rintro r h' ⟨n21, rfl, rfl, V⟩
  show Rn w mX3_term (d + 1) G Q 5 [(0, vr 37), (1, vi x1)] [] (B0, n21)
  refine r_iconst (x := 0) dX3_term_5 rfl (by decide) ?_
  refine r_istore_n (ls' := [(0, vr 37), (1, vi x1), (2, vi 0)]) dX3_term_6 rfl (by decide) rfl ?_
  exact V

theorem gX3_term_7 {w : WD} {d : Nat} {G : GM} {Q : Option AV → Hp → Prop} {n : NM} {x1 x2 : Int}
    (V :
    ((400 ≤ x2 →
      Q none (B0, n)) ∧
    (x2 < 400 →
      (Ev w d 0 0 mX3_take [vr 37, vi 3, vi 42] (B0, n) (fun r h' => ∃ (x23 : Int) (n22 : NM), r = some (vi x23) ∧ h' = (B0, n22) ∧ 
        ((x23 = 0 →
          (Ev w d 0 0 mX3_take [vr 37, vi 3, vi 47] (B0, n22) (fun r h' => ∃ (x26 : Int) (n25 : NM), r = some (vi x26) ∧ h' = (B0, n25) ∧ 
            (∀ z28 : Int, z28 = (if x26 = 0 then (-1) else 5) → 
            ((z28 ≠ (-1) →
              (Ev w d 0 0 mX3_part [vr 37, vi x1] (B0, n25) (fun r h' => ∃ n30 : NM, r = none ∧ h' = (B0, n30) ∧ 
                (Ev w d 0 0 mX2_addStep [vr 42, vi z28, vi 0] (B0, n30) (fun r h' => ∃ (x32 : Int) (n31 : NM), r = some (vi x32) ∧ h' = (B0, n31) ∧ 
                  (inI (x2 + 1)) ∧
                  Rn w mX3_term (d + 1) G Q 7 [(0, vr 37), (1, vi x1), (2, vi (x2 + 1))] [] (B0, n31)))))) ∧
            (z28 = (-1) →
              Q none (B0, n25))))))) ∧
        (x23 ≠ 0 →
          Rn w mX3_term (d + 1) G Q 43 [(0, vr 37), (1, vi x1), (2, vi x2)] [vi 4] (B0, n22)))))))) :
    Rn w mX3_term (d + 1) G Q 7 [(0, vr 37), (1, vi x1), (2, vi x2)] [] (B0, n) := by
  refine r_iload_n dX3_term_7 rfl rfl ?_
  refine r_sipush (x := 400) dX3_term_8 (by decide +kernel) (by decide) ?_
  obtain ⟨V1, V2⟩ := V
  refine r_jge (tgt := 71) dX3_term_11 (by decide) (fun c21 => ?_) (fun c21 => ?_)
  · have V := V1 c21
    exact r_ret dX3_term_71 rfl V
  · have V := V2 c21
    refine r_aload_n dX3_term_14 rfl rfl ?_
    refine r_iconst (x := 3) dX3_term_15 rfl (by decide) ?_
    refine r_bipush (x := 42) dX3_term_16 (by decide +kernel) (by decide) ?_
    refine r_callV (args := [vi 3, vi 42]) dX3_term_18 kX3_45 ob_37 ⟨_, _, rfl⟩ (by decide) rfl rfl (Nat.le_of_ble_eq_true rfl) cap0 (Ev.mono V ?_)
    rintro r h' ⟨x23, n22, rfl, rfl, V⟩
    show Rn w mX3_term (d + 1) G Q 21 [(0, vr 37), (1, vi x1), (2, vi x2)] [vi x23] (B0, n22)
    obtain ⟨V1, V2⟩ := V
    refine r_zeq (tgt := 28) dX3_term_21 (by decide) (fun c24 => ?_) (fun c24 => ?_)
    · have V := V1 c24
      refine r_aload_n dX3_term_28 rfl rfl ?_
      refine r_iconst (x := 3) dX3_term_29 rfl (by decide) ?_
      refine r_bipush (x := 47) dX3_term_30 (by decide +kernel) (by decide) ?_
      refine r_callV (args := [vi 3, vi 47]) dX3_term_32 kX3_45 ob_37 ⟨_, _, rfl⟩ (by decide) rfl rfl (Nat.le_of_ble_eq_true rfl) cap0 (Ev.mono V ?_)
      rintro r h' ⟨x26, n25, rfl, rfl, V⟩
      show Rn w mX3_term (d + 1) G Q 35 [(0, vr 37), (1, vi x1), (2, vi x2)] [vi x26] (B0, n25)
      have K : ∀ z28 : Int, z28 = (if x26 = 0 then (-1) else 5) → Rn w mX3_term (d + 1) G Q 43 [(0, vr 37), (1, vi x1), (2, vi x2)] [vi z28] (B0, n25) := by
        intro z28 ez28
        have V := V z28 ez28
        refine r_istore_n (ls' := [(0, vr 37), (1, vi x1), (2, vi x2), (3, vi z28)]) dX3_term_43 rfl (by decide) rfl ?_
        refine r_iload_n dX3_term_44 rfl rfl ?_
        refine r_iconst (x := -1) dX3_term_45 rfl (by decide) ?_
        obtain ⟨V1, V2⟩ := V
        refine r_jne (tgt := 50) dX3_term_46 (by decide) (fun c29 => ?_) (fun c29 => ?_)
        · have V := V1 c29
          refine r_aload_n dX3_term_50 rfl rfl ?_
          refine r_iload_n dX3_term_51 rfl rfl ?_
          refine r_callV (args := [vi x1]) dX3_term_52 kX3_103 ob_37 ⟨_, _, rfl⟩ (by decide) rfl rfl (Nat.le_of_ble_eq_true rfl) cap0 (Ev.mono V ?_)
          rintro r h' ⟨n30, rfl, rfl, V⟩
          show Rn w mX3_term (d + 1) G Q 55 [(0, vr 37), (1, vi x1), (2, vi x2), (3, vi z28)] [] (B0, n30)
          refine r_aload_n dX3_term_55 rfl rfl ?_
          refine r_getR (b := 42) dX3_term_56 fX3_21 ob_37 (by decide) rfl rfl ?_
          refine r_iload_n dX3_term_59 rfl rfl ?_
          refine r_iconst (x := 0) dX3_term_60 rfl (by decide) ?_
          refine r_callV (args := [vi z28, vi 0]) dX3_term_61 kX3_81 ob_42 ⟨_, _, rfl⟩ (by decide) rfl rfl (Nat.le_of_ble_eq_true rfl) cap0 (Ev.mono V ?_)
          rintro r h' ⟨x32, n31, rfl, rfl, V⟩
          show Rn w mX3_term (d + 1) G Q 64 [(0, vr 37), (1, vi x1), (2, vi x2), (3, vi z28)] [vi x32] (B0, n31)
          refine r_pop dX3_term_64 rfl ?_
          obtain ⟨s33, V⟩ := V
          refine r_iinc (y := x2 + 1) (ls' := [(0, vr 37), (1, vi x1), (2, vi (x2 + 1)), (3, vi z28)]) dX3_term_65 rfl rfl s33 (by decide) rfl ?_
          refine r_goto (tgt := 7) dX3_term_68 (by decide) ?_
          refine r_pick [0, 1, 2] (ls' := [(0, vr 37), (1, vi x1), (2, vi (x2 + 1))]) rfl ?_
          exact V
        · have V := V2 c29
          exact r_ret dX3_term_49 rfl V
      refine r_zeq (tgt := 42) dX3_term_35 (by decide) (fun c27 => ?_) (fun c27 => ?_)
      · refine r_iconst (x := -1) dX3_term_42 rfl (by decide) ?_
        exact K (-1) (by first | rfl | (simp only [if_pos c27]))
      · refine r_iconst (x := 5) dX3_term_38 rfl (by decide) ?_
        refine r_goto (tgt := 43) dX3_term_39 (by decide) ?_
        exact K 5 (by first | rfl | (simp only [if_neg c27]))
    · have V := V2 c24
      refine r_iconst (x := 4) dX3_term_24 rfl (by decide) ?_
      refine r_goto (tgt := 43) dX3_term_25 (by decide) ?_
      exact V

theorem gX3_term_43 {w : WD} {d : Nat} {G : GM} {Q : Option AV → Hp → Prop} {n : NM} {x1 x2 t0 : Int}
    (V :
    ((t0 ≠ (-1) →
      (Ev w d 0 0 mX3_part [vr 37, vi x1] (B0, n) (fun r h' => ∃ n22 : NM, r = none ∧ h' = (B0, n22) ∧ 
        (Ev w d 0 0 mX2_addStep [vr 42, vi t0, vi 0] (B0, n22) (fun r h' => ∃ (x24 : Int) (n23 : NM), r = some (vi x24) ∧ h' = (B0, n23) ∧ 
          (inI (x2 + 1)) ∧
          Rn w mX3_term (d + 1) G Q 7 [(0, vr 37), (1, vi x1), (2, vi (x2 + 1))] [] (B0, n23)))))) ∧
    (t0 = (-1) →
      Q none (B0, n)))) :
    Rn w mX3_term (d + 1) G Q 43 [(0, vr 37), (1, vi x1), (2, vi x2)] [vi t0] (B0, n) := by
  refine r_istore_n (ls' := [(0, vr 37), (1, vi x1), (2, vi x2), (3, vi t0)]) dX3_term_43 rfl (by decide) rfl ?_
  refine r_iload_n dX3_term_44 rfl rfl ?_
  refine r_iconst (x := -1) dX3_term_45 rfl (by decide) ?_
  obtain ⟨V1, V2⟩ := V
  refine r_jne (tgt := 50) dX3_term_46 (by decide) (fun c21 => ?_) (fun c21 => ?_)
  · have V := V1 c21
    refine r_aload_n dX3_term_50 rfl rfl ?_
    refine r_iload_n dX3_term_51 rfl rfl ?_
    refine r_callV (args := [vi x1]) dX3_term_52 kX3_103 ob_37 ⟨_, _, rfl⟩ (by decide) rfl rfl (Nat.le_of_ble_eq_true rfl) cap0 (Ev.mono V ?_)
    rintro r h' ⟨n22, rfl, rfl, V⟩
    show Rn w mX3_term (d + 1) G Q 55 [(0, vr 37), (1, vi x1), (2, vi x2), (3, vi t0)] [] (B0, n22)
    refine r_aload_n dX3_term_55 rfl rfl ?_
    refine r_getR (b := 42) dX3_term_56 fX3_21 ob_37 (by decide) rfl rfl ?_
    refine r_iload_n dX3_term_59 rfl rfl ?_
    refine r_iconst (x := 0) dX3_term_60 rfl (by decide) ?_
    refine r_callV (args := [vi t0, vi 0]) dX3_term_61 kX3_81 ob_42 ⟨_, _, rfl⟩ (by decide) rfl rfl (Nat.le_of_ble_eq_true rfl) cap0 (Ev.mono V ?_)
    rintro r h' ⟨x24, n23, rfl, rfl, V⟩
    show Rn w mX3_term (d + 1) G Q 64 [(0, vr 37), (1, vi x1), (2, vi x2), (3, vi t0)] [vi x24] (B0, n23)
    refine r_pop dX3_term_64 rfl ?_
    obtain ⟨s25, V⟩ := V
    refine r_iinc (y := x2 + 1) (ls' := [(0, vr 37), (1, vi x1), (2, vi (x2 + 1)), (3, vi t0)]) dX3_term_65 rfl rfl s25 (by decide) rfl ?_
    refine r_goto (tgt := 7) dX3_term_68 (by decide) ?_
    refine r_pick [0, 1, 2] (ls' := [(0, vr 37), (1, vi x1), (2, vi (x2 + 1))]) rfl ?_
    exact V
  · have V := V2 c21
    exact r_ret dX3_term_49 rfl V

theorem gX3_part_0 {w : WD} {d : Nat} {G : GM} {Q : Option AV → Hp → Prop} {n : NM} {x1 : Int}
    (V :
    (Ev w d 0 0 mX9_valueOf [vr 38, vi (n 37 2)] (B0, n) (fun r h' => ∃ (x22 : Int) (n21 : NM), r = some (vi x22) ∧ h' = (B0, n21) ∧ 
      (Ev w d 0 0 mX9_kindOf [vr 38, vi (n21 37 2)] (B0, n21) (fun r h' => ∃ (x24 : Int) (n23 : NM), r = some (vi x24) ∧ h' = (B0, n23) ∧ 
        (Ev w d 0 0 mX9_isAt [vr 38, vi (n23 37 2), vi 3, vi 91] (B0, n23) (fun r h' => ∃ (x26 : Int) (n25 : NM), r = some (vi x26) ∧ h' = (B0, n25) ∧ 
          ((x26 = 0 →
            ((x24 ≠ 2 →
              Rn w mX3_part (d + 1) G Q 71 [(0, vr 37), (2, vi x22), (3, vi x24)] [] (B0, n25)) ∧
            (x24 = 2 →
              ((100000 < x22 →
                Rn w mX3_part (d + 1) G Q 71 [(0, vr 37), (2, vi x22), (3, vi x24)] [] (B0, n25)) ∧
              (x22 ≤ 100000 →
                (Ev w d 0 0 mX3_countedPart [vr 37, vi 0, vi x22] (B0, n25) (fun r h' => ∃ n30 : NM, r = none ∧ h' = (B0, n30) ∧ 
                  Q none (B0, n30)))))))) ∧
          (x26 ≠ 0 →
            (inI (x1 + 1)) ∧
            (Ev w d 0 0 mX3_sumInBrackets [vr 37, vi (x1 + 1)] (B0, n25) (fun r h' => ∃ n32 : NM, r = none ∧ h' = (B0, n32) ∧ 
              Q none (B0, n32)))))))))))) :
    Rn w mX3_part (d + 1) G Q 0 [(0, vr 37), (1, vi x1)] [] (B0, n) := by
  refine r_aload_n dX3_part_0 rfl rfl ?_
  refine r_getR (b := 38) dX3_part_1 fX3_12 ob_37 (by decide) rfl rfl ?_
  refine r_aload_n dX3_part_4 rfl rfl ?_
  refine r_getI (fi := 2) dX3_part_5 fX3_25 ob_37 (by decide) (by decide) rfl ?_
  refine r_callV (args := [vi (n 37 2)]) dX3_part_8 kX3_56 ob_38 ⟨_, _, rfl⟩ (by decide) rfl rfl (Nat.le_of_ble_eq_true rfl) cap0 (Ev.mono V ?_)
  rintro r h' ⟨x22, n21, rfl, rfl, V⟩
  show Rn w mX3_part (d + 1) G Q 11 [(0, vr 37), (1, vi x1)] [vi x22] (B0, n21)
  refine r_istore_n (ls' := [(0, vr 37), (1, vi x1), (2, vi x22)]) dX3_part_11 rfl (by decide) rfl ?_
  refine r_aload_n dX3_part_12 rfl rfl ?_
  refine r_getR (b := 38) dX3_part_13 fX3_12 ob_37 (by decide) rfl rfl ?_
  refine r_aload_n dX3_part_16 rfl rfl ?_
  refine r_getI (fi := 2) dX3_part_17 fX3_25 ob_37 (by decide) (by decide) rfl ?_
  refine r_callV (args := [vi (n21 37 2)]) dX3_part_20 kX3_49 ob_38 ⟨_, _, rfl⟩ (by decide) rfl rfl (Nat.le_of_ble_eq_true rfl) cap0 (Ev.mono V ?_)
  rintro r h' ⟨x24, n23, rfl, rfl, V⟩
  show Rn w mX3_part (d + 1) G Q 23 [(0, vr 37), (1, vi x1), (2, vi x22)] [vi x24] (B0, n23)
  refine r_istore_n (ls' := [(0, vr 37), (1, vi x1), (2, vi x22), (3, vi x24)]) dX3_part_23 rfl (by decide) rfl ?_
  refine r_aload_n dX3_part_24 rfl rfl ?_
  refine r_getR (b := 38) dX3_part_25 fX3_12 ob_37 (by decide) rfl rfl ?_
  refine r_aload_n dX3_part_28 rfl rfl ?_
  refine r_getI (fi := 2) dX3_part_29 fX3_25 ob_37 (by decide) (by decide) rfl ?_
  refine r_iconst (x := 3) dX3_part_32 rfl (by decide) ?_
  refine r_bipush (x := 91) dX3_part_33 (by decide +kernel) (by decide) ?_
  refine r_callV (args := [vi (n23 37 2), vi 3, vi 91]) dX3_part_35 kX3_91 ob_38 ⟨_, _, rfl⟩ (by decide) rfl rfl (Nat.le_of_ble_eq_true rfl) cap0 (Ev.mono V ?_)
  rintro r h' ⟨x26, n25, rfl, rfl, V⟩
  show Rn w mX3_part (d + 1) G Q 38 [(0, vr 37), (1, vi x1), (2, vi x22), (3, vi x24)] [vi x26] (B0, n25)
  obtain ⟨V1, V2⟩ := V
  refine r_zeq (tgt := 51) dX3_part_38 (by decide) (fun c27 => ?_) (fun c27 => ?_)
  · have V := V1 c27
    refine r_iload_n dX3_part_51 rfl rfl ?_
    refine r_iconst (x := 2) dX3_part_52 rfl (by decide) ?_
    obtain ⟨V1, V2⟩ := V
    refine r_jne (tgt := 71) dX3_part_53 (by decide) (fun c28 => ?_) (fun c28 => ?_)
    · have V := V1 c28
      refine r_pick [0, 2, 3] (ls' := [(0, vr 37), (2, vi x22), (3, vi x24)]) rfl ?_
      exact V
    · have V := V2 c28
      refine r_iload_n dX3_part_56 rfl rfl ?_
      refine r_ldc (x := 100000) dX3_part_57 qX3_109 (by decide) ?_
      obtain ⟨V1, V2⟩ := V
      refine r_jgt (tgt := 71) dX3_part_59 (by decide) (fun c29 => ?_) (fun c29 => ?_)
      · have V := V1 c29
        refine r_pick [0, 2, 3] (ls' := [(0, vr 37), (2, vi x22), (3, vi x24)]) rfl ?_
        exact V
      · have V := V2 c29
        refine r_aload_n dX3_part_62 rfl rfl ?_
        refine r_iconst (x := 0) dX3_part_63 rfl (by decide) ?_
        refine r_iload_n dX3_part_64 rfl rfl ?_
        refine r_callV (args := [vi 0, vi x22]) dX3_part_65 kX3_110 ob_37 ⟨_, _, rfl⟩ (by decide) rfl rfl (Nat.le_of_ble_eq_true rfl) cap0 (Ev.mono V ?_)
        rintro r h' ⟨n30, rfl, rfl, V⟩
        show Rn w mX3_part (d + 1) G Q 68 [(0, vr 37), (1, vi x1), (2, vi x22), (3, vi x24)] [] (B0, n30)
        refine r_goto (tgt := 103) dX3_part_68 (by decide) ?_
        exact r_ret dX3_part_103 rfl V
  · have V := V2 c27
    refine r_aload_n dX3_part_41 rfl rfl ?_
    refine r_iload_n dX3_part_42 rfl rfl ?_
    refine r_iconst (x := 1) dX3_part_43 rfl (by decide) ?_
    obtain ⟨s31, V⟩ := V
    refine r_iadd dX3_part_44 s31 ?_
    refine r_callV (args := [vi (x1 + 1)]) dX3_part_45 kX3_106 ob_37 ⟨_, _, rfl⟩ (by decide) rfl rfl (Nat.le_of_ble_eq_true rfl) cap0 (Ev.mono V ?_)
    rintro r h' ⟨n32, rfl, rfl, V⟩
    show Rn w mX3_part (d + 1) G Q 48 [(0, vr 37), (1, vi x1), (2, vi x22), (3, vi x24)] [] (B0, n32)
    refine r_goto (tgt := 103) dX3_part_48 (by decide) ?_
    exact r_ret dX3_part_103 rfl V

theorem gX3_part_71 {w : WD} {d : Nat} {G : GM} {Q : Option AV → Hp → Prop} {n : NM} {x2 x3 : Int}
    (V :
    ((x3 ≠ 1 →
      (Ev w d 0 0 mX3_fail [vr 37] (B0, n) (fun r h' => ∃ n22 : NM, r = none ∧ h' = (B0, n22) ∧ 
        Q none (B0, n22)))) ∧
    (x3 = 1 →
      (Ev w d 0 0 mX11_within [vi x2, vi 6, vi 14] (B0, n) (fun r h' => ∃ (x24 : Int) (n23 : NM), r = some (vi x24) ∧ h' = (B0, n23) ∧ 
        ((x24 = 0 →
          (Ev w d 0 0 mX3_fail [vr 37] (B0, n23) (fun r h' => ∃ n26 : NM, r = none ∧ h' = (B0, n26) ∧ 
            Q none (B0, n26)))) ∧
        (x24 ≠ 0 →
          (inI (x2 - 6)) ∧
          (Ev w d 0 0 mX3_countedPart [vr 37, vi 1, vi (x2 - 6)] (B0, n23) (fun r h' => ∃ n28 : NM, r = none ∧ h' = (B0, n28) ∧ 
            Q none (B0, n28)))))))))) :
    Rn w mX3_part (d + 1) G Q 71 [(0, vr 37), (2, vi x2), (3, vi x3)] [] (B0, n) := by
  refine r_iload_n dX3_part_71 rfl rfl ?_
  refine r_iconst (x := 1) dX3_part_72 rfl (by decide) ?_
  obtain ⟨V1, V2⟩ := V
  refine r_jne (tgt := 99) dX3_part_73 (by decide) (fun c21 => ?_) (fun c21 => ?_)
  · have V := V1 c21
    refine r_aload_n dX3_part_99 rfl rfl ?_
    refine r_callV (args := []) dX3_part_100 kX3_53 ob_37 ⟨_, _, rfl⟩ (by decide) rfl rfl (Nat.le_of_ble_eq_true rfl) cap0 (Ev.mono V ?_)
    rintro r h' ⟨n22, rfl, rfl, V⟩
    show Rn w mX3_part (d + 1) G Q 103 [(0, vr 37), (2, vi x2), (3, vi x3)] [] (B0, n22)
    exact r_ret dX3_part_103 rfl V
  · have V := V2 c21
    refine r_iload_n dX3_part_76 rfl rfl ?_
    refine r_bipush (x := 6) dX3_part_77 (by decide +kernel) (by decide) ?_
    refine r_bipush (x := 14) dX3_part_79 (by decide +kernel) (by decide) ?_
    refine r_callSN (args := [vi x2, vi 6, vi 14]) dX3_part_81 kX3_59 rfl rfl (Nat.le_of_ble_eq_true rfl) cap0 (Ev.mono V ?_)
    rintro r h' ⟨x24, n23, rfl, rfl, V⟩
    show Rn w mX3_part (d + 1) G Q 84 [(0, vr 37), (2, vi x2), (3, vi x3)] [vi x24] (B0, n23)
    obtain ⟨V1, V2⟩ := V
    refine r_zeq (tgt := 99) dX3_part_84 (by decide) (fun c25 => ?_) (fun c25 => ?_)
    · have V := V1 c25
      refine r_aload_n dX3_part_99 rfl rfl ?_
      refine r_callV (args := []) dX3_part_100 kX3_53 ob_37 ⟨_, _, rfl⟩ (by decide) rfl rfl (Nat.le_of_ble_eq_true rfl) cap0 (Ev.mono V ?_)
      rintro r h' ⟨n26, rfl, rfl, V⟩
      show Rn w mX3_part (d + 1) G Q 103 [(0, vr 37), (2, vi x2), (3, vi x3)] [] (B0, n26)
      exact r_ret dX3_part_103 rfl V
    · have V := V2 c25
      refine r_aload_n dX3_part_87 rfl rfl ?_
      refine r_iconst (x := 1) dX3_part_88 rfl (by decide) ?_
      refine r_iload_n dX3_part_89 rfl rfl ?_
      refine r_bipush (x := 6) dX3_part_90 (by decide +kernel) (by decide) ?_
      obtain ⟨s27, V⟩ := V
      refine r_isub dX3_part_92 s27 ?_
      refine r_callV (args := [vi 1, vi (x2 - 6)]) dX3_part_93 kX3_110 ob_37 ⟨_, _, rfl⟩ (by decide) rfl rfl (Nat.le_of_ble_eq_true rfl) cap0 (Ev.mono V ?_)
      rintro r h' ⟨n28, rfl, rfl, V⟩
      show Rn w mX3_part (d + 1) G Q 96 [(0, vr 37), (2, vi x2), (3, vi x3)] [] (B0, n28)
      refine r_goto (tgt := 103) dX3_part_96 (by decide) ?_
      exact r_ret dX3_part_103 rfl V

theorem gX3_sumInBrackets_0 {w : WD} {d : Nat} {G : GM} {Q : Option AV → Hp → Prop} {n : NM} {x1 : Int}
    (V :
    ((x1 ≤ 8 →
      (Ev w d 0 0 mX3_take [vr 37, vi 3, vi 91] (B0, n) (fun r h' => ∃ (x23 : Int) (n22 : NM), r = some (vi x23) ∧ h' = (B0, n22) ∧ 
        (Ev w d 0 0 mX3_sum [vr 37, vi x1] (B0, n22) (fun r h' => ∃ n24 : NM, r = none ∧ h' = (B0, n24) ∧ 
          (Ev w d 0 0 mX3_take [vr 37, vi 3, vi 93] (B0, n24) (fun r h' => ∃ (x26 : Int) (n25 : NM), r = some (vi x26) ∧ h' = (B0, n25) ∧ 
            ((x26 ≠ 0 →
              Q none (B0, n25)) ∧
            (x26 = 0 →
              (Ev w d 0 0 mX3_fail [vr 37] (B0, n25) (fun r h' => ∃ n28 : NM, r = none ∧ h' = (B0, n28) ∧ 
                Q none (B0, n28)))))))))))) ∧
    (8 < x1 →
      (Ev w d 0 0 mX3_fail [vr 37] (B0, n) (fun r h' => ∃ n29 : NM, r = none ∧ h' = (B0, n29) ∧ 
        Q none (B0, n29)))))) :
    Rn w mX3_sumInBrackets (d + 1) G Q 0 [(0, vr 37), (1, vi x1)] [] (B0, n) := by
  refine r_iload_n dX3_sumInBrackets_0 rfl rfl ?_
  refine r_bipush (x := 8) dX3_sumInBrackets_1 (by decide +kernel) (by decide) ?_
  obtain ⟨V1, V2⟩ := V
  refine r_jle (tgt := 11) dX3_sumInBrackets_3 (by decide) (fun c21 => ?_) (fun c21 => ?_)
  · have V := V1 c21
    refine r_aload_n dX3_sumInBrackets_11 rfl rfl ?_
    refine r_iconst (x := 3) dX3_sumInBrackets_12 rfl (by decide) ?_
    refine r_bipush (x := 91) dX3_sumInBrackets_13 (by decide +kernel) (by decide) ?_
    refine r_callV (args := [vi 3, vi 91]) dX3_sumInBrackets_15 kX3_45 ob_37 ⟨_, _, rfl⟩ (by decide) rfl rfl (Nat.le_of_ble_eq_true rfl) cap0 (Ev.mono V ?_)
    rintro r h' ⟨x23, n22, rfl, rfl, V⟩
    show Rn w mX3_sumInBrackets (d + 1) G Q 18 [(0, vr 37), (1, vi x1)] [vi x23] (B0, n22)
    refine r_pop dX3_sumInBrackets_18 rfl ?_
    refine r_aload_n dX3_sumInBrackets_19 rfl rfl ?_
    refine r_iload_n dX3_sumInBrackets_20 rfl rfl ?_
    refine r_callV (args := [vi x1]) dX3_sumInBrackets_21 kX3_67 ob_37 ⟨_, _, rfl⟩ (by decide) rfl rfl (Nat.le_of_ble_eq_true rfl) cap0 (Ev.mono V ?_)
    rintro r h' ⟨n24, rfl, rfl, V⟩
    show Rn w mX3_sumInBrackets (d + 1) G Q 24 [(0, vr 37), (1, vi x1)] [] (B0, n24)
    refine r_aload_n dX3_sumInBrackets_24 rfl rfl ?_
    refine r_iconst (x := 3) dX3_sumInBrackets_25 rfl (by decide) ?_
    refine r_bipush (x := 93) dX3_sumInBrackets_26 (by decide +kernel) (by decide) ?_
    refine r_callV (args := [vi 3, vi 93]) dX3_sumInBrackets_28 kX3_45 ob_37 ⟨_, _, rfl⟩ (by decide) rfl rfl (Nat.le_of_ble_eq_true rfl) cap0 (Ev.mono V ?_)
    rintro r h' ⟨x26, n25, rfl, rfl, V⟩
    show Rn w mX3_sumInBrackets (d + 1) G Q 31 [(0, vr 37), (1, vi x1)] [vi x26] (B0, n25)
    obtain ⟨V1, V2⟩ := V
    refine r_zne (tgt := 38) dX3_sumInBrackets_31 (by decide) (fun c27 => ?_) (fun c27 => ?_)
    · have V := V1 c27
      exact r_ret dX3_sumInBrackets_38 rfl V
    · have V := V2 c27
      refine r_aload_n dX3_sumInBrackets_34 rfl rfl ?_
      refine r_callV (args := []) dX3_sumInBrackets_35 kX3_53 ob_37 ⟨_, _, rfl⟩ (by decide) rfl rfl (Nat.le_of_ble_eq_true rfl) cap0 (Ev.mono V ?_)
      rintro r h' ⟨n28, rfl, rfl, V⟩
      show Rn w mX3_sumInBrackets (d + 1) G Q 38 [(0, vr 37), (1, vi x1)] [] (B0, n28)
      exact r_ret dX3_sumInBrackets_38 rfl V
  · have V := V2 c21
    refine r_aload_n dX3_sumInBrackets_6 rfl rfl ?_
    refine r_callV (args := []) dX3_sumInBrackets_7 kX3_53 ob_37 ⟨_, _, rfl⟩ (by decide) rfl rfl (Nat.le_of_ble_eq_true rfl) cap0 (Ev.mono V ?_)
    rintro r h' ⟨n29, rfl, rfl, V⟩
    show Rn w mX3_sumInBrackets (d + 1) G Q 10 [(0, vr 37), (1, vi x1)] [] (B0, n29)
    exact r_ret dX3_sumInBrackets_10 rfl V

theorem gX3_countedPart_0 {w : WD} {d : Nat} {G : GM} {Q : Option AV → Hp → Prop} {n : NM} {x1 x2 : Int}
    (V :
    ((n 37 3 < 50 →
      (inI ((n 37 3) + 1)) ∧
      (Ev w d 0 0 mX2_addStep [vr 42, vi x1, vi x2] (B0, upn n 37 3 ((n 37 3) + 1)) (fun r h' => ∃ (x24 : Int) (n23 : NM), r = some (vi x24) ∧ h' = (B0, n23) ∧ 
        (inI ((n23 37 2) + 1)) ∧
        Q none (B0, upn n23 37 2 ((n23 37 2) + 1))))) ∧
    (50 ≤ n 37 3 →
      (Ev w d 0 0 mX3_fail [vr 37] (B0, n) (fun r h' => ∃ n26 : NM, r = none ∧ h' = (B0, n26) ∧ 
        Q none (B0, n26)))))) :
    Rn w mX3_countedPart (d + 1) G Q 0 [(0, vr 37), (1, vi x1), (2, vi x2)] [] (B0, n) := by
  refine r_aload_n dX3_countedPart_0 rfl rfl ?_
  refine r_getI (fi := 3) dX3_countedPart_1 fX3_29 ob_37 (by decide) (by decide) rfl ?_
  refine r_bipush (x := 50) dX3_countedPart_4 (by decide +kernel) (by decide) ?_
  obtain ⟨V1, V2⟩ := V
  refine r_jlt (tgt := 14) dX3_countedPart_6 (by decide) (fun c21 => ?_) (fun c21 => ?_)
  · have V := V1 c21
    refine r_aload_n dX3_countedPart_14 rfl rfl ?_
    refine r_dup dX3_countedPart_15 rfl ?_
    refine r_getI (fi := 3) dX3_countedPart_16 fX3_29 ob_37 (by decide) (by decide) rfl ?_
    refine r_iconst (x := 1) dX3_countedPart_19 rfl (by decide) ?_
    obtain ⟨s22, V⟩ := V
    refine r_iadd dX3_countedPart_20 s22 ?_
    refine r_putI (fi := 3) (h' := (B0, upn n 37 3 ((n 37 3) + 1))) dX3_countedPart_21 pX3_29 ob_37 (by decide) rfl rfl rfl ?_
    refine r_aload_n dX3_countedPart_24 rfl rfl ?_
    refine r_getR (b := 42) dX3_countedPart_25 fX3_21 ob_37 (by decide) rfl rfl ?_
    refine r_iload_n dX3_countedPart_28 rfl rfl ?_
    refine r_iload_n dX3_countedPart_29 rfl rfl ?_
    refine r_callV (args := [vi x1, vi x2]) dX3_countedPart_30 kX3_81 ob_42 ⟨_, _, rfl⟩ (by decide) rfl rfl (Nat.le_of_ble_eq_true rfl) cap0 (Ev.mono V ?_)
    rintro r h' ⟨x24, n23, rfl, rfl, V⟩
    show Rn w mX3_countedPart (d + 1) G Q 33 [(0, vr 37), (1, vi x1), (2, vi x2)] [vi x24] (B0, n23)
    refine r_pop dX3_countedPart_33 rfl ?_
    refine r_aload_n dX3_countedPart_34 rfl rfl ?_
    refine r_dup dX3_countedPart_35 rfl ?_
    refine r_getI (fi := 2) dX3_countedPart_36 fX3_25 ob_37 (by decide) (by decide) rfl ?_
    refine r_iconst (x := 1) dX3_countedPart_39 rfl (by decide) ?_
    obtain ⟨s25, V⟩ := V
    refine r_iadd dX3_countedPart_40 s25 ?_
    refine r_putI (fi := 2) (h' := (B0, upn n23 37 2 ((n23 37 2) + 1))) dX3_countedPart_41 pX3_25 ob_37 (by decide) rfl rfl rfl ?_
    exact r_ret dX3_countedPart_44 rfl V
  · have V := V2 c21
    refine r_aload_n dX3_countedPart_9 rfl rfl ?_
    refine r_callV (args := []) dX3_countedPart_10 kX3_53 ob_37 ⟨_, _, rfl⟩ (by decide) rfl rfl (Nat.le_of_ble_eq_true rfl) cap0 (Ev.mono V ?_)
    rintro r h' ⟨n26, rfl, rfl, V⟩
    show Rn w mX3_countedPart (d + 1) G Q 13 [(0, vr 37), (1, vi x1), (2, vi x2)] [] (B0, n26)
    exact r_ret dX3_countedPart_13 rfl V

theorem gX3_fail_0 {w : WD} {d : Nat} {G : GM} {Q : Option AV → Hp → Prop} {n : NM}
    (V :
    ((n 37 4 ≠ (-1) →
      Q none (B0, n)) ∧
    (n 37 4 = (-1) →
      (Ev w d 0 0 mX9_placeOf [vr 38, vi (n 37 2)] (B0, n) (fun r h' => ∃ (x23 : Int) (n22 : NM), r = some (vi x23) ∧ h' = (B0, n22) ∧ 
        Q none (B0, upn n22 37 4 x23)))))) :
    Rn w mX3_fail (d + 1) G Q 0 [(0, vr 37)] [] (B0, n) := by
  refine r_aload_n dX3_fail_0 rfl rfl ?_
  refine r_getI (fi := 4) dX3_fail_1 fX3_32 ob_37 (by decide) (by decide) rfl ?_
  refine r_iconst (x := -1) dX3_fail_4 rfl (by decide) ?_
  obtain ⟨V1, V2⟩ := V
  refine r_jne (tgt := 23) dX3_fail_5 (by decide) (fun c21 => ?_) (fun c21 => ?_)
  · have V := V1 c21
    exact r_ret dX3_fail_23 rfl V
  · have V := V2 c21
    refine r_aload_n dX3_fail_8 rfl rfl ?_
    refine r_aload_n dX3_fail_9 rfl rfl ?_
    refine r_getR (b := 38) dX3_fail_10 fX3_12 ob_37 (by decide) rfl rfl ?_
    refine r_aload_n dX3_fail_13 rfl rfl ?_
    refine r_getI (fi := 2) dX3_fail_14 fX3_25 ob_37 (by decide) (by decide) rfl ?_
    refine r_callV (args := [vi (n 37 2)]) dX3_fail_17 kX3_114 ob_38 ⟨_, _, rfl⟩ (by decide) rfl rfl (Nat.le_of_ble_eq_true rfl) cap0 (Ev.mono V ?_)
    rintro r h' ⟨x23, n22, rfl, rfl, V⟩
    show Rn w mX3_fail (d + 1) G Q 20 [(0, vr 37)] [vi x23, vr 37] (B0, n22)
    refine r_putI (fi := 4) (h' := (B0, upn n22 37 4 x23)) dX3_fail_20 pX3_32 ob_37 (by decide) rfl rfl rfl ?_
    exact r_ret dX3_fail_23 rfl V

theorem gX3_take_0 {w : WD} {d : Nat} {G : GM} {Q : Option AV → Hp → Prop} {n : NM} {x1 x2 : Int}
    (V :
    ((n 37 4 ≠ (-1) →
      Rn w mX3_take (d + 1) G Q 28 [(0, vr 37)] [] (B0, n)) ∧
    (n 37 4 = (-1) →
      (Ev w d 0 0 mX9_isAt [vr 38, vi (n 37 2), vi x1, vi x2] (B0, n) (fun r h' => ∃ (x23 : Int) (n22 : NM), r = some (vi x23) ∧ h' = (B0, n22) ∧ 
        (∀ z25 : Int, z25 = (if x23 = 0 then 0 else 1) → 
        ((z25 = 0 →
          (z25 = 0 ∨ z25 = 1) ∧
          Q (some (vi z25)) (B0, n22)) ∧
        (z25 ≠ 0 →
          (inI ((n22 37 2) + 1)) ∧
          (z25 = 0 ∨ z25 = 1) ∧
          Q (some (vi z25)) (B0, upn n22 37 2 ((n22 37 2) + 1)))))))))) :
    Rn w mX3_take (d + 1) G Q 0 [(0, vr 37), (1, vi x1), (2, vi x2)] [] (B0, n) := by
  refine r_aload_n dX3_take_0 rfl rfl ?_
  refine r_getI (fi := 4) dX3_take_1 fX3_32 ob_37 (by decide) (by decide) rfl ?_
  refine r_iconst (x := -1) dX3_take_4 rfl (by decide) ?_
  obtain ⟨V1, V2⟩ := V
  refine r_jne (tgt := 28) dX3_take_5 (by decide) (fun c21 => ?_) (fun c21 => ?_)
  · have V := V1 c21
    refine r_pick [0] (ls' := [(0, vr 37)]) rfl ?_
    exact V
  · have V := V2 c21
    refine r_aload_n dX3_take_8 rfl rfl ?_
    refine r_getR (b := 38) dX3_take_9 fX3_12 ob_37 (by decide) rfl rfl ?_
    refine r_aload_n dX3_take_12 rfl rfl ?_
    refine r_getI (fi := 2) dX3_take_13 fX3_25 ob_37 (by decide) (by decide) rfl ?_
    refine r_iload_n dX3_take_16 rfl rfl ?_
    refine r_iload_n dX3_take_17 rfl rfl ?_
    refine r_callV (args := [vi (n 37 2), vi x1, vi x2]) dX3_take_18 kX3_91 ob_38 ⟨_, _, rfl⟩ (by decide) rfl rfl (Nat.le_of_ble_eq_true rfl) cap0 (Ev.mono V ?_)
    rintro r h' ⟨x23, n22, rfl, rfl, V⟩
    show Rn w mX3_take (d + 1) G Q 21 [(0, vr 37), (1, vi x1), (2, vi x2)] [vi x23] (B0, n22)
    have K : ∀ z25 : Int, z25 = (if x23 = 0 then 0 else 1) → Rn w mX3_take (d + 1) G Q 29 [(0, vr 37)] [vi z25] (B0, n22) := by
      intro z25 ez25
      have V := V z25 ez25
      refine r_istore_n (ls' := [(0, vr 37), (3, vi z25)]) dX3_take_29 rfl (by decide) rfl ?_
      refine r_iload_n dX3_take_30 rfl rfl ?_
      obtain ⟨V1, V2⟩ := V
      refine r_zeq (tgt := 44) dX3_take_31 (by decide) (fun c26 => ?_) (fun c26 => ?_)
      · have V := V1 c26
        refine r_iload_n dX3_take_44 rfl rfl ?_
        obtain ⟨s27, V⟩ := V
        exact r_zret dX3_take_45 rfl s27 V
      · have V := V2 c26
        refine r_aload_n dX3_take_34 rfl rfl ?_
        refine r_dup dX3_take_35 rfl ?_
        refine r_getI (fi := 2) dX3_take_36 fX3_25 ob_37 (by decide) (by decide) rfl ?_
        refine r_iconst (x := 1) dX3_take_39 rfl (by decide) ?_
        obtain ⟨s28, V⟩ := V
        refine r_iadd dX3_take_40 s28 ?_
        refine r_putI (fi := 2) (h' := (B0, upn n22 37 2 ((n22 37 2) + 1))) dX3_take_41 pX3_25 ob_37 (by decide) rfl rfl rfl ?_
        refine r_iload_n dX3_take_44 rfl rfl ?_
        obtain ⟨s29, V⟩ := V
        exact r_zret dX3_take_45 rfl s29 V
    refine r_zeq (tgt := 28) dX3_take_21 (by decide) (fun c24 => ?_) (fun c24 => ?_)
    · refine r_iconst (x := 0) dX3_take_28 rfl (by decide) ?_
      refine r_pick [0] (ls' := [(0, vr 37)]) rfl ?_
      exact K 0 (by first | rfl | (simp only [if_pos c24]))
    · refine r_iconst (x := 1) dX3_take_24 rfl (by decide) ?_
      refine r_goto (tgt := 29) dX3_take_25 (by decide) ?_
      refine r_pick [0] (ls' := [(0, vr 37)]) rfl ?_
      exact K 1 (by first | rfl | (simp only [if_neg c24]))

theorem gX3_take_28 {w : WD} {d : Nat} {G : GM} {Q : Option AV → Hp → Prop} {n : NM}
    (V :
    Rn w mX3_take d G Q 29 [(0, vr 37)] [vi 0] (B0, n)) :
    Rn w mX3_take d G Q 28 [(0, vr 37)] [] (B0, n) := by
  refine r_iconst (x := 0) dX3_take_28 rfl (by decide) ?_
  exact V

theorem gX3_take_29 {w : WD} {d : Nat} {G : GM} {Q : Option AV → Hp → Prop} {n : NM} {t0 : Int}
    (V :
    ((t0 = 0 →
      (t0 = 0 ∨ t0 = 1) ∧
      Q (some (vi t0)) (B0, n)) ∧
    (t0 ≠ 0 →
      (inI ((n 37 2) + 1)) ∧
      (t0 = 0 ∨ t0 = 1) ∧
      Q (some (vi t0)) (B0, upn n 37 2 ((n 37 2) + 1))))) :
    Rn w mX3_take d G Q 29 [(0, vr 37)] [vi t0] (B0, n) := by
  refine r_istore_n (ls' := [(0, vr 37), (3, vi t0)]) dX3_take_29 rfl (by decide) rfl ?_
  refine r_iload_n dX3_take_30 rfl rfl ?_
  obtain ⟨V1, V2⟩ := V
  refine r_zeq (tgt := 44) dX3_take_31 (by decide) (fun c21 => ?_) (fun c21 => ?_)
  · have V := V1 c21
    refine r_iload_n dX3_take_44 rfl rfl ?_
    obtain ⟨s22, V⟩ := V
    exact r_zret dX3_take_45 rfl s22 V
  · have V := V2 c21
    refine r_aload_n dX3_take_34 rfl rfl ?_
    refine r_dup dX3_take_35 rfl ?_
    refine r_getI (fi := 2) dX3_take_36 fX3_25 ob_37 (by decide) (by decide) rfl ?_
    refine r_iconst (x := 1) dX3_take_39 rfl (by decide) ?_
    obtain ⟨s23, V⟩ := V
    refine r_iadd dX3_take_40 s23 ?_
    refine r_putI (fi := 2) (h' := (B0, upn n 37 2 ((n 37 2) + 1))) dX3_take_41 pX3_25 ob_37 (by decide) rfl rfl rfl ?_
    refine r_iload_n dX3_take_44 rfl rfl ?_
    obtain ⟨s24, V⟩ := V
    exact r_zret dX3_take_45 rfl s24 V
theorem gX0_ask_0 {w : WD} {d : Nat} {G : GM} {Q : Option AV → Hp → Prop} {n : NM} {x2 : Int}
    (V :
    (Ev w d 0 0 mX1_causesOf [vr 1, vi x2] (B0, n) (fun r h' => ∃ (x22 : Int) (n21 : NM), r = some (vi x22) ∧ h' = (B0, n21) ∧ 
      (Ev w d 0 0 mX0_setWords [vr 47, vr 1, vi x2] (B0, upn n21 47 5 x22) (fun r h' => ∃ n23 : NM, r = none ∧ h' = (B0, n23) ∧ 
        (Ev w d 0 0 mJ7_fill_53178 [vr 50, vi 0] (B0, n23) (fun r h' => ∃ n24 : NM, r = none ∧ h' = (B0, n24) ∧ 
          Rn w mX0_ask (d + 1) G Q 33 [(0, vr 47), (1, vr 1), (3, vi 0)] [] (B0, upn n24 50 5 100)))))))) :
    Rn w mX0_ask (d + 1) G Q 0 [(0, vr 47), (1, vr 1), (2, vi x2)] [] (B0, n) := by
  refine r_aload_n dX0_ask_0 rfl rfl ?_
  refine r_aload_n dX0_ask_1 rfl rfl ?_
  refine r_iload_n dX0_ask_2 rfl rfl ?_
  refine r_callV (args := [vi x2]) dX0_ask_3 kX0_32 ob_1 ⟨_, _, rfl⟩ (by decide) rfl rfl (Nat.le_of_ble_eq_true rfl) cap0 (Ev.mono V ?_)
  rintro r h' ⟨x22, n21, rfl, rfl, V⟩
  show Rn w mX0_ask (d + 1) G Q 6 [(0, vr 47), (1, vr 1), (2, vi x2)] [vi x22, vr 47] (B0, n21)
  refine r_putI (fi := 5) (h' := (B0, upn n21 47 5 x22)) dX0_ask_6 pX0_29 ob_47 (by decide) rfl rfl rfl ?_
  refine r_aload_n dX0_ask_9 rfl rfl ?_
  refine r_aload_n dX0_ask_10 rfl rfl ?_
  refine r_iload_n dX0_ask_11 rfl rfl ?_
  refine r_callV (args := [vr 1, vi x2]) dX0_ask_12 kX0_38 ob_47 ⟨_, _, rfl⟩ (by decide) rfl rfl (Nat.le_of_ble_eq_true rfl) cap0 (Ev.mono V ?_)
  rintro r h' ⟨n23, rfl, rfl, V⟩
  show Rn w mX0_ask (d + 1) G Q 15 [(0, vr 47), (1, vr 1), (2, vi x2)] [] (B0, n23)
  refine r_aload_n dX0_ask_15 rfl rfl ?_
  refine r_getR (b := 50) dX0_ask_16 fX0_26 ob_47 (by decide) rfl rfl ?_
  refine r_iconst (x := 0) dX0_ask_19 rfl (by decide) ?_
  refine r_callS (args := [vr 50, vi 0]) dX0_ask_20 kX0_42 rfl rfl (Nat.le_of_ble_eq_true rfl) cap0 (Ev.mono V ?_)
  rintro r h' ⟨n24, rfl, rfl, V⟩
  show Rn w mX0_ask (d + 1) G Q 23 [(0, vr 47), (1, vr 1), (2, vi x2)] [] (B0, n24)
  refine r_aload_n dX0_ask_23 rfl rfl ?_
  refine r_getR (b := 50) dX0_ask_24 fX0_26 ob_47 (by decide) rfl rfl ?_
  refine r_iconst (x := 5) dX0_ask_27 rfl (by decide) ?_
  refine r_bipush (x := 100) dX0_ask_28 (by decide +kernel) (by decide) ?_
  refine r_iast (h' := (B0, upn n24 50 5 100)) dX0_ask_30 ob_50 (by decide) (by decide) rfl ?_
  refine r_iconst (x := 0) dX0_ask_31 rfl (by decide) ?_
  refine r_istore_n (ls' := [(0, vr 47), (1, vr 1), (2, vi x2), (3, vi 0)]) dX0_ask_32 rfl (by decide) rfl ?_
  refine r_pick [0, 1, 3] (ls' := [(0, vr 47), (1, vr 1), (3, vi 0)]) rfl ?_
  exact V

theorem gX0_ask_33 {w : WD} {d : Nat} {G : GM} {Q : Option AV → Hp → Prop} {n : NM} {x3 : Int}
    (V :
    (Ev w d 0 0 mX2_size [vr 16] (B0, n) (fun r h' => ∃ (x22 : Int) (n21 : NM), r = some (vi x22) ∧ h' = (B0, n21) ∧ 
      ((x22 ≤ x3 →
        Q none (B0, n21)) ∧
      (x3 < x22 →
        (Ev w d 0 0 mX0_hear [vr 47, vr 16, vi x3] (B0, n21) (fun r h' => ∃ n24 : NM, r = none ∧ h' = (B0, n24) ∧ 
          (inI (x3 + 1)) ∧
          Rn w mX0_ask (d + 1) G Q 33 [(0, vr 47), (1, vr 1), (3, vi (x3 + 1))] [] (B0, n24)))))))) :
    Rn w mX0_ask (d + 1) G Q 33 [(0, vr 47), (1, vr 1), (3, vi x3)] [] (B0, n) := by
  refine r_iload_n dX0_ask_33 rfl rfl ?_
  refine r_aload_n dX0_ask_34 rfl rfl ?_
  refine r_getR (b := 16) dX0_ask_35 fX0_48 ob_1 (by decide) rfl rfl ?_
  refine r_callV (args := []) dX0_ask_38 kX0_52 ob_16 ⟨_, _, rfl⟩ (by decide) rfl rfl (Nat.le_of_ble_eq_true rfl) cap0 (Ev.mono V ?_)
  rintro r h' ⟨x22, n21, rfl, rfl, V⟩
  show Rn w mX0_ask (d + 1) G Q 41 [(0, vr 47), (1, vr 1), (3, vi x3)] [vi x22, vi x3] (B0, n21)
  obtain ⟨V1, V2⟩ := V
  refine r_jge (tgt := 59) dX0_ask_41 (by decide) (fun c23 => ?_) (fun c23 => ?_)
  · have V := V1 c23
    exact r_ret dX0_ask_59 rfl V
  · have V := V2 c23
    refine r_aload_n dX0_ask_44 rfl rfl ?_
    refine r_aload_n dX0_ask_45 rfl rfl ?_
    refine r_getR (b := 16) dX0_ask_46 fX0_48 ob_1 (by decide) rfl rfl ?_
    refine r_iload_n dX0_ask_49 rfl rfl ?_
    refine r_callV (args := [vr 16, vi x3]) dX0_ask_50 kX0_58 ob_47 ⟨_, _, rfl⟩ (by decide) rfl rfl (Nat.le_of_ble_eq_true rfl) cap0 (Ev.mono V ?_)
    rintro r h' ⟨n24, rfl, rfl, V⟩
    show Rn w mX0_ask (d + 1) G Q 53 [(0, vr 47), (1, vr 1), (3, vi x3)] [] (B0, n24)
    obtain ⟨s25, V⟩ := V
    refine r_iinc (y := x3 + 1) (ls' := [(0, vr 47), (1, vr 1), (3, vi (x3 + 1))]) dX0_ask_53 rfl rfl s25 (by decide) rfl ?_
    refine r_goto (tgt := 33) dX0_ask_56 (by decide) ?_
    exact V

theorem gX0_weightOf_0 {w : WD} {d : Nat} {G : GM} {Q : Option AV → Hp → Prop} {n : NM} {x1 : Int}
    (V :
    ((x1 < 0 →
      Rn w mX0_weightOf d G Q 25 [(0, vr 47), (1, vi x1)] [] (B0, n)) ∧
    (0 ≤ x1 →
      ((5 ≤ x1 →
        Rn w mX0_weightOf d G Q 25 [(0, vr 47), (1, vi x1)] [] (B0, n)) ∧
      (x1 < 5 →
        (∃ k23 : Nat, x1 = (k23 : Int) ∧ k23 < 32 ∧
        (∀ z25 : Int, z25 = (if ((n 47 5) / ((2 ^ k23 : Nat) : Int)) % 2 ≠ 1 then 0 else 1) → 
        ((z25 = 0 →
          Q (some (vi 0)) (B0, n)) ∧
        (z25 ≠ 0 →
          (0 ≤ x1) ∧
          (x1 < 6) ∧
          Q (some (vi (n 50 x1))) (B0, n)))))))))) :
    Rn w mX0_weightOf d G Q 0 [(0, vr 47), (1, vi x1)] [] (B0, n) := by
  refine r_iload_n dX0_weightOf_0 rfl rfl ?_
  obtain ⟨V1, V2⟩ := V
  refine r_zlt (tgt := 25) dX0_weightOf_1 (by decide) (fun c21 => ?_) (fun c21 => ?_)
  · have V := V1 c21
    exact V
  · have V := V2 c21
    refine r_iload_n dX0_weightOf_4 rfl rfl ?_
    refine r_iconst (x := 5) dX0_weightOf_5 rfl (by decide) ?_
    obtain ⟨V1, V2⟩ := V
    refine r_jge (tgt := 25) dX0_weightOf_6 (by decide) (fun c22 => ?_) (fun c22 => ?_)
    · have V := V1 c22
      exact V
    · have V := V2 c22
      refine r_aload_n dX0_weightOf_9 rfl rfl ?_
      refine r_getI (fi := 5) dX0_weightOf_10 fX0_29 ob_47 (by decide) (by decide) rfl ?_
      refine r_iload_n dX0_weightOf_13 rfl rfl ?_
      obtain ⟨k23, hk23, lk23, V⟩ := V
      refine r_ishr (n := k23) dX0_weightOf_14 hk23 lk23 (fun _ => ?_)
      refine r_iconst (x := 1) dX0_weightOf_15 rfl (by decide) ?_
      refine r_iand (n := 1) dX0_weightOf_16 (by decide) (by decide) ?_
      show Rn w mX0_weightOf d G Q 17 [(0, vr 47), (1, vi x1)] [vi (((n 47 5) / ((2 ^ k23 : Nat) : Int)) % 2)] (B0, n)
      refine r_iconst (x := 1) dX0_weightOf_17 rfl (by decide) ?_
      have K : ∀ z25 : Int, z25 = (if ((n 47 5) / ((2 ^ k23 : Nat) : Int)) % 2 ≠ 1 then 0 else 1) → Rn w mX0_weightOf d G Q 26 [(0, vr 47), (1, vi x1)] [vi z25] (B0, n) := by
        intro z25 ez25
        have V := V z25 ez25
        refine r_istore_n (ls' := [(0, vr 47), (1, vi x1), (2, vi z25)]) dX0_weightOf_26 rfl (by decide) rfl ?_
        refine r_iload_n dX0_weightOf_27 rfl rfl ?_
        obtain ⟨V1, V2⟩ := V
        refine r_zeq (tgt := 40) dX0_weightOf_28 (by decide) (fun c26 => ?_) (fun c26 => ?_)
        · have V := V1 c26
          refine r_iconst (x := 0) dX0_weightOf_40 rfl (by decide) ?_
          exact r_iret dX0_weightOf_41 rfl V
        · have V := V2 c26
          refine r_aload_n dX0_weightOf_31 rfl rfl ?_
          refine r_getR (b := 50) dX0_weightOf_32 fX0_26 ob_47 (by decide) rfl rfl ?_
          refine r_iload_n dX0_weightOf_35 rfl rfl ?_
          obtain ⟨s27, V⟩ := V
          obtain ⟨s28, V⟩ := V
          refine r_iald dX0_weightOf_36 ob_50 s27 s28 ?_
          refine r_goto (tgt := 41) dX0_weightOf_37 (by decide) ?_
          exact r_iret dX0_weightOf_41 rfl V
      refine r_jne (tgt := 25) dX0_weightOf_18 (by decide) (fun c24 => ?_) (fun c24 => ?_)
      · refine r_iconst (x := 0) dX0_weightOf_25 rfl (by decide) ?_
        exact K 0 (by first | rfl | (simp only [if_pos c24]))
      · refine r_iconst (x := 1) dX0_weightOf_21 rfl (by decide) ?_
        refine r_goto (tgt := 26) dX0_weightOf_22 (by decide) ?_
        exact K 1 (by first | rfl | (simp only [if_neg (show ¬ (((n 47 5) / ((2 ^ k23 : Nat) : Int)) % 2 ≠ 1) from not_not_intro c24)]))

theorem gX0_weightOf_25 {w : WD} {d : Nat} {G : GM} {Q : Option AV → Hp → Prop} {n : NM} {x1 : Int}
    (V :
    Rn w mX0_weightOf d G Q 26 [(0, vr 47), (1, vi x1)] [vi 0] (B0, n)) :
    Rn w mX0_weightOf d G Q 25 [(0, vr 47), (1, vi x1)] [] (B0, n) := by
  refine r_iconst (x := 0) dX0_weightOf_25 rfl (by decide) ?_
  exact V

theorem gX0_weightOf_26 {w : WD} {d : Nat} {G : GM} {Q : Option AV → Hp → Prop} {n : NM} {x1 t0 : Int}
    (V :
    ((t0 = 0 →
      Q (some (vi 0)) (B0, n)) ∧
    (t0 ≠ 0 →
      (0 ≤ x1) ∧
      (x1 < 6) ∧
      Q (some (vi (n 50 x1))) (B0, n)))) :
    Rn w mX0_weightOf d G Q 26 [(0, vr 47), (1, vi x1)] [vi t0] (B0, n) := by
  refine r_istore_n (ls' := [(0, vr 47), (1, vi x1), (2, vi t0)]) dX0_weightOf_26 rfl (by decide) rfl ?_
  refine r_iload_n dX0_weightOf_27 rfl rfl ?_
  obtain ⟨V1, V2⟩ := V
  refine r_zeq (tgt := 40) dX0_weightOf_28 (by decide) (fun c21 => ?_) (fun c21 => ?_)
  · have V := V1 c21
    refine r_iconst (x := 0) dX0_weightOf_40 rfl (by decide) ?_
    exact r_iret dX0_weightOf_41 rfl V
  · have V := V2 c21
    refine r_aload_n dX0_weightOf_31 rfl rfl ?_
    refine r_getR (b := 50) dX0_weightOf_32 fX0_26 ob_47 (by decide) rfl rfl ?_
    refine r_iload_n dX0_weightOf_35 rfl rfl ?_
    obtain ⟨s22, V⟩ := V
    obtain ⟨s23, V⟩ := V
    refine r_iald dX0_weightOf_36 ob_50 s22 s23 ?_
    refine r_goto (tgt := 41) dX0_weightOf_37 (by decide) ?_
    exact r_iret dX0_weightOf_41 rfl V

theorem gX0_weightOfAll_0 {w : WD} {d : Nat} {G : GM} {Q : Option AV → Hp → Prop} {n : NM}
    (V :
    Rn w mX0_weightOfAll d G Q 4 [(0, vr 47), (1, vi 0), (2, vi 0)] [] (B0, n)) :
    Rn w mX0_weightOfAll d G Q 0 [(0, vr 47)] [] (B0, n) := by
  refine r_iconst (x := 0) dX0_weightOfAll_0 rfl (by decide) ?_
  refine r_istore_n (ls' := [(0, vr 47), (1, vi 0)]) dX0_weightOfAll_1 rfl (by decide) rfl ?_
  refine r_iconst (x := 0) dX0_weightOfAll_2 rfl (by decide) ?_
  refine r_istore_n (ls' := [(0, vr 47), (1, vi 0), (2, vi 0)]) dX0_weightOfAll_3 rfl (by decide) rfl ?_
  exact V

theorem gX0_weightOfAll_4 {w : WD} {d : Nat} {G : GM} {Q : Option AV → Hp → Prop} {n : NM} {x1 x2 : Int}
    (V :
    ((5 ≤ x2 →
      Q (some (vi x1)) (B0, n)) ∧
    (x2 < 5 →
      (Ev w d 0 0 mX0_weightOf [vr 47, vi x2] (B0, n) (fun r h' => ∃ (x23 : Int) (n22 : NM), r = some (vi x23) ∧ h' = (B0, n22) ∧ 
        (inI (x1 + x23)) ∧
        (inI (x2 + 1)) ∧
        Rn w mX0_weightOfAll (d + 1) G Q 4 [(0, vr 47), (1, vi (x1 + x23)), (2, vi (x2 + 1))] [] (B0, n22)))))) :
    Rn w mX0_weightOfAll (d + 1) G Q 4 [(0, vr 47), (1, vi x1), (2, vi x2)] [] (B0, n) := by
  refine r_iload_n dX0_weightOfAll_4 rfl rfl ?_
  refine r_iconst (x := 5) dX0_weightOfAll_5 rfl (by decide) ?_
  obtain ⟨V1, V2⟩ := V
  refine r_jge (tgt := 23) dX0_weightOfAll_6 (by decide) (fun c21 => ?_) (fun c21 => ?_)
  · have V := V1 c21
    refine r_iload_n dX0_weightOfAll_23 rfl rfl ?_
    exact r_iret dX0_weightOfAll_24 rfl V
  · have V := V2 c21
    refine r_iload_n dX0_weightOfAll_9 rfl rfl ?_
    refine r_aload_n dX0_weightOfAll_10 rfl rfl ?_
    refine r_iload_n dX0_weightOfAll_11 rfl rfl ?_
    refine r_callV (args := [vi x2]) dX0_weightOfAll_12 kX0_62 ob_47 ⟨_, _, rfl⟩ (by decide) rfl rfl (Nat.le_of_ble_eq_true rfl) cap0 (Ev.mono V ?_)
    rintro r h' ⟨x23, n22, rfl, rfl, V⟩
    show Rn w mX0_weightOfAll (d + 1) G Q 15 [(0, vr 47), (1, vi x1), (2, vi x2)] [vi x23, vi x1] (B0, n22)
    obtain ⟨s24, V⟩ := V
    refine r_iadd dX0_weightOfAll_15 s24 ?_
    refine r_istore_n (ls' := [(0, vr 47), (1, vi (x1 + x23)), (2, vi x2)]) dX0_weightOfAll_16 rfl (by decide) rfl ?_
    obtain ⟨s25, V⟩ := V
    refine r_iinc (y := x2 + 1) (ls' := [(0, vr 47), (1, vi (x1 + x23)), (2, vi (x2 + 1))]) dX0_weightOfAll_17 rfl rfl s25 (by decide) rfl ?_
    refine r_goto (tgt := 4) dX0_weightOfAll_20 (by decide) ?_
    exact V

theorem gX0_likeliestCause_0 {w : WD} {d : Nat} {G : GM} {Q : Option AV → Hp → Prop} {n : NM}
    (V :
    Rn w mX0_likeliestCause d G Q 6 [(0, vr 47), (1, vi (-1)), (2, vi 0), (3, vi 0)] [] (B0, n)) :
    Rn w mX0_likeliestCause d G Q 0 [(0, vr 47)] [] (B0, n) := by
  refine r_iconst (x := -1) dX0_likeliestCause_0 rfl (by decide) ?_
  refine r_istore_n (ls' := [(0, vr 47), (1, vi (-1))]) dX0_likeliestCause_1 rfl (by decide) rfl ?_
  refine r_iconst (x := 0) dX0_likeliestCause_2 rfl (by decide) ?_
  refine r_istore_n (ls' := [(0, vr 47), (1, vi (-1)), (2, vi 0)]) dX0_likeliestCause_3 rfl (by decide) rfl ?_
  refine r_iconst (x := 0) dX0_likeliestCause_4 rfl (by decide) ?_
  refine r_istore_n (ls' := [(0, vr 47), (1, vi (-1)), (2, vi 0), (3, vi 0)]) dX0_likeliestCause_5 rfl (by decide) rfl ?_
  exact V

theorem gX0_likeliestCause_6 {w : WD} {d : Nat} {G : GM} {Q : Option AV → Hp → Prop} {n : NM} {x1 x2 x3 : Int}
    (V :
    ((5 ≤ x3 →
      Q (some (vi x1)) (B0, n)) ∧
    (x3 < 5 →
      (Ev w d 0 0 mX0_weightOf [vr 47, vi x3] (B0, n) (fun r h' => ∃ (x23 : Int) (n22 : NM), r = some (vi x23) ∧ h' = (B0, n22) ∧ 
        ((x23 ≤ x2 →
          (inI (x3 + 1)) ∧
          Rn w mX0_likeliestCause (d + 1) G Q 6 [(0, vr 47), (1, vi x1), (2, vi x2), (3, vi (x3 + 1))] [] (B0, n22)) ∧
        (x2 < x23 →
          (Ev w d 0 0 mX0_weightOf [vr 47, vi x3] (B0, n22) (fun r h' => ∃ (x27 : Int) (n26 : NM), r = some (vi x27) ∧ h' = (B0, n26) ∧ 
            (inI (x3 + 1)) ∧
            Rn w mX0_likeliestCause (d + 1) G Q 6 [(0, vr 47), (1, vi x3), (2, vi x27), (3, vi (x3 + 1))] [] (B0, n26)))))))))) :
    Rn w mX0_likeliestCause (d + 1) G Q 6 [(0, vr 47), (1, vi x1), (2, vi x2), (3, vi x3)] [] (B0, n) := by
  refine r_iload_n dX0_likeliestCause_6 rfl rfl ?_
  refine r_iconst (x := 5) dX0_likeliestCause_7 rfl (by decide) ?_
  obtain ⟨V1, V2⟩ := V
  refine r_jge (tgt := 34) dX0_likeliestCause_8 (by decide) (fun c21 => ?_) (fun c21 => ?_)
  · have V := V1 c21
    refine r_iload_n dX0_likeliestCause_34 rfl rfl ?_
    exact r_iret dX0_likeliestCause_35 rfl V
  · have V := V2 c21
    refine r_aload_n dX0_likeliestCause_11 rfl rfl ?_
    refine r_iload_n dX0_likeliestCause_12 rfl rfl ?_
    refine r_callV (args := [vi x3]) dX0_likeliestCause_13 kX0_62 ob_47 ⟨_, _, rfl⟩ (by decide) rfl rfl (Nat.le_of_ble_eq_true rfl) cap0 (Ev.mono V ?_)
    rintro r h' ⟨x23, n22, rfl, rfl, V⟩
    show Rn w mX0_likeliestCause (d + 1) G Q 16 [(0, vr 47), (1, vi x1), (2, vi x2), (3, vi x3)] [vi x23] (B0, n22)
    refine r_iload_n dX0_likeliestCause_16 rfl rfl ?_
    obtain ⟨V1, V2⟩ := V
    refine r_jle (tgt := 28) dX0_likeliestCause_17 (by decide) (fun c24 => ?_) (fun c24 => ?_)
    · have V := V1 c24
      obtain ⟨s25, V⟩ := V
      refine r_iinc (y := x3 + 1) (ls' := [(0, vr 47), (1, vi x1), (2, vi x2), (3, vi (x3 + 1))]) dX0_likeliestCause_28 rfl rfl s25 (by decide) rfl ?_
      refine r_goto (tgt := 6) dX0_likeliestCause_31 (by decide) ?_
      exact V
    · have V := V2 c24
      refine r_iload_n dX0_likeliestCause_20 rfl rfl ?_
      refine r_istore_n (ls' := [(0, vr 47), (1, vi x3), (2, vi x2), (3, vi x3)]) dX0_likeliestCause_21 rfl (by decide) rfl ?_
      refine r_aload_n dX0_likeliestCause_22 rfl rfl ?_
      refine r_iload_n dX0_likeliestCause_23 rfl rfl ?_
      refine r_callV (args := [vi x3]) dX0_likeliestCause_24 kX0_62 ob_47 ⟨_, _, rfl⟩ (by decide) rfl rfl (Nat.le_of_ble_eq_true rfl) cap0 (Ev.mono V ?_)
      rintro r h' ⟨x27, n26, rfl, rfl, V⟩
      show Rn w mX0_likeliestCause (d + 1) G Q 27 [(0, vr 47), (1, vi x3), (2, vi x2), (3, vi x3)] [vi x27] (B0, n26)
      refine r_istore_n (ls' := [(0, vr 47), (1, vi x3), (2, vi x27), (3, vi x3)]) dX0_likeliestCause_27 rfl (by decide) rfl ?_
      obtain ⟨s28, V⟩ := V
      refine r_iinc (y := x3 + 1) (ls' := [(0, vr 47), (1, vi x3), (2, vi x27), (3, vi (x3 + 1))]) dX0_likeliestCause_28 rfl rfl s28 (by decide) rfl ?_
      refine r_goto (tgt := 6) dX0_likeliestCause_31 (by decide) ?_
      exact V

theorem gX0_hundredths_0 {w : WD} {d : Nat} {G : GM} {Q : Option AV → Hp → Prop} {n : NM}
    (V :
    Q (some (vi (n 50 5))) (B0, n)) :
    Rn w mX0_hundredths d G Q 0 [(0, vr 47)] [] (B0, n) := by
  refine r_aload_n dX0_hundredths_0 rfl rfl ?_
  refine r_getR (b := 50) dX0_hundredths_1 fX0_26 ob_47 (by decide) rfl rfl ?_
  refine r_iconst (x := 5) dX0_hundredths_4 rfl (by decide) ?_
  refine r_iald dX0_hundredths_5 ob_50 (by decide) (by decide) ?_
  exact r_iret dX0_hundredths_6 rfl V

theorem gX0_setWords_0 {w : WD} {d : Nat} {G : GM} {Q : Option AV → Hp → Prop} {n : NM} {x2 : Int}
    (V :
    (Ev w d 0 0 mX7_get [vr 14, vi x2, vi 0] (B0, n) (fun r h' => ∃ (x22 : Int) (n21 : NM), r = some (vi x22) ∧ h' = (B0, n21) ∧ 
      (Ev w d 0 0 mX7_get [vr 14, vi x2, vi 4] (B0, n21) (fun r h' => ∃ (x24 : Int) (n23 : NM), r = some (vi x24) ∧ h' = (B0, n23) ∧ 
        (Ev w d 0 0 mX7_get [vr 14, vi x2, vi 5] (B0, upn n23 49 0 x24) (fun r h' => ∃ (x26 : Int) (n25 : NM), r = some (vi x26) ∧ h' = (B0, n25) ∧ 
          (Ev w d 0 0 mX7_get [vr 2, vi x22, vi 0] (B0, upn n25 49 1 x26) (fun r h' => ∃ (x28 : Int) (n27 : NM), r = some (vi x28) ∧ h' = (B0, n27) ∧ 
            (Ev w d 0 0 mX7_get [vr 2, vi x22, vi 1] (B0, upn n27 49 2 x28) (fun r h' => ∃ (x30 : Int) (n29 : NM), r = some (vi x30) ∧ h' = (B0, n29) ∧ 
              (Ev w d 0 0 mX7_get [vr 2, vi x22, vi 2] (B0, upn n29 49 3 x30) (fun r h' => ∃ (x32 : Int) (n31 : NM), r = some (vi x32) ∧ h' = (B0, n31) ∧ 
                (Ev w d 0 0 mX1_goneAtSight [vr 1, vi x2] (B0, upn n31 49 4 x32) (fun r h' => ∃ (x34 : Int) (n33 : NM), r = some (vi x34) ∧ h' = (B0, n33) ∧ 
                  (Ev w d 0 0 mX7_get [vr 14, vi x2, vi 2] (B0, upn n33 49 5 x34) (fun r h' => ∃ (x36 : Int) (n35 : NM), r = some (vi x36) ∧ h' = (B0, n35) ∧ 
                    (Ev w d 0 0 mX7_get [vr 14, vi x2, vi 1] (B0, upn n35 49 6 x36) (fun r h' => ∃ (x38 : Int) (n37 : NM), r = some (vi x38) ∧ h' = (B0, n37) ∧ 
                      (Ev w d 0 0 mX7_get [vr 14, vi x2, vi 6] (B0, upn n37 49 7 x38) (fun r h' => ∃ (x40 : Int) (n39 : NM), r = some (vi x40) ∧ h' = (B0, n39) ∧ 
                        (inI (x40 - x22)) ∧
                        Q none (B0, upn n39 49 8 (x40 - x22))))))))))))))))))))))) :
    Rn w mX0_setWords (d + 1) G Q 0 [(0, vr 47), (1, vr 1), (2, vi x2)] [] (B0, n) := by
  refine r_aload_n dX0_setWords_0 rfl rfl ?_
  refine r_getR (b := 14) dX0_setWords_1 fX0_65 ob_1 (by decide) rfl rfl ?_
  refine r_iload_n dX0_setWords_4 rfl rfl ?_
  refine r_iconst (x := 0) dX0_setWords_5 rfl (by decide) ?_
  refine r_callV (args := [vi x2, vi 0]) dX0_setWords_6 kX0_69 ob_14 ⟨_, _, rfl⟩ (by decide) rfl rfl (Nat.le_of_ble_eq_true rfl) cap0 (Ev.mono V ?_)
  rintro r h' ⟨x22, n21, rfl, rfl, V⟩
  show Rn w mX0_setWords (d + 1) G Q 9 [(0, vr 47), (1, vr 1), (2, vi x2)] [vi x22] (B0, n21)
  refine r_istore_n (ls' := [(0, vr 47), (1, vr 1), (2, vi x2), (3, vi x22)]) dX0_setWords_9 rfl (by decide) rfl ?_
  refine r_aload_n dX0_setWords_10 rfl rfl ?_
  refine r_getR (b := 49) dX0_setWords_11 fX0_23 ob_47 (by decide) rfl rfl ?_
  refine r_iconst (x := 0) dX0_setWords_14 rfl (by decide) ?_
  refine r_aload_n dX0_setWords_15 rfl rfl ?_
  refine r_getR (b := 14) dX0_setWords_16 fX0_65 ob_1 (by decide) rfl rfl ?_
  refine r_iload_n dX0_setWords_19 rfl rfl ?_
  refine r_iconst (x := 4) dX0_setWords_20 rfl (by decide) ?_
  refine r_callV (args := [vi x2, vi 4]) dX0_setWords_21 kX0_69 ob_14 ⟨_, _, rfl⟩ (by decide) rfl rfl (Nat.le_of_ble_eq_true rfl) cap0 (Ev.mono V ?_)
  rintro r h' ⟨x24, n23, rfl, rfl, V⟩
  show Rn w mX0_setWords (d + 1) G Q 24 [(0, vr 47), (1, vr 1), (2, vi x2), (3, vi x22)] [vi x24, vi 0, vr 49] (B0, n23)
  refine r_iast (h' := (B0, upn n23 49 0 x24)) dX0_setWords_24 ob_49 (by decide) (by decide) rfl ?_
  refine r_aload_n dX0_setWords_25 rfl rfl ?_
  refine r_getR (b := 49) dX0_setWords_26 fX0_23 ob_47 (by decide) rfl rfl ?_
  refine r_iconst (x := 1) dX0_setWords_29 rfl (by decide) ?_
  refine r_aload_n dX0_setWords_30 rfl rfl ?_
  refine r_getR (b := 14) dX0_setWords_31 fX0_65 ob_1 (by decide) rfl rfl ?_
  refine r_iload_n dX0_setWords_34 rfl rfl ?_
  refine r_iconst (x := 5) dX0_setWords_35 rfl (by decide) ?_
  refine r_callV (args := [vi x2, vi 5]) dX0_setWords_36 kX0_69 ob_14 ⟨_, _, rfl⟩ (by decide) rfl rfl (Nat.le_of_ble_eq_true rfl) cap0 (Ev.mono V ?_)
  rintro r h' ⟨x26, n25, rfl, rfl, V⟩
  show Rn w mX0_setWords (d + 1) G Q 39 [(0, vr 47), (1, vr 1), (2, vi x2), (3, vi x22)] [vi x26, vi 1, vr 49] (B0, n25)
  refine r_iast (h' := (B0, upn n25 49 1 x26)) dX0_setWords_39 ob_49 (by decide) (by decide) rfl ?_
  refine r_aload_n dX0_setWords_40 rfl rfl ?_
  refine r_getR (b := 49) dX0_setWords_41 fX0_23 ob_47 (by decide) rfl rfl ?_
  refine r_iconst (x := 2) dX0_setWords_44 rfl (by decide) ?_
  refine r_aload_n dX0_setWords_45 rfl rfl ?_
  refine r_getR (b := 2) dX0_setWords_46 fX0_75 ob_1 (by decide) rfl rfl ?_
  refine r_iload_n dX0_setWords_49 rfl rfl ?_
  refine r_iconst (x := 0) dX0_setWords_50 rfl (by decide) ?_
  refine r_callV (args := [vi x22, vi 0]) dX0_setWords_51 kX0_69 ob_2 ⟨_, _, rfl⟩ (by decide) rfl rfl (Nat.le_of_ble_eq_true rfl) cap0 (Ev.mono V ?_)
  rintro r h' ⟨x28, n27, rfl, rfl, V⟩
  show Rn w mX0_setWords (d + 1) G Q 54 [(0, vr 47), (1, vr 1), (2, vi x2), (3, vi x22)] [vi x28, vi 2, vr 49] (B0, n27)
  refine r_iast (h' := (B0, upn n27 49 2 x28)) dX0_setWords_54 ob_49 (by decide) (by decide) rfl ?_
  refine r_aload_n dX0_setWords_55 rfl rfl ?_
  refine r_getR (b := 49) dX0_setWords_56 fX0_23 ob_47 (by decide) rfl rfl ?_
  refine r_iconst (x := 3) dX0_setWords_59 rfl (by decide) ?_
  refine r_aload_n dX0_setWords_60 rfl rfl ?_
  refine r_getR (b := 2) dX0_setWords_61 fX0_75 ob_1 (by decide) rfl rfl ?_
  refine r_iload_n dX0_setWords_64 rfl rfl ?_
  refine r_iconst (x := 1) dX0_setWords_65 rfl (by decide) ?_
  refine r_callV (args := [vi x22, vi 1]) dX0_setWords_66 kX0_69 ob_2 ⟨_, _, rfl⟩ (by decide) rfl rfl (Nat.le_of_ble_eq_true rfl) cap0 (Ev.mono V ?_)
  rintro r h' ⟨x30, n29, rfl, rfl, V⟩
  show Rn w mX0_setWords (d + 1) G Q 69 [(0, vr 47), (1, vr 1), (2, vi x2), (3, vi x22)] [vi x30, vi 3, vr 49] (B0, n29)
  refine r_iast (h' := (B0, upn n29 49 3 x30)) dX0_setWords_69 ob_49 (by decide) (by decide) rfl ?_
  refine r_aload_n dX0_setWords_70 rfl rfl ?_
  refine r_getR (b := 49) dX0_setWords_71 fX0_23 ob_47 (by decide) rfl rfl ?_
  refine r_iconst (x := 4) dX0_setWords_74 rfl (by decide) ?_
  refine r_aload_n dX0_setWords_75 rfl rfl ?_
  refine r_getR (b := 2) dX0_setWords_76 fX0_75 ob_1 (by decide) rfl rfl ?_
  refine r_iload_n dX0_setWords_79 rfl rfl ?_
  refine r_iconst (x := 2) dX0_setWords_80 rfl (by decide) ?_
  refine r_callV (args := [vi x22, vi 2]) dX0_setWords_81 kX0_69 ob_2 ⟨_, _, rfl⟩ (by decide) rfl rfl (Nat.le_of_ble_eq_true rfl) cap0 (Ev.mono V ?_)
  rintro r h' ⟨x32, n31, rfl, rfl, V⟩
  show Rn w mX0_setWords (d + 1) G Q 84 [(0, vr 47), (1, vr 1), (2, vi x2), (3, vi x22)] [vi x32, vi 4, vr 49] (B0, n31)
  refine r_iast (h' := (B0, upn n31 49 4 x32)) dX0_setWords_84 ob_49 (by decide) (by decide) rfl ?_
  refine r_aload_n dX0_setWords_85 rfl rfl ?_
  refine r_getR (b := 49) dX0_setWords_86 fX0_23 ob_47 (by decide) rfl rfl ?_
  refine r_iconst (x := 5) dX0_setWords_89 rfl (by decide) ?_
  refine r_aload_n dX0_setWords_90 rfl rfl ?_
  refine r_iload_n dX0_setWords_91 rfl rfl ?_
  refine r_callV (args := [vi x2]) dX0_setWords_92 kX0_78 ob_1 ⟨_, _, rfl⟩ (by decide) rfl rfl (Nat.le_of_ble_eq_true rfl) cap0 (Ev.mono V ?_)
  rintro r h' ⟨x34, n33, rfl, rfl, V⟩
  show Rn w mX0_setWords (d + 1) G Q 95 [(0, vr 47), (1, vr 1), (2, vi x2), (3, vi x22)] [vi x34, vi 5, vr 49] (B0, n33)
  refine r_iast (h' := (B0, upn n33 49 5 x34)) dX0_setWords_95 ob_49 (by decide) (by decide) rfl ?_
  refine r_aload_n dX0_setWords_96 rfl rfl ?_
  refine r_getR (b := 49) dX0_setWords_97 fX0_23 ob_47 (by decide) rfl rfl ?_
  refine r_bipush (x := 6) dX0_setWords_100 (by decide +kernel) (by decide) ?_
  refine r_aload_n dX0_setWords_102 rfl rfl ?_
  refine r_getR (b := 14) dX0_setWords_103 fX0_65 ob_1 (by decide) rfl rfl ?_
  refine r_iload_n dX0_setWords_106 rfl rfl ?_
  refine r_iconst (x := 2) dX0_setWords_107 rfl (by decide) ?_
  refine r_callV (args := [vi x2, vi 2]) dX0_setWords_108 kX0_69 ob_14 ⟨_, _, rfl⟩ (by decide) rfl rfl (Nat.le_of_ble_eq_true rfl) cap0 (Ev.mono V ?_)
  rintro r h' ⟨x36, n35, rfl, rfl, V⟩
  show Rn w mX0_setWords (d + 1) G Q 111 [(0, vr 47), (1, vr 1), (2, vi x2), (3, vi x22)] [vi x36, vi 6, vr 49] (B0, n35)
  refine r_iast (h' := (B0, upn n35 49 6 x36)) dX0_setWords_111 ob_49 (by decide) (by decide) rfl ?_
  refine r_aload_n dX0_setWords_112 rfl rfl ?_
  refine r_getR (b := 49) dX0_setWords_113 fX0_23 ob_47 (by decide) rfl rfl ?_
  refine r_bipush (x := 7) dX0_setWords_116 (by decide +kernel) (by decide) ?_
  refine r_aload_n dX0_setWords_118 rfl rfl ?_
  refine r_getR (b := 14) dX0_setWords_119 fX0_65 ob_1 (by decide) rfl rfl ?_
  refine r_iload_n dX0_setWords_122 rfl rfl ?_
  refine r_iconst (x := 1) dX0_setWords_123 rfl (by decide) ?_
  refine r_callV (args := [vi x2, vi 1]) dX0_setWords_124 kX0_69 ob_14 ⟨_, _, rfl⟩ (by decide) rfl rfl (Nat.le_of_ble_eq_true rfl) cap0 (Ev.mono V ?_)
  rintro r h' ⟨x38, n37, rfl, rfl, V⟩
  show Rn w mX0_setWords (d + 1) G Q 127 [(0, vr 47), (1, vr 1), (2, vi x2), (3, vi x22)] [vi x38, vi 7, vr 49] (B0, n37)
  refine r_iast (h' := (B0, upn n37 49 7 x38)) dX0_setWords_127 ob_49 (by decide) (by decide) rfl ?_
  refine r_aload_n dX0_setWords_128 rfl rfl ?_
  refine r_getR (b := 49) dX0_setWords_129 fX0_23 ob_47 (by decide) rfl rfl ?_
  refine r_bipush (x := 8) dX0_setWords_132 (by decide +kernel) (by decide) ?_
  refine r_aload_n dX0_setWords_134 rfl rfl ?_
  refine r_getR (b := 14) dX0_setWords_135 fX0_65 ob_1 (by decide) rfl rfl ?_
  refine r_iload_n dX0_setWords_138 rfl rfl ?_
  refine r_bipush (x := 6) dX0_setWords_139 (by decide +kernel) (by decide) ?_
  refine r_callV (args := [vi x2, vi 6]) dX0_setWords_141 kX0_69 ob_14 ⟨_, _, rfl⟩ (by decide) rfl rfl (Nat.le_of_ble_eq_true rfl) cap0 (Ev.mono V ?_)
  rintro r h' ⟨x40, n39, rfl, rfl, V⟩
  show Rn w mX0_setWords (d + 1) G Q 144 [(0, vr 47), (1, vr 1), (2, vi x2), (3, vi x22)] [vi x40, vi 8, vr 49] (B0, n39)
  refine r_iload_n dX0_setWords_144 rfl rfl ?_
  obtain ⟨s41, V⟩ := V
  refine r_isub dX0_setWords_145 s41 ?_
  refine r_iast (h' := (B0, upn n39 49 8 (x40 - x22))) dX0_setWords_146 ob_49 (by decide) (by decide) rfl ?_
  exact r_ret dX0_setWords_147 rfl V

theorem gX0_hear_0 {w : WD} {d : Nat} {G : GM} {Q : Option AV → Hp → Prop} {n : NM} {x2 : Int}
    (V :
    (Ev w d 0 0 mX2_headOf [vr 16, vi x2] (B0, n) (fun r h' => ∃ (x22 : Int) (n21 : NM), r = some (vi x22) ∧ h' = (B0, n21) ∧ 
      (Ev w d 0 0 mX2_testOf [vr 16, vi x2] (B0, n21) (fun r h' => ∃ (x24 : Int) (n23 : NM), r = some (vi x24) ∧ h' = (B0, n23) ∧ 
        (Ev w d 0 0 mX2_endOf [vr 16, vi x2] (B0, n23) (fun r h' => ∃ (x26 : Int) (n25 : NM), r = some (vi x26) ∧ h' = (B0, n25) ∧ 
          (∀ z28 : Int, z28 = (if x26 ≤ x24 then 0 else 1) → 
          ((x22 < 0 →
            Q none (B0, n25)) ∧
          (0 ≤ x22 →
            ((x22 ≤ 5 →
              ((z28 = 0 →
                Rn w mX0_hear (d + 1) G Q 67 [(0, vr 47), (1, vr 16), (2, vi x2), (3, vi x22)] [] (B0, n25)) ∧
              (z28 ≠ 0 →
                (Ev w d 0 0 mX2_testOf [vr 16, vi x2] (B0, n25) (fun r h' => ∃ (x33 : Int) (n32 : NM), r = some (vi x33) ∧ h' = (B0, n32) ∧ 
                  (Ev w d 0 0 mX2_endOf [vr 16, vi x2] (B0, n32) (fun r h' => ∃ (x35 : Int) (n34 : NM), r = some (vi x35) ∧ h' = (B0, n34) ∧ 
                    (Ev w d 0 0 mX0_work [vr 47, vr 16, vi x33, vi x35] (B0, n34) (fun r h' => ∃ (x37 : Int) (n36 : NM), r = some (vi x37) ∧ h' = (B0, n36) ∧ 
                      ((x37 = 0 →
                        Q none (B0, n36)) ∧
                      (x37 ≠ 0 →
                        ((n36 47 2 = 0 →
                          Rn w mX0_hear (d + 1) G Q 67 [(0, vr 47), (1, vr 16), (2, vi x2), (3, vi x22)] [] (B0, n36)) ∧
                        (n36 47 2 ≠ 0 →
                          Q none (B0, n36)))))))))))))) ∧
            (5 < x22 →
              Q none (B0, n25))))))))))))) :
    Rn w mX0_hear (d + 1) G Q 0 [(0, vr 47), (1, vr 16), (2, vi x2)] [] (B0, n) := by
  refine r_aload_n dX0_hear_0 rfl rfl ?_
  refine r_iload_n dX0_hear_1 rfl rfl ?_
  refine r_callV (args := [vi x2]) dX0_hear_2 kX0_81 ob_16 ⟨_, _, rfl⟩ (by decide) rfl rfl (Nat.le_of_ble_eq_true rfl) cap0 (Ev.mono V ?_)
  rintro r h' ⟨x22, n21, rfl, rfl, V⟩
  show Rn w mX0_hear (d + 1) G Q 5 [(0, vr 47), (1, vr 16), (2, vi x2)] [vi x22] (B0, n21)
  refine r_istore_n (ls' := [(0, vr 47), (1, vr 16), (2, vi x2), (3, vi x22)]) dX0_hear_5 rfl (by decide) rfl ?_
  refine r_aload_n dX0_hear_6 rfl rfl ?_
  refine r_iload_n dX0_hear_7 rfl rfl ?_
  refine r_callV (args := [vi x2]) dX0_hear_8 kX0_84 ob_16 ⟨_, _, rfl⟩ (by decide) rfl rfl (Nat.le_of_ble_eq_true rfl) cap0 (Ev.mono V ?_)
  rintro r h' ⟨x24, n23, rfl, rfl, V⟩
  show Rn w mX0_hear (d + 1) G Q 11 [(0, vr 47), (1, vr 16), (2, vi x2), (3, vi x22)] [vi x24] (B0, n23)
  refine r_aload_n dX0_hear_11 rfl rfl ?_
  refine r_iload_n dX0_hear_12 rfl rfl ?_
  refine r_callV (args := [vi x2]) dX0_hear_13 kX0_87 ob_16 ⟨_, _, rfl⟩ (by decide) rfl rfl (Nat.le_of_ble_eq_true rfl) cap0 (Ev.mono V ?_)
  rintro r h' ⟨x26, n25, rfl, rfl, V⟩
  show Rn w mX0_hear (d + 1) G Q 16 [(0, vr 47), (1, vr 16), (2, vi x2), (3, vi x22)] [vi x26, vi x24] (B0, n25)
  have K : ∀ z28 : Int, z28 = (if x26 ≤ x24 then 0 else 1) → Rn w mX0_hear (d + 1) G Q 24 [(0, vr 47), (1, vr 16), (2, vi x2), (3, vi x22)] [vi z28] (B0, n25) := by
    intro z28 ez28
    have V := V z28 ez28
    refine r_istore (ls' := [(0, vr 47), (1, vr 16), (2, vi x2), (3, vi x22), (4, vi z28)]) dX0_hear_24 (by decide) rfl ?_
    refine r_iload_n dX0_hear_26 rfl rfl ?_
    obtain ⟨V1, V2⟩ := V
    refine r_zlt (tgt := 35) dX0_hear_27 (by decide) (fun c29 => ?_) (fun c29 => ?_)
    · have V := V1 c29
      exact r_ret dX0_hear_35 rfl V
    · have V := V2 c29
      refine r_iload_n dX0_hear_30 rfl rfl ?_
      refine r_iconst (x := 5) dX0_hear_31 rfl (by decide) ?_
      obtain ⟨V1, V2⟩ := V
      refine r_jle (tgt := 36) dX0_hear_32 (by decide) (fun c30 => ?_) (fun c30 => ?_)
      · have V := V1 c30
        refine r_iload dX0_hear_36 rfl ?_
        obtain ⟨V1, V2⟩ := V
        refine r_zeq (tgt := 67) dX0_hear_38 (by decide) (fun c31 => ?_) (fun c31 => ?_)
        · have V := V1 c31
          refine r_pick [0, 1, 2, 3] (ls' := [(0, vr 47), (1, vr 16), (2, vi x2), (3, vi x22)]) rfl ?_
          exact V
        · have V := V2 c31
          refine r_aload_n dX0_hear_41 rfl rfl ?_
          refine r_aload_n dX0_hear_42 rfl rfl ?_
          refine r_aload_n dX0_hear_43 rfl rfl ?_
          refine r_iload_n dX0_hear_44 rfl rfl ?_
          refine r_callV (args := [vi x2]) dX0_hear_45 kX0_84 ob_16 ⟨_, _, rfl⟩ (by decide) rfl rfl (Nat.le_of_ble_eq_true rfl) cap0 (Ev.mono V ?_)
          rintro r h' ⟨x33, n32, rfl, rfl, V⟩
          show Rn w mX0_hear (d + 1) G Q 48 [(0, vr 47), (1, vr 16), (2, vi x2), (3, vi x22), (4, vi z28)] [vi x33, vr 16, vr 47] (B0, n32)
          refine r_aload_n dX0_hear_48 rfl rfl ?_
          refine r_iload_n dX0_hear_49 rfl rfl ?_
          refine r_callV (args := [vi x2]) dX0_hear_50 kX0_87 ob_16 ⟨_, _, rfl⟩ (by decide) rfl rfl (Nat.le_of_ble_eq_true rfl) cap0 (Ev.mono V ?_)
          rintro r h' ⟨x35, n34, rfl, rfl, V⟩
          show Rn w mX0_hear (d + 1) G Q 53 [(0, vr 47), (1, vr 16), (2, vi x2), (3, vi x22), (4, vi z28)] [vi x35, vi x33, vr 16, vr 47] (B0, n34)
          refine r_callV (args := [vr 16, vi x33, vi x35]) dX0_hear_53 kX0_90 ob_47 ⟨_, _, rfl⟩ (by decide) rfl rfl (Nat.le_of_ble_eq_true rfl) cap0 (Ev.mono V ?_)
          rintro r h' ⟨x37, n36, rfl, rfl, V⟩
          show Rn w mX0_hear (d + 1) G Q 56 [(0, vr 47), (1, vr 16), (2, vi x2), (3, vi x22), (4, vi z28)] [vi x37] (B0, n36)
          obtain ⟨V1, V2⟩ := V
          refine r_zeq (tgt := 66) dX0_hear_56 (by decide) (fun c38 => ?_) (fun c38 => ?_)
          · have V := V1 c38
            exact r_ret dX0_hear_66 rfl V
          · have V := V2 c38
            refine r_aload_n dX0_hear_59 rfl rfl ?_
            refine r_getI (fi := 2) dX0_hear_60 fX0_19 ob_47 (by decide) (by decide) rfl ?_
            obtain ⟨V1, V2⟩ := V
            refine r_zeq (tgt := 67) dX0_hear_63 (by decide) (fun c39 => ?_) (fun c39 => ?_)
            · have V := V1 c39
              refine r_pick [0, 1, 2, 3] (ls' := [(0, vr 47), (1, vr 16), (2, vi x2), (3, vi x22)]) rfl ?_
              exact V
            · have V := V2 c39
              exact r_ret dX0_hear_66 rfl V
      · have V := V2 c30
        exact r_ret dX0_hear_35 rfl V
  refine r_jge (tgt := 23) dX0_hear_16 (by decide) (fun c27 => ?_) (fun c27 => ?_)
  · refine r_iconst (x := 0) dX0_hear_23 rfl (by decide) ?_
    exact K 0 (by first | rfl | (simp only [if_pos c27]))
  · refine r_iconst (x := 1) dX0_hear_19 rfl (by decide) ?_
    refine r_goto (tgt := 24) dX0_hear_20 (by decide) ?_
    exact K 1 (by first | rfl | (simp only [if_neg (Int.not_le.mpr c27)]))

theorem gX0_hear_67 {w : WD} {d : Nat} {G : GM} {Q : Option AV → Hp → Prop} {n : NM} {x2 x3 : Int}
    (V :
    (Ev w d 0 0 mX2_sumOf [vr 16, vi x2] (B0, n) (fun r h' => ∃ (x22 : Int) (n21 : NM), r = some (vi x22) ∧ h' = (B0, n21) ∧ 
      (Ev w d 0 0 mX2_testOf [vr 16, vi x2] (B0, n21) (fun r h' => ∃ (x24 : Int) (n23 : NM), r = some (vi x24) ∧ h' = (B0, n23) ∧ 
        (Ev w d 0 0 mX0_work [vr 47, vr 16, vi x22, vi x24] (B0, n23) (fun r h' => ∃ (x26 : Int) (n25 : NM), r = some (vi x26) ∧ h' = (B0, n25) ∧ 
          ((n25 47 2 ≠ 0 →
            Q none (B0, n25)) ∧
          (n25 47 2 = 0 →
            (∀ z29 : Int, z29 = (if x3 ≠ 5 then 0 else 1) → 
            (0 ≤ x3) ∧
            (x3 < 6) ∧
            Q none (B0, upn n25 50 x3 (max z29 (min x26 1000))))))))))))) :
    Rn w mX0_hear (d + 1) G Q 67 [(0, vr 47), (1, vr 16), (2, vi x2), (3, vi x3)] [] (B0, n) := by
  refine r_aload_n dX0_hear_67 rfl rfl ?_
  refine r_aload_n dX0_hear_68 rfl rfl ?_
  refine r_aload_n dX0_hear_69 rfl rfl ?_
  refine r_iload_n dX0_hear_70 rfl rfl ?_
  refine r_callV (args := [vi x2]) dX0_hear_71 kX0_94 ob_16 ⟨_, _, rfl⟩ (by decide) rfl rfl (Nat.le_of_ble_eq_true rfl) cap0 (Ev.mono V ?_)
  rintro r h' ⟨x22, n21, rfl, rfl, V⟩
  show Rn w mX0_hear (d + 1) G Q 74 [(0, vr 47), (1, vr 16), (2, vi x2), (3, vi x3)] [vi x22, vr 16, vr 47] (B0, n21)
  refine r_aload_n dX0_hear_74 rfl rfl ?_
  refine r_iload_n dX0_hear_75 rfl rfl ?_
  refine r_callV (args := [vi x2]) dX0_hear_76 kX0_84 ob_16 ⟨_, _, rfl⟩ (by decide) rfl rfl (Nat.le_of_ble_eq_true rfl) cap0 (Ev.mono V ?_)
  rintro r h' ⟨x24, n23, rfl, rfl, V⟩
  show Rn w mX0_hear (d + 1) G Q 79 [(0, vr 47), (1, vr 16), (2, vi x2), (3, vi x3)] [vi x24, vi x22, vr 16, vr 47] (B0, n23)
  refine r_callV (args := [vr 16, vi x22, vi x24]) dX0_hear_79 kX0_90 ob_47 ⟨_, _, rfl⟩ (by decide) rfl rfl (Nat.le_of_ble_eq_true rfl) cap0 (Ev.mono V ?_)
  rintro r h' ⟨x26, n25, rfl, rfl, V⟩
  show Rn w mX0_hear (d + 1) G Q 82 [(0, vr 47), (1, vr 16), (2, vi x2), (3, vi x3)] [vi x26] (B0, n25)
  refine r_istore (ls' := [(0, vr 47), (1, vr 16), (2, vi x2), (3, vi x3), (5, vi x26)]) dX0_hear_82 (by decide) rfl ?_
  refine r_aload_n dX0_hear_84 rfl rfl ?_
  refine r_getI (fi := 2) dX0_hear_85 fX0_19 ob_47 (by decide) (by decide) rfl ?_
  obtain ⟨V1, V2⟩ := V
  refine r_zne (tgt := 122) dX0_hear_88 (by decide) (fun c27 => ?_) (fun c27 => ?_)
  · have V := V1 c27
    exact r_ret dX0_hear_122 rfl V
  · have V := V2 c27
    refine r_iload_n dX0_hear_91 rfl rfl ?_
    refine r_iconst (x := 5) dX0_hear_92 rfl (by decide) ?_
    have K : ∀ z29 : Int, z29 = (if x3 ≠ 5 then 0 else 1) → Rn w mX0_hear (d + 1) G Q 101 [(0, vr 47), (3, vi x3), (5, vi x26)] [vi z29] (B0, n25) := by
      intro z29 ez29
      have V := V z29 ez29
      refine r_istore (ls' := [(0, vr 47), (3, vi x3), (5, vi x26), (6, vi z29)]) dX0_hear_101 (by decide) rfl ?_
      refine r_aload_n dX0_hear_103 rfl rfl ?_
      refine r_getR (b := 50) dX0_hear_104 fX0_26 ob_47 (by decide) rfl rfl ?_
      refine r_iload_n dX0_hear_107 rfl rfl ?_
      refine r_iload dX0_hear_108 rfl ?_
      refine r_iload dX0_hear_110 rfl ?_
      refine r_sipush (x := 1000) dX0_hear_112 (by decide +kernel) (by decide) ?_
      refine r_mmin dX0_hear_115 kX0_97 (Nat.le_of_ble_eq_true rfl) ?_
      refine r_mmax dX0_hear_118 kX0_102 (Nat.le_of_ble_eq_true rfl) ?_
      obtain ⟨s30, V⟩ := V
      obtain ⟨s31, V⟩ := V
      refine r_iast (h' := (B0, upn n25 50 x3 (max z29 (min x26 1000)))) dX0_hear_121 ob_50 s30 s31 rfl ?_
      exact r_ret dX0_hear_122 rfl V
    refine r_jne (tgt := 100) dX0_hear_93 (by decide) (fun c28 => ?_) (fun c28 => ?_)
    · refine r_iconst (x := 0) dX0_hear_100 rfl (by decide) ?_
      refine r_pick [0, 3, 4] (ls' := [(0, vr 47), (3, vi x3), (5, vi x26)]) rfl ?_
      exact K 0 (by first | rfl | (simp only [if_pos c28]))
    · refine r_iconst (x := 1) dX0_hear_96 rfl (by decide) ?_
      refine r_goto (tgt := 101) dX0_hear_97 (by decide) ?_
      refine r_pick [0, 3, 4] (ls' := [(0, vr 47), (3, vi x3), (5, vi x26)]) rfl ?_
      exact K 1 (by first | rfl | (simp only [if_neg (show ¬ (x3 ≠ 5) from not_not_intro c28)]))

theorem gX0_work_0 {w : WD} {d : Nat} {G : GM} {Q : Option AV → Hp → Prop} {n : NM} {x2 x3 : Int}
    (V :
    Rn w mX0_work d G Q 13 [(0, vr 47), (1, vr 16), (3, vi x3), (4, vi x2)] [] (B0, upn (upn n 47 1 0) 47 2 0)) :
    Rn w mX0_work d G Q 0 [(0, vr 47), (1, vr 16), (2, vi x2), (3, vi x3)] [] (B0, n) := by
  refine r_aload_n dX0_work_0 rfl rfl ?_
  refine r_iconst (x := 0) dX0_work_1 rfl (by decide) ?_
  refine r_putI (fi := 1) (h' := (B0, upn n 47 1 0)) dX0_work_2 pX0_15 ob_47 (by decide) rfl rfl rfl ?_
  refine r_aload_n dX0_work_5 rfl rfl ?_
  refine r_iconst (x := 0) dX0_work_6 rfl (by decide) ?_
  refine r_putZ (fi := 2) (h' := (B0, upn (upn n 47 1 0) 47 2 0)) dX0_work_7 pX0_19 ob_47 (by decide) rfl rfl (by decide) rfl ?_
  refine r_iload_n dX0_work_10 rfl rfl ?_
  refine r_istore (ls' := [(0, vr 47), (1, vr 16), (2, vi x2), (3, vi x3), (4, vi x2)]) dX0_work_11 (by decide) rfl ?_
  refine r_pick [0, 1, 3, 4] (ls' := [(0, vr 47), (1, vr 16), (3, vi x3), (4, vi x2)]) rfl ?_
  exact V

theorem gX0_work_13 {w : WD} {d : Nat} {G : GM} {Q : Option AV → Hp → Prop} {n : NM} {x3 x4 : Int}
    (V :
    ((x3 ≤ x4 →
      (Ev w d 0 0 mX0_pop [vr 47] (B0, n) (fun r h' => ∃ (x23 : Int) (n22 : NM), r = some (vi x23) ∧ h' = (B0, n22) ∧ 
        Q (some (vi x23)) (B0, n22)))) ∧
    (x4 < x3 →
      ((n 47 2 ≠ 0 →
        (Ev w d 0 0 mX0_pop [vr 47] (B0, n) (fun r h' => ∃ (x26 : Int) (n25 : NM), r = some (vi x26) ∧ h' = (B0, n25) ∧ 
          Q (some (vi x26)) (B0, n25)))) ∧
      (n 47 2 = 0 →
        (Ev w d 0 0 mX2_valueOf [vr 16, vi x4] (B0, n) (fun r h' => ∃ (x28 : Int) (n27 : NM), r = some (vi x28) ∧ h' = (B0, n27) ∧ 
          (Ev w d 0 0 mX2_kindOf [vr 16, vi x4] (B0, n27) (fun r h' => ∃ (x30 : Int) (n29 : NM), r = some (vi x30) ∧ h' = (B0, n29) ∧ 
            (x30 = 0 →
              (Ev w d 0 0 mX0_push [vr 47, vi x28] (B0, n29) (fun r h' => ∃ n31 : NM, r = none ∧ h' = (B0, n31) ∧ 
                (inI (x4 + 1)) ∧
                Rn w mX0_work (d + 1) G Q 13 [(0, vr 47), (1, vr 16), (3, vi x3), (4, vi (x4 + 1))] [] (B0, n31)))) ∧
            (x30 = 1 →
              (Ev w d 0 0 mX0_wordAt [vr 47, vi x28] (B0, n29) (fun r h' => ∃ (x34 : Int) (n33 : NM), r = some (vi x34) ∧ h' = (B0, n33) ∧ 
                (Ev w d 0 0 mX0_push [vr 47, vi x34] (B0, n33) (fun r h' => ∃ n35 : NM, r = none ∧ h' = (B0, n35) ∧ 
                  (inI (x4 + 1)) ∧
                  Rn w mX0_work (d + 1) G Q 13 [(0, vr 47), (1, vr 16), (3, vi x3), (4, vi (x4 + 1))] [] (B0, n35)))))) ∧
            (x30 = 9 →
              (Ev w d 0 0 mX0_pop [vr 47] (B0, n29) (fun r h' => ∃ (x38 : Int) (n37 : NM), r = some (vi x38) ∧ h' = (B0, n37) ∧ 
                (∀ z40 : Int, z40 = (if x38 ≠ 0 then 0 else 1) → 
                (Ev w d 0 0 mX0_push [vr 47, vi z40] (B0, n37) (fun r h' => ∃ n41 : NM, r = none ∧ h' = (B0, n41) ∧ 
                  (inI (x4 + 1)) ∧
                  Rn w mX0_work (d + 1) G Q 13 [(0, vr 47), (1, vr 16), (3, vi x3), (4, vi (x4 + 1))] [] (B0, n41))))))) ∧
            (x30 = 10 →
              (Ev w d 0 0 mX0_top [vr 47] (B0, n29) (fun r h' => ∃ (x44 : Int) (n43 : NM), r = some (vi x44) ∧ h' = (B0, n43) ∧ 
                (∀ z46 : Int, z46 = (if x44 = 0 then 0 else 1) → 
                (Ev w d 0 0 mX0_afterSkip [vr 47, vi z46, vi x4, vi x28] (B0, n43) (fun r h' => ∃ (x48 : Int) (n47 : NM), r = some (vi x48) ∧ h' = (B0, n47) ∧ 
                  (inI (x48 + 1)) ∧
                  Rn w mX0_work (d + 1) G Q 13 [(0, vr 47), (1, vr 16), (3, vi x3), (4, vi (x48 + 1))] [] (B0, n47))))))) ∧
            (x30 = 11 →
              (Ev w d 0 0 mX0_top [vr 47] (B0, n29) (fun r h' => ∃ (x51 : Int) (n50 : NM), r = some (vi x51) ∧ h' = (B0, n50) ∧ 
                (∀ z53 : Int, z53 = (if x51 ≠ 0 then 0 else 1) → 
                (Ev w d 0 0 mX0_afterSkip [vr 47, vi z53, vi x4, vi x28] (B0, n50) (fun r h' => ∃ (x55 : Int) (n54 : NM), r = some (vi x55) ∧ h' = (B0, n54) ∧ 
                  (inI (x55 + 1)) ∧
                  Rn w mX0_work (d + 1) G Q 13 [(0, vr 47), (1, vr 16), (3, vi x3), (4, vi (x55 + 1))] [] (B0, n54))))))) ∧
            (¬ x30 = 0 → ¬ x30 = 1 → ¬ x30 = 9 → ¬ x30 = 10 → ¬ x30 = 11 →
              (Ev w d 0 0 mX0_join [vr 47, vi x30] (B0, n29) (fun r h' => ∃ n57 : NM, r = none ∧ h' = (B0, n57) ∧ 
                (inI (x4 + 1)) ∧
                Rn w mX0_work (d + 1) G Q 13 [(0, vr 47), (1, vr 16), (3, vi x3), (4, vi (x4 + 1))] [] (B0, n57))))))))))))) :
    Rn w mX0_work (d + 1) G Q 13 [(0, vr 47), (1, vr 16), (3, vi x3), (4, vi x4)] [] (B0, n) := by
  refine r_iload dX0_work_13 rfl ?_
  refine r_iload_n dX0_work_15 rfl rfl ?_
  obtain ⟨V1, V2⟩ := V
  refine r_jge (tgt := 211) dX0_work_16 (by decide) (fun c21 => ?_) (fun c21 => ?_)
  · have V := V1 c21
    refine r_aload_n dX0_work_211 rfl rfl ?_
    refine r_callV (args := []) dX0_work_212 kX0_118 ob_47 ⟨_, _, rfl⟩ (by decide) rfl rfl (Nat.le_of_ble_eq_true rfl) cap0 (Ev.mono V ?_)
    rintro r h' ⟨x23, n22, rfl, rfl, V⟩
    show Rn w mX0_work (d + 1) G Q 215 [(0, vr 47), (1, vr 16), (3, vi x3), (4, vi x4)] [vi x23] (B0, n22)
    exact r_iret dX0_work_215 rfl V
  · have V := V2 c21
    refine r_aload_n dX0_work_19 rfl rfl ?_
    refine r_getI (fi := 2) dX0_work_20 fX0_19 ob_47 (by decide) (by decide) rfl ?_
    obtain ⟨V1, V2⟩ := V
    refine r_zne (tgt := 211) dX0_work_23 (by decide) (fun c24 => ?_) (fun c24 => ?_)
    · have V := V1 c24
      refine r_aload_n dX0_work_211 rfl rfl ?_
      refine r_callV (args := []) dX0_work_212 kX0_118 ob_47 ⟨_, _, rfl⟩ (by decide) rfl rfl (Nat.le_of_ble_eq_true rfl) cap0 (Ev.mono V ?_)
      rintro r h' ⟨x26, n25, rfl, rfl, V⟩
      show Rn w mX0_work (d + 1) G Q 215 [(0, vr 47), (1, vr 16), (3, vi x3), (4, vi x4)] [vi x26] (B0, n25)
      exact r_iret dX0_work_215 rfl V
    · have V := V2 c24
      refine r_aload_n dX0_work_26 rfl rfl ?_
      refine r_iload dX0_work_27 rfl ?_
      refine r_callV (args := [vi x4]) dX0_work_29 kX0_105 ob_16 ⟨_, _, rfl⟩ (by decide) rfl rfl (Nat.le_of_ble_eq_true rfl) cap0 (Ev.mono V ?_)
      rintro r h' ⟨x28, n27, rfl, rfl, V⟩
      show Rn w mX0_work (d + 1) G Q 32 [(0, vr 47), (1, vr 16), (3, vi x3), (4, vi x4)] [vi x28] (B0, n27)
      refine r_istore (ls' := [(0, vr 47), (1, vr 16), (3, vi x3), (4, vi x4), (5, vi x28)]) dX0_work_32 (by decide) rfl ?_
      refine r_aload_n dX0_work_34 rfl rfl ?_
      refine r_iload dX0_work_35 rfl ?_
      refine r_callV (args := [vi x4]) dX0_work_37 kX0_108 ob_16 ⟨_, _, rfl⟩ (by decide) rfl rfl (Nat.le_of_ble_eq_true rfl) cap0 (Ev.mono V ?_)
      rintro r h' ⟨x30, n29, rfl, rfl, V⟩
      show Rn w mX0_work (d + 1) G Q 40 [(0, vr 47), (1, vr 16), (3, vi x3), (4, vi x4), (5, vi x28)] [vi x30] (B0, n29)
      refine r_istore (ls' := [(0, vr 47), (1, vr 16), (3, vi x3), (4, vi x4), (5, vi x28), (6, vi x30)]) dX0_work_40 (by decide) rfl ?_
      refine r_iload dX0_work_42 rfl ?_
      obtain ⟨V0, V1, V2, V3, V4, VD⟩ := V
      by_cases c0 : x30 = 0
      · have V := V0 c0
        refine r_tableIn (k := 0) (tgt := 108) dX0_work_44 c0 (by decide) (by decide) rfl (by decide) ?_
        refine r_aload_n dX0_work_108 rfl rfl ?_
        refine r_iload dX0_work_109 rfl ?_
        refine r_callV (args := [vi x28]) dX0_work_111 kX0_111 ob_47 ⟨_, _, rfl⟩ (by decide) rfl rfl (Nat.le_of_ble_eq_true rfl) cap0 (Ev.mono V ?_)
        rintro r h' ⟨n31, rfl, rfl, V⟩
        show Rn w mX0_work (d + 1) G Q 114 [(0, vr 47), (1, vr 16), (3, vi x3), (4, vi x4), (5, vi x28), (6, vi x30)] [] (B0, n31)
        refine r_goto (tgt := 205) dX0_work_114 (by decide) ?_
        obtain ⟨s32, V⟩ := V
        refine r_iinc (y := x4 + 1) (ls' := [(0, vr 47), (1, vr 16), (3, vi x3), (4, vi (x4 + 1)), (5, vi x28), (6, vi x30)]) dX0_work_205 rfl rfl s32 (by decide) rfl ?_
        refine r_goto (tgt := 13) dX0_work_208 (by decide) ?_
        refine r_pick [0, 1, 2, 3] (ls' := [(0, vr 47), (1, vr 16), (3, vi x3), (4, vi (x4 + 1))]) rfl ?_
        exact V
      by_cases c1 : x30 = 1
      · have V := V1 c1
        refine r_tableIn (k := 1) (tgt := 117) dX0_work_44 c1 (by decide) (by decide) rfl (by decide) ?_
        refine r_aload_n dX0_work_117 rfl rfl ?_
        refine r_aload_n dX0_work_118 rfl rfl ?_
        refine r_iload dX0_work_119 rfl ?_
        refine r_callV (args := [vi x28]) dX0_work_121 kX0_115 ob_47 ⟨_, _, rfl⟩ (by decide) rfl rfl (Nat.le_of_ble_eq_true rfl) cap0 (Ev.mono V ?_)
        rintro r h' ⟨x34, n33, rfl, rfl, V⟩
        show Rn w mX0_work (d + 1) G Q 124 [(0, vr 47), (1, vr 16), (3, vi x3), (4, vi x4), (5, vi x28), (6, vi x30)] [vi x34, vr 47] (B0, n33)
        refine r_callV (args := [vi x34]) dX0_work_124 kX0_111 ob_47 ⟨_, _, rfl⟩ (by decide) rfl rfl (Nat.le_of_ble_eq_true rfl) cap0 (Ev.mono V ?_)
        rintro r h' ⟨n35, rfl, rfl, V⟩
        show Rn w mX0_work (d + 1) G Q 127 [(0, vr 47), (1, vr 16), (3, vi x3), (4, vi x4), (5, vi x28), (6, vi x30)] [] (B0, n35)
        refine r_goto (tgt := 205) dX0_work_127 (by decide) ?_
        obtain ⟨s36, V⟩ := V
        refine r_iinc (y := x4 + 1) (ls' := [(0, vr 47), (1, vr 16), (3, vi x3), (4, vi (x4 + 1)), (5, vi x28), (6, vi x30)]) dX0_work_205 rfl rfl s36 (by decide) rfl ?_
        refine r_goto (tgt := 13) dX0_work_208 (by decide) ?_
        refine r_pick [0, 1, 2, 3] (ls' := [(0, vr 47), (1, vr 16), (3, vi x3), (4, vi (x4 + 1))]) rfl ?_
        exact V
      by_cases c2 : x30 = 9
      · have V := V2 c2
        refine r_tableIn (k := 9) (tgt := 130) dX0_work_44 c2 (by decide) (by decide) rfl (by decide) ?_
        refine r_aload_n dX0_work_130 rfl rfl ?_
        refine r_aload_n dX0_work_131 rfl rfl ?_
        refine r_callV (args := []) dX0_work_132 kX0_118 ob_47 ⟨_, _, rfl⟩ (by decide) rfl rfl (Nat.le_of_ble_eq_true rfl) cap0 (Ev.mono V ?_)
        rintro r h' ⟨x38, n37, rfl, rfl, V⟩
        show Rn w mX0_work (d + 1) G Q 135 [(0, vr 47), (1, vr 16), (3, vi x3), (4, vi x4), (5, vi x28), (6, vi x30)] [vi x38, vr 47] (B0, n37)
        have K : ∀ z40 : Int, z40 = (if x38 ≠ 0 then 0 else 1) → Rn w mX0_work (d + 1) G Q 143 [(0, vr 47), (1, vr 16), (3, vi x3), (4, vi x4)] [vi z40, vr 47] (B0, n37) := by
          intro z40 ez40
          have V := V z40 ez40
          refine r_callV (args := [vi z40]) dX0_work_143 kX0_111 ob_47 ⟨_, _, rfl⟩ (by decide) rfl rfl (Nat.le_of_ble_eq_true rfl) cap0 (Ev.mono V ?_)
          rintro r h' ⟨n41, rfl, rfl, V⟩
          show Rn w mX0_work (d + 1) G Q 146 [(0, vr 47), (1, vr 16), (3, vi x3), (4, vi x4)] [] (B0, n41)
          refine r_goto (tgt := 205) dX0_work_146 (by decide) ?_
          obtain ⟨s42, V⟩ := V
          refine r_iinc (y := x4 + 1) (ls' := [(0, vr 47), (1, vr 16), (3, vi x3), (4, vi (x4 + 1))]) dX0_work_205 rfl rfl s42 (by decide) rfl ?_
          refine r_goto (tgt := 13) dX0_work_208 (by decide) ?_
          exact V
        refine r_zne (tgt := 142) dX0_work_135 (by decide) (fun c39 => ?_) (fun c39 => ?_)
        · refine r_iconst (x := 0) dX0_work_142 rfl (by decide) ?_
          refine r_pick [0, 1, 2, 3] (ls' := [(0, vr 47), (1, vr 16), (3, vi x3), (4, vi x4)]) rfl ?_
          exact K 0 (by first | rfl | (simp only [if_pos c39]))
        · refine r_iconst (x := 1) dX0_work_138 rfl (by decide) ?_
          refine r_goto (tgt := 143) dX0_work_139 (by decide) ?_
          refine r_pick [0, 1, 2, 3] (ls' := [(0, vr 47), (1, vr 16), (3, vi x3), (4, vi x4)]) rfl ?_
          exact K 1 (by first | rfl | (simp only [if_neg (show ¬ (x38 ≠ 0) from not_not_intro c39)]))
      by_cases c3 : x30 = 10
      · have V := V3 c3
        refine r_tableIn (k := 10) (tgt := 149) dX0_work_44 c3 (by decide) (by decide) rfl (by decide) ?_
        refine r_aload_n dX0_work_149 rfl rfl ?_
        refine r_aload_n dX0_work_150 rfl rfl ?_
        refine r_callV (args := []) dX0_work_151 kX0_121 ob_47 ⟨_, _, rfl⟩ (by decide) rfl rfl (Nat.le_of_ble_eq_true rfl) cap0 (Ev.mono V ?_)
        rintro r h' ⟨x44, n43, rfl, rfl, V⟩
        show Rn w mX0_work (d + 1) G Q 154 [(0, vr 47), (1, vr 16), (3, vi x3), (4, vi x4), (5, vi x28), (6, vi x30)] [vi x44, vr 47] (B0, n43)
        have K : ∀ z46 : Int, z46 = (if x44 = 0 then 0 else 1) → Rn w mX0_work (d + 1) G Q 162 [(0, vr 47), (1, vr 16), (3, vi x3), (4, vi x4), (5, vi x28)] [vi z46, vr 47] (B0, n43) := by
          intro z46 ez46
          have V := V z46 ez46
          refine r_iload dX0_work_162 rfl ?_
          refine r_iload dX0_work_164 rfl ?_
          refine r_callV (args := [vi z46, vi x4, vi x28]) dX0_work_166 kX0_124 ob_47 ⟨_, _, rfl⟩ (by decide) rfl rfl (Nat.le_of_ble_eq_true rfl) cap0 (Ev.mono V ?_)
          rintro r h' ⟨x48, n47, rfl, rfl, V⟩
          show Rn w mX0_work (d + 1) G Q 169 [(0, vr 47), (1, vr 16), (3, vi x3), (4, vi x4), (5, vi x28)] [vi x48] (B0, n47)
          refine r_istore (ls' := [(0, vr 47), (1, vr 16), (3, vi x3), (4, vi x48), (5, vi x28)]) dX0_work_169 (by decide) rfl ?_
          refine r_goto (tgt := 205) dX0_work_171 (by decide) ?_
          obtain ⟨s49, V⟩ := V
          refine r_iinc (y := x48 + 1) (ls' := [(0, vr 47), (1, vr 16), (3, vi x3), (4, vi (x48 + 1)), (5, vi x28)]) dX0_work_205 rfl rfl s49 (by decide) rfl ?_
          refine r_goto (tgt := 13) dX0_work_208 (by decide) ?_
          refine r_pick [0, 1, 2, 3] (ls' := [(0, vr 47), (1, vr 16), (3, vi x3), (4, vi (x48 + 1))]) rfl ?_
          exact V
        refine r_zeq (tgt := 161) dX0_work_154 (by decide) (fun c45 => ?_) (fun c45 => ?_)
        · refine r_iconst (x := 0) dX0_work_161 rfl (by decide) ?_
          refine r_pick [0, 1, 2, 3, 4] (ls' := [(0, vr 47), (1, vr 16), (3, vi x3), (4, vi x4), (5, vi x28)]) rfl ?_
          exact K 0 (by first | rfl | (simp only [if_pos c45]))
        · refine r_iconst (x := 1) dX0_work_157 rfl (by decide) ?_
          refine r_goto (tgt := 162) dX0_work_158 (by decide) ?_
          refine r_pick [0, 1, 2, 3, 4] (ls' := [(0, vr 47), (1, vr 16), (3, vi x3), (4, vi x4), (5, vi x28)]) rfl ?_
          exact K 1 (by first | rfl | (simp only [if_neg c45]))
      by_cases c4 : x30 = 11
      · have V := V4 c4
        refine r_tableIn (k := 11) (tgt := 174) dX0_work_44 c4 (by decide) (by decide) rfl (by decide) ?_
        refine r_aload_n dX0_work_174 rfl rfl ?_
        refine r_aload_n dX0_work_175 rfl rfl ?_
        refine r_callV (args := []) dX0_work_176 kX0_121 ob_47 ⟨_, _, rfl⟩ (by decide) rfl rfl (Nat.le_of_ble_eq_true rfl) cap0 (Ev.mono V ?_)
        rintro r h' ⟨x51, n50, rfl, rfl, V⟩
        show Rn w mX0_work (d + 1) G Q 179 [(0, vr 47), (1, vr 16), (3, vi x3), (4, vi x4), (5, vi x28), (6, vi x30)] [vi x51, vr 47] (B0, n50)
        have K : ∀ z53 : Int, z53 = (if x51 ≠ 0 then 0 else 1) → Rn w mX0_work (d + 1) G Q 187 [(0, vr 47), (1, vr 16), (3, vi x3), (4, vi x4), (5, vi x28)] [vi z53, vr 47] (B0, n50) := by
          intro z53 ez53
          have V := V z53 ez53
          refine r_iload dX0_work_187 rfl ?_
          refine r_iload dX0_work_189 rfl ?_
          refine r_callV (args := [vi z53, vi x4, vi x28]) dX0_work_191 kX0_124 ob_47 ⟨_, _, rfl⟩ (by decide) rfl rfl (Nat.le_of_ble_eq_true rfl) cap0 (Ev.mono V ?_)
          rintro r h' ⟨x55, n54, rfl, rfl, V⟩
          show Rn w mX0_work (d + 1) G Q 194 [(0, vr 47), (1, vr 16), (3, vi x3), (4, vi x4), (5, vi x28)] [vi x55] (B0, n54)
          refine r_istore (ls' := [(0, vr 47), (1, vr 16), (3, vi x3), (4, vi x55), (5, vi x28)]) dX0_work_194 (by decide) rfl ?_
          refine r_goto (tgt := 205) dX0_work_196 (by decide) ?_
          obtain ⟨s56, V⟩ := V
          refine r_iinc (y := x55 + 1) (ls' := [(0, vr 47), (1, vr 16), (3, vi x3), (4, vi (x55 + 1)), (5, vi x28)]) dX0_work_205 rfl rfl s56 (by decide) rfl ?_
          refine r_goto (tgt := 13) dX0_work_208 (by decide) ?_
          refine r_pick [0, 1, 2, 3] (ls' := [(0, vr 47), (1, vr 16), (3, vi x3), (4, vi (x55 + 1))]) rfl ?_
          exact V
        refine r_zne (tgt := 186) dX0_work_179 (by decide) (fun c52 => ?_) (fun c52 => ?_)
        · refine r_iconst (x := 0) dX0_work_186 rfl (by decide) ?_
          refine r_pick [0, 1, 2, 3, 4] (ls' := [(0, vr 47), (1, vr 16), (3, vi x3), (4, vi x4), (5, vi x28)]) rfl ?_
          exact K 0 (by first | rfl | (simp only [if_pos c52]))
        · refine r_iconst (x := 1) dX0_work_182 rfl (by decide) ?_
          refine r_goto (tgt := 187) dX0_work_183 (by decide) ?_
          refine r_pick [0, 1, 2, 3, 4] (ls' := [(0, vr 47), (1, vr 16), (3, vi x3), (4, vi x4), (5, vi x28)]) rfl ?_
          exact K 1 (by first | rfl | (simp only [if_neg (show ¬ (x51 ≠ 0) from not_not_intro c52)]))
      have V := VD c0 c1 c2 c3 c4
      by_cases e0 : x30 = 2
      · refine r_tableIn (k := 2) (tgt := 199) dX0_work_44 e0 (by decide) (by decide) rfl (by decide) ?_
        refine r_aload_n dX0_work_199 rfl rfl ?_
        refine r_iload dX0_work_200 rfl ?_
        refine r_callV (args := [vi x30]) dX0_work_202 kX0_128 ob_47 ⟨_, _, rfl⟩ (by decide) rfl rfl (Nat.le_of_ble_eq_true rfl) cap0 (Ev.mono V ?_)
        rintro r h' ⟨n57, rfl, rfl, V⟩
        show Rn w mX0_work (d + 1) G Q 205 [(0, vr 47), (1, vr 16), (3, vi x3), (4, vi x4), (5, vi x28), (6, vi x30)] [] (B0, n57)
        obtain ⟨s58, V⟩ := V
        refine r_iinc (y := x4 + 1) (ls' := [(0, vr 47), (1, vr 16), (3, vi x3), (4, vi (x4 + 1)), (5, vi x28), (6, vi x30)]) dX0_work_205 rfl rfl s58 (by decide) rfl ?_
        refine r_goto (tgt := 13) dX0_work_208 (by decide) ?_
        refine r_pick [0, 1, 2, 3] (ls' := [(0, vr 47), (1, vr 16), (3, vi x3), (4, vi (x4 + 1))]) rfl ?_
        exact V
      by_cases e1 : x30 = 3
      · refine r_tableIn (k := 3) (tgt := 199) dX0_work_44 e1 (by decide) (by decide) rfl (by decide) ?_
        refine r_aload_n dX0_work_199 rfl rfl ?_
        refine r_iload dX0_work_200 rfl ?_
        refine r_callV (args := [vi x30]) dX0_work_202 kX0_128 ob_47 ⟨_, _, rfl⟩ (by decide) rfl rfl (Nat.le_of_ble_eq_true rfl) cap0 (Ev.mono V ?_)
        rintro r h' ⟨n57, rfl, rfl, V⟩
        show Rn w mX0_work (d + 1) G Q 205 [(0, vr 47), (1, vr 16), (3, vi x3), (4, vi x4), (5, vi x28), (6, vi x30)] [] (B0, n57)
        obtain ⟨s58, V⟩ := V
        refine r_iinc (y := x4 + 1) (ls' := [(0, vr 47), (1, vr 16), (3, vi x3), (4, vi (x4 + 1)), (5, vi x28), (6, vi x30)]) dX0_work_205 rfl rfl s58 (by decide) rfl ?_
        refine r_goto (tgt := 13) dX0_work_208 (by decide) ?_
        refine r_pick [0, 1, 2, 3] (ls' := [(0, vr 47), (1, vr 16), (3, vi x3), (4, vi (x4 + 1))]) rfl ?_
        exact V
      by_cases e2 : x30 = 4
      · refine r_tableIn (k := 4) (tgt := 199) dX0_work_44 e2 (by decide) (by decide) rfl (by decide) ?_
        refine r_aload_n dX0_work_199 rfl rfl ?_
        refine r_iload dX0_work_200 rfl ?_
        refine r_callV (args := [vi x30]) dX0_work_202 kX0_128 ob_47 ⟨_, _, rfl⟩ (by decide) rfl rfl (Nat.le_of_ble_eq_true rfl) cap0 (Ev.mono V ?_)
        rintro r h' ⟨n57, rfl, rfl, V⟩
        show Rn w mX0_work (d + 1) G Q 205 [(0, vr 47), (1, vr 16), (3, vi x3), (4, vi x4), (5, vi x28), (6, vi x30)] [] (B0, n57)
        obtain ⟨s58, V⟩ := V
        refine r_iinc (y := x4 + 1) (ls' := [(0, vr 47), (1, vr 16), (3, vi x3), (4, vi (x4 + 1)), (5, vi x28), (6, vi x30)]) dX0_work_205 rfl rfl s58 (by decide) rfl ?_
        refine r_goto (tgt := 13) dX0_work_208 (by decide) ?_
        refine r_pick [0, 1, 2, 3] (ls' := [(0, vr 47), (1, vr 16), (3, vi x3), (4, vi (x4 + 1))]) rfl ?_
        exact V
      by_cases e3 : x30 = 5
      · refine r_tableIn (k := 5) (tgt := 199) dX0_work_44 e3 (by decide) (by decide) rfl (by decide) ?_
        refine r_aload_n dX0_work_199 rfl rfl ?_
        refine r_iload dX0_work_200 rfl ?_
        refine r_callV (args := [vi x30]) dX0_work_202 kX0_128 ob_47 ⟨_, _, rfl⟩ (by decide) rfl rfl (Nat.le_of_ble_eq_true rfl) cap0 (Ev.mono V ?_)
        rintro r h' ⟨n57, rfl, rfl, V⟩
        show Rn w mX0_work (d + 1) G Q 205 [(0, vr 47), (1, vr 16), (3, vi x3), (4, vi x4), (5, vi x28), (6, vi x30)] [] (B0, n57)
        obtain ⟨s58, V⟩ := V
        refine r_iinc (y := x4 + 1) (ls' := [(0, vr 47), (1, vr 16), (3, vi x3), (4, vi (x4 + 1)), (5, vi x28), (6, vi x30)]) dX0_work_205 rfl rfl s58 (by decide) rfl ?_
        refine r_goto (tgt := 13) dX0_work_208 (by decide) ?_
        refine r_pick [0, 1, 2, 3] (ls' := [(0, vr 47), (1, vr 16), (3, vi x3), (4, vi (x4 + 1))]) rfl ?_
        exact V
      by_cases e4 : x30 = 6
      · refine r_tableIn (k := 6) (tgt := 199) dX0_work_44 e4 (by decide) (by decide) rfl (by decide) ?_
        refine r_aload_n dX0_work_199 rfl rfl ?_
        refine r_iload dX0_work_200 rfl ?_
        refine r_callV (args := [vi x30]) dX0_work_202 kX0_128 ob_47 ⟨_, _, rfl⟩ (by decide) rfl rfl (Nat.le_of_ble_eq_true rfl) cap0 (Ev.mono V ?_)
        rintro r h' ⟨n57, rfl, rfl, V⟩
        show Rn w mX0_work (d + 1) G Q 205 [(0, vr 47), (1, vr 16), (3, vi x3), (4, vi x4), (5, vi x28), (6, vi x30)] [] (B0, n57)
        obtain ⟨s58, V⟩ := V
        refine r_iinc (y := x4 + 1) (ls' := [(0, vr 47), (1, vr 16), (3, vi x3), (4, vi (x4 + 1)), (5, vi x28), (6, vi x30)]) dX0_work_205 rfl rfl s58 (by decide) rfl ?_
        refine r_goto (tgt := 13) dX0_work_208 (by decide) ?_
        refine r_pick [0, 1, 2, 3] (ls' := [(0, vr 47), (1, vr 16), (3, vi x3), (4, vi (x4 + 1))]) rfl ?_
        exact V
      by_cases e5 : x30 = 7
      · refine r_tableIn (k := 7) (tgt := 199) dX0_work_44 e5 (by decide) (by decide) rfl (by decide) ?_
        refine r_aload_n dX0_work_199 rfl rfl ?_
        refine r_iload dX0_work_200 rfl ?_
        refine r_callV (args := [vi x30]) dX0_work_202 kX0_128 ob_47 ⟨_, _, rfl⟩ (by decide) rfl rfl (Nat.le_of_ble_eq_true rfl) cap0 (Ev.mono V ?_)
        rintro r h' ⟨n57, rfl, rfl, V⟩
        show Rn w mX0_work (d + 1) G Q 205 [(0, vr 47), (1, vr 16), (3, vi x3), (4, vi x4), (5, vi x28), (6, vi x30)] [] (B0, n57)
        obtain ⟨s58, V⟩ := V
        refine r_iinc (y := x4 + 1) (ls' := [(0, vr 47), (1, vr 16), (3, vi x3), (4, vi (x4 + 1)), (5, vi x28), (6, vi x30)]) dX0_work_205 rfl rfl s58 (by decide) rfl ?_
        refine r_goto (tgt := 13) dX0_work_208 (by decide) ?_
        refine r_pick [0, 1, 2, 3] (ls' := [(0, vr 47), (1, vr 16), (3, vi x3), (4, vi (x4 + 1))]) rfl ?_
        exact V
      by_cases e6 : x30 = 8
      · refine r_tableIn (k := 8) (tgt := 199) dX0_work_44 e6 (by decide) (by decide) rfl (by decide) ?_
        refine r_aload_n dX0_work_199 rfl rfl ?_
        refine r_iload dX0_work_200 rfl ?_
        refine r_callV (args := [vi x30]) dX0_work_202 kX0_128 ob_47 ⟨_, _, rfl⟩ (by decide) rfl rfl (Nat.le_of_ble_eq_true rfl) cap0 (Ev.mono V ?_)
        rintro r h' ⟨n57, rfl, rfl, V⟩
        show Rn w mX0_work (d + 1) G Q 205 [(0, vr 47), (1, vr 16), (3, vi x3), (4, vi x4), (5, vi x28), (6, vi x30)] [] (B0, n57)
        obtain ⟨s58, V⟩ := V
        refine r_iinc (y := x4 + 1) (ls' := [(0, vr 47), (1, vr 16), (3, vi x3), (4, vi (x4 + 1)), (5, vi x28), (6, vi x30)]) dX0_work_205 rfl rfl s58 (by decide) rfl ?_
        refine r_goto (tgt := 13) dX0_work_208 (by decide) ?_
        refine r_pick [0, 1, 2, 3] (ls' := [(0, vr 47), (1, vr 16), (3, vi x3), (4, vi (x4 + 1))]) rfl ?_
        exact V
      refine r_tableOut (tgt := 199) dX0_work_44 (by omega) (by decide) ?_
      refine r_aload_n dX0_work_199 rfl rfl ?_
      refine r_iload dX0_work_200 rfl ?_
      refine r_callV (args := [vi x30]) dX0_work_202 kX0_128 ob_47 ⟨_, _, rfl⟩ (by decide) rfl rfl (Nat.le_of_ble_eq_true rfl) cap0 (Ev.mono V ?_)
      rintro r h' ⟨n57, rfl, rfl, V⟩
      show Rn w mX0_work (d + 1) G Q 205 [(0, vr 47), (1, vr 16), (3, vi x3), (4, vi x4), (5, vi x28), (6, vi x30)] [] (B0, n57)
      obtain ⟨s58, V⟩ := V
      refine r_iinc (y := x4 + 1) (ls' := [(0, vr 47), (1, vr 16), (3, vi x3), (4, vi (x4 + 1)), (5, vi x28), (6, vi x30)]) dX0_work_205 rfl rfl s58 (by decide) rfl ?_
      refine r_goto (tgt := 13) dX0_work_208 (by decide) ?_
      refine r_pick [0, 1, 2, 3] (ls' := [(0, vr 47), (1, vr 16), (3, vi x3), (4, vi (x4 + 1))]) rfl ?_
      exact V

theorem gX0_afterSkip_0 {w : WD} {d : Nat} {G : GM} {Q : Option AV → Hp → Prop} {n : NM} {x1 x2 x3 : Int}
    (V :
    ((x1 = 0 →
      (Ev w d 0 0 mX0_pop [vr 47] (B0, n) (fun r h' => ∃ (x23 : Int) (n22 : NM), r = some (vi x23) ∧ h' = (B0, n22) ∧ 
        Q (some (vi x2)) (B0, n22)))) ∧
    (x1 ≠ 0 →
      (inI (x3 - 1)) ∧
      Q (some (vi (max x2 (x3 - 1)))) (B0, n)))) :
    Rn w mX0_afterSkip (d + 1) G Q 0 [(0, vr 47), (1, vi x1), (2, vi x2), (3, vi x3)] [] (B0, n) := by
  refine r_iload_n dX0_afterSkip_0 rfl rfl ?_
  obtain ⟨V1, V2⟩ := V
  refine r_zeq (tgt := 12) dX0_afterSkip_1 (by decide) (fun c21 => ?_) (fun c21 => ?_)
  · have V := V1 c21
    refine r_aload_n dX0_afterSkip_12 rfl rfl ?_
    refine r_callV (args := []) dX0_afterSkip_13 kX0_118 ob_47 ⟨_, _, rfl⟩ (by decide) rfl rfl (Nat.le_of_ble_eq_true rfl) cap0 (Ev.mono V ?_)
    rintro r h' ⟨x23, n22, rfl, rfl, V⟩
    show Rn w mX0_afterSkip (d + 1) G Q 16 [(0, vr 47), (1, vi x1), (2, vi x2), (3, vi x3)] [vi x23] (B0, n22)
    refine r_pop dX0_afterSkip_16 rfl ?_
    refine r_iload_n dX0_afterSkip_17 rfl rfl ?_
    exact r_iret dX0_afterSkip_18 rfl V
  · have V := V2 c21
    refine r_iload_n dX0_afterSkip_4 rfl rfl ?_
    refine r_iload_n dX0_afterSkip_5 rfl rfl ?_
    refine r_iconst (x := 1) dX0_afterSkip_6 rfl (by decide) ?_
    obtain ⟨s24, V⟩ := V
    refine r_isub dX0_afterSkip_7 s24 ?_
    refine r_mmax dX0_afterSkip_8 kX0_102 (Nat.le_of_ble_eq_true rfl) ?_
    exact r_iret dX0_afterSkip_11 rfl V

theorem gX0_wordAt_0 {w : WD} {d : Nat} {G : GM} {Q : Option AV → Hp → Prop} {n : NM} {x1 : Int}
    (V :
    ((x1 < 0 →
      Q (some (vi 0)) (B0, n)) ∧
    (0 ≤ x1 →
      ((9 ≤ x1 →
        Q (some (vi 0)) (B0, n)) ∧
      (x1 < 9 →
        (0 ≤ x1) ∧
        (x1 < 9) ∧
        Q (some (vi (n 49 x1))) (B0, n)))))) :
    Rn w mX0_wordAt d G Q 0 [(0, vr 47), (1, vi x1)] [] (B0, n) := by
  refine r_iload_n dX0_wordAt_0 rfl rfl ?_
  obtain ⟨V1, V2⟩ := V
  refine r_zlt (tgt := 22) dX0_wordAt_1 (by decide) (fun c21 => ?_) (fun c21 => ?_)
  · have V := V1 c21
    refine r_iconst (x := 0) dX0_wordAt_22 rfl (by decide) ?_
    exact r_iret dX0_wordAt_23 rfl V
  · have V := V2 c21
    refine r_iload_n dX0_wordAt_4 rfl rfl ?_
    refine r_aload_n dX0_wordAt_5 rfl rfl ?_
    refine r_getR (b := 49) dX0_wordAt_6 fX0_23 ob_47 (by decide) rfl rfl ?_
    refine r_alen (c := 0) (x := 9) dX0_wordAt_9 ob_49 (by decide) rfl (by decide) ?_
    obtain ⟨V1, V2⟩ := V
    refine r_jge (tgt := 22) dX0_wordAt_10 (by decide) (fun c22 => ?_) (fun c22 => ?_)
    · have V := V1 c22
      refine r_iconst (x := 0) dX0_wordAt_22 rfl (by decide) ?_
      exact r_iret dX0_wordAt_23 rfl V
    · have V := V2 c22
      refine r_aload_n dX0_wordAt_13 rfl rfl ?_
      refine r_getR (b := 49) dX0_wordAt_14 fX0_23 ob_47 (by decide) rfl rfl ?_
      refine r_iload_n dX0_wordAt_17 rfl rfl ?_
      obtain ⟨s23, V⟩ := V
      obtain ⟨s24, V⟩ := V
      refine r_iald dX0_wordAt_18 ob_49 s23 s24 ?_
      refine r_goto (tgt := 23) dX0_wordAt_19 (by decide) ?_
      exact r_iret dX0_wordAt_23 rfl V

theorem gX0_push_0 {w : WD} {d : Nat} {G : GM} {Q : Option AV → Hp → Prop} {n : NM} {x1 : Int}
    (V :
    ((n 47 1 < 0 →
      Q none (B0, upn n 47 2 1)) ∧
    (0 ≤ n 47 1 →
      ((64 ≤ n 47 1 →
        Q none (B0, upn n 47 2 1)) ∧
      (n 47 1 < 64 →
        (0 ≤ n 47 1) ∧
        (n 47 1 < 64) ∧
        (inI ((n 47 1) + 1)) ∧
        Q none (B0, upn (upn n 48 (n 47 1) x1) 47 1 ((n 47 1) + 1))))))) :
    Rn w mX0_push d G Q 0 [(0, vr 47), (1, vi x1)] [] (B0, n) := by
  refine r_aload_n dX0_push_0 rfl rfl ?_
  refine r_getI (fi := 1) dX0_push_1 fX0_15 ob_47 (by decide) (by decide) rfl ?_
  obtain ⟨V1, V2⟩ := V
  refine r_zlt (tgt := 42) dX0_push_4 (by decide) (fun c21 => ?_) (fun c21 => ?_)
  · have V := V1 c21
    refine r_aload_n dX0_push_42 rfl rfl ?_
    refine r_iconst (x := 1) dX0_push_43 rfl (by decide) ?_
    refine r_putZ (fi := 2) (h' := (B0, upn n 47 2 1)) dX0_push_44 pX0_19 ob_47 (by decide) rfl rfl (by decide) rfl ?_
    exact r_ret dX0_push_47 rfl V
  · have V := V2 c21
    refine r_aload_n dX0_push_7 rfl rfl ?_
    refine r_getI (fi := 1) dX0_push_8 fX0_15 ob_47 (by decide) (by decide) rfl ?_
    refine r_aload_n dX0_push_11 rfl rfl ?_
    refine r_getR (b := 48) dX0_push_12 fX0_9 ob_47 (by decide) rfl rfl ?_
    refine r_alen (c := 0) (x := 64) dX0_push_15 ob_48 (by decide) rfl (by decide) ?_
    obtain ⟨V1, V2⟩ := V
    refine r_jge (tgt := 42) dX0_push_16 (by decide) (fun c22 => ?_) (fun c22 => ?_)
    · have V := V1 c22
      refine r_aload_n dX0_push_42 rfl rfl ?_
      refine r_iconst (x := 1) dX0_push_43 rfl (by decide) ?_
      refine r_putZ (fi := 2) (h' := (B0, upn n 47 2 1)) dX0_push_44 pX0_19 ob_47 (by decide) rfl rfl (by decide) rfl ?_
      exact r_ret dX0_push_47 rfl V
    · have V := V2 c22
      refine r_aload_n dX0_push_19 rfl rfl ?_
      refine r_getR (b := 48) dX0_push_20 fX0_9 ob_47 (by decide) rfl rfl ?_
      refine r_aload_n dX0_push_23 rfl rfl ?_
      refine r_getI (fi := 1) dX0_push_24 fX0_15 ob_47 (by decide) (by decide) rfl ?_
      refine r_iload_n dX0_push_27 rfl rfl ?_
      obtain ⟨s23, V⟩ := V
      obtain ⟨s24, V⟩ := V
      refine r_iast (h' := (B0, upn n 48 (n 47 1) x1)) dX0_push_28 ob_48 s23 s24 rfl ?_
      refine r_aload_n dX0_push_29 rfl rfl ?_
      refine r_dup dX0_push_30 rfl ?_
      refine r_getI (fi := 1) dX0_push_31 fX0_15 ob_47 (by decide) (by decide) rfl ?_
      show Rn w mX0_push d G Q 34 [(0, vr 47), (1, vi x1)] [vi (n 47 1), vr 47] (B0, upn n 48 (n 47 1) x1)
      refine r_iconst (x := 1) dX0_push_34 rfl (by decide) ?_
      obtain ⟨s25, V⟩ := V
      refine r_iadd dX0_push_35 s25 ?_
      refine r_putI (fi := 1) (h' := (B0, upn (upn n 48 (n 47 1) x1) 47 1 ((n 47 1) + 1))) dX0_push_36 pX0_15 ob_47 (by decide) rfl rfl rfl ?_
      refine r_goto (tgt := 47) dX0_push_39 (by decide) ?_
      exact r_ret dX0_push_47 rfl V

theorem gX0_top_0 {w : WD} {d : Nat} {G : GM} {Q : Option AV → Hp → Prop} {n : NM}
    (V :
    ((n 47 1 ≤ 0 →
      Q (some (vi 0)) (B0, n)) ∧
    (0 < n 47 1 →
      ((64 < n 47 1 →
        Q (some (vi 0)) (B0, n)) ∧
      (n 47 1 ≤ 64 →
        (inI ((n 47 1) - 1)) ∧
        (0 ≤ (n 47 1) - 1) ∧
        ((n 47 1) - 1 < 64) ∧
        Q (some (vi (n 48 ((n 47 1) - 1)))) (B0, n)))))) :
    Rn w mX0_top d G Q 0 [(0, vr 47)] [] (B0, n) := by
  refine r_aload_n dX0_top_0 rfl rfl ?_
  refine r_getI (fi := 1) dX0_top_1 fX0_15 ob_47 (by decide) (by decide) rfl ?_
  obtain ⟨V1, V2⟩ := V
  refine r_zle (tgt := 33) dX0_top_4 (by decide) (fun c21 => ?_) (fun c21 => ?_)
  · have V := V1 c21
    refine r_iconst (x := 0) dX0_top_33 rfl (by decide) ?_
    exact r_iret dX0_top_34 rfl V
  · have V := V2 c21
    refine r_aload_n dX0_top_7 rfl rfl ?_
    refine r_getI (fi := 1) dX0_top_8 fX0_15 ob_47 (by decide) (by decide) rfl ?_
    refine r_aload_n dX0_top_11 rfl rfl ?_
    refine r_getR (b := 48) dX0_top_12 fX0_9 ob_47 (by decide) rfl rfl ?_
    refine r_alen (c := 0) (x := 64) dX0_top_15 ob_48 (by decide) rfl (by decide) ?_
    obtain ⟨V1, V2⟩ := V
    refine r_jgt (tgt := 33) dX0_top_16 (by decide) (fun c22 => ?_) (fun c22 => ?_)
    · have V := V1 c22
      refine r_iconst (x := 0) dX0_top_33 rfl (by decide) ?_
      exact r_iret dX0_top_34 rfl V
    · have V := V2 c22
      refine r_aload_n dX0_top_19 rfl rfl ?_
      refine r_getR (b := 48) dX0_top_20 fX0_9 ob_47 (by decide) rfl rfl ?_
      refine r_aload_n dX0_top_23 rfl rfl ?_
      refine r_getI (fi := 1) dX0_top_24 fX0_15 ob_47 (by decide) (by decide) rfl ?_
      refine r_iconst (x := 1) dX0_top_27 rfl (by decide) ?_
      obtain ⟨s23, V⟩ := V
      refine r_isub dX0_top_28 s23 ?_
      obtain ⟨s24, V⟩ := V
      obtain ⟨s25, V⟩ := V
      refine r_iald dX0_top_29 ob_48 s24 s25 ?_
      refine r_goto (tgt := 34) dX0_top_30 (by decide) ?_
      exact r_iret dX0_top_34 rfl V

theorem gX0_pop_0 {w : WD} {d : Nat} {G : GM} {Q : Option AV → Hp → Prop} {n : NM}
    (V :
    (Ev w d 0 0 mX0_top [vr 47] (B0, n) (fun r h' => ∃ (x22 : Int) (n21 : NM), r = some (vi x22) ∧ h' = (B0, n21) ∧ 
      (inI ((n21 47 1) - 1)) ∧
      Q (some (vi x22)) (B0, upn n21 47 1 (max 0 ((n21 47 1) - 1)))))) :
    Rn w mX0_pop (d + 1) G Q 0 [(0, vr 47)] [] (B0, n) := by
  refine r_aload_n dX0_pop_0 rfl rfl ?_
  refine r_callV (args := []) dX0_pop_1 kX0_121 ob_47 ⟨_, _, rfl⟩ (by decide) rfl rfl (Nat.le_of_ble_eq_true rfl) cap0 (Ev.mono V ?_)
  rintro r h' ⟨x22, n21, rfl, rfl, V⟩
  show Rn w mX0_pop (d + 1) G Q 4 [(0, vr 47)] [vi x22] (B0, n21)
  refine r_istore_n (ls' := [(0, vr 47), (1, vi x22)]) dX0_pop_4 rfl (by decide) rfl ?_
  refine r_aload_n dX0_pop_5 rfl rfl ?_
  refine r_iconst (x := 0) dX0_pop_6 rfl (by decide) ?_
  refine r_aload_n dX0_pop_7 rfl rfl ?_
  refine r_getI (fi := 1) dX0_pop_8 fX0_15 ob_47 (by decide) (by decide) rfl ?_
  refine r_iconst (x := 1) dX0_pop_11 rfl (by decide) ?_
  obtain ⟨s23, V⟩ := V
  refine r_isub dX0_pop_12 s23 ?_
  refine r_mmax dX0_pop_13 kX0_102 (Nat.le_of_ble_eq_true rfl) ?_
  refine r_putI (fi := 1) (h' := (B0, upn n21 47 1 (max 0 ((n21 47 1) - 1)))) dX0_pop_16 pX0_15 ob_47 (by decide) rfl rfl rfl ?_
  refine r_iload_n dX0_pop_19 rfl rfl ?_
  exact r_iret dX0_pop_20 rfl V

theorem gX0_join_0 {w : WD} {d : Nat} {G : GM} {Q : Option AV → Hp → Prop} {n : NM} {x1 : Int}
    (V :
    (Ev w d 0 0 mX0_pop [vr 47] (B0, n) (fun r h' => ∃ (x22 : Int) (n21 : NM), r = some (vi x22) ∧ h' = (B0, n21) ∧ 
      (Ev w d 0 0 mX0_pop [vr 47] (B0, n21) (fun r h' => ∃ (x24 : Int) (n23 : NM), r = some (vi x24) ∧ h' = (B0, n23) ∧ 
        (x1 = 2 →
          (inJ (x24 + x22)) ∧
          (Ev w d 0 0 mX0_keep [vr 47, vl (x24 + x22)] (B0, n23) (fun r h' => ∃ n26 : NM, r = none ∧ h' = (B0, n26) ∧ 
            Q none (B0, n26)))) ∧
        (x1 = 3 →
          (inJ (x24 - x22)) ∧
          (Ev w d 0 0 mX0_keep [vr 47, vl (x24 - x22)] (B0, n23) (fun r h' => ∃ n28 : NM, r = none ∧ h' = (B0, n28) ∧ 
            Q none (B0, n28)))) ∧
        (x1 = 4 →
          (inJ (x24 * x22)) ∧
          (Ev w d 0 0 mX0_keep [vr 47, vl (x24 * x22)] (B0, n23) (fun r h' => ∃ n30 : NM, r = none ∧ h' = (B0, n30) ∧ 
            Q none (B0, n30)))) ∧
        (x1 = 5 →
          (Ev w d 0 0 mX0_divide [vr 47, vl x24, vl x22] (B0, n23) (fun r h' => ∃ n31 : NM, r = none ∧ h' = (B0, n31) ∧ 
            Q none (B0, n31)))) ∧
        (x1 = 6 →
          (∀ z33 : Int, z33 = (if x22 ≤ x24 then 0 else 1) → 
          (Ev w d 0 0 mX0_push [vr 47, vi z33] (B0, n23) (fun r h' => ∃ n34 : NM, r = none ∧ h' = (B0, n34) ∧ 
            Q none (B0, n34))))) ∧
        (x1 = 7 →
          (∀ z36 : Int, z36 = (if x24 ≤ x22 then 0 else 1) → 
          (Ev w d 0 0 mX0_push [vr 47, vi z36] (B0, n23) (fun r h' => ∃ n37 : NM, r = none ∧ h' = (B0, n37) ∧ 
            Q none (B0, n37))))) ∧
        (¬ x1 = 2 → ¬ x1 = 3 → ¬ x1 = 4 → ¬ x1 = 5 → ¬ x1 = 6 → ¬ x1 = 7 →
          (∀ z39 : Int, z39 = (if x24 ≠ x22 then 0 else 1) → 
          (Ev w d 0 0 mX0_push [vr 47, vi z39] (B0, n23) (fun r h' => ∃ n40 : NM, r = none ∧ h' = (B0, n40) ∧ 
            Q none (B0, n40)))))))))) :
    Rn w mX0_join (d + 1) G Q 0 [(0, vr 47), (1, vi x1)] [] (B0, n) := by
  refine r_aload_n dX0_join_0 rfl rfl ?_
  refine r_callV (args := []) dX0_join_1 kX0_118 ob_47 ⟨_, _, rfl⟩ (by decide) rfl rfl (Nat.le_of_ble_eq_true rfl) cap0 (Ev.mono V ?_)
  rintro r h' ⟨x22, n21, rfl, rfl, V⟩
  show Rn w mX0_join (d + 1) G Q 4 [(0, vr 47), (1, vi x1)] [vi x22] (B0, n21)
  refine r_i2l dX0_join_4 ?_
  refine r_lstore_n (ls' := [(0, vr 47), (1, vi x1), (2, vl x22)]) dX0_join_5 rfl (by decide) rfl ?_
  refine r_aload_n dX0_join_6 rfl rfl ?_
  refine r_callV (args := []) dX0_join_7 kX0_118 ob_47 ⟨_, _, rfl⟩ (by decide) rfl rfl (Nat.le_of_ble_eq_true rfl) cap0 (Ev.mono V ?_)
  rintro r h' ⟨x24, n23, rfl, rfl, V⟩
  show Rn w mX0_join (d + 1) G Q 10 [(0, vr 47), (1, vi x1), (2, vl x22)] [vi x24] (B0, n23)
  refine r_i2l dX0_join_10 ?_
  refine r_lstore (ls' := [(0, vr 47), (1, vi x1), (2, vl x22), (4, vl x24)]) dX0_join_11 (by decide) rfl ?_
  refine r_iload_n dX0_join_13 rfl rfl ?_
  obtain ⟨V0, V1, V2, V3, V4, V5, VD⟩ := V
  by_cases c0 : x1 = 2
  · have V := V0 c0
    refine r_tableIn (k := 2) (tgt := 52) dX0_join_14 c0 (by decide) (by decide) rfl (by decide) ?_
    refine r_aload_n dX0_join_52 rfl rfl ?_
    refine r_lload dX0_join_53 rfl ?_
    refine r_lload_n dX0_join_55 rfl rfl ?_
    obtain ⟨s25, V⟩ := V
    refine r_ladd dX0_join_56 s25 ?_
    refine r_callV (args := [vl (x24 + x22)]) dX0_join_57 kX0_131 ob_47 ⟨_, _, rfl⟩ (by decide) rfl rfl (Nat.le_of_ble_eq_true rfl) cap0 (Ev.mono V ?_)
    rintro r h' ⟨n26, rfl, rfl, V⟩
    show Rn w mX0_join (d + 1) G Q 60 [(0, vr 47), (1, vi x1), (2, vl x22), (4, vl x24)] [] (B0, n26)
    refine r_goto (tgt := 149) dX0_join_60 (by decide) ?_
    exact r_ret dX0_join_149 rfl V
  by_cases c1 : x1 = 3
  · have V := V1 c1
    refine r_tableIn (k := 3) (tgt := 63) dX0_join_14 c1 (by decide) (by decide) rfl (by decide) ?_
    refine r_aload_n dX0_join_63 rfl rfl ?_
    refine r_lload dX0_join_64 rfl ?_
    refine r_lload_n dX0_join_66 rfl rfl ?_
    obtain ⟨s27, V⟩ := V
    refine r_lsub dX0_join_67 s27 ?_
    refine r_callV (args := [vl (x24 - x22)]) dX0_join_68 kX0_131 ob_47 ⟨_, _, rfl⟩ (by decide) rfl rfl (Nat.le_of_ble_eq_true rfl) cap0 (Ev.mono V ?_)
    rintro r h' ⟨n28, rfl, rfl, V⟩
    show Rn w mX0_join (d + 1) G Q 71 [(0, vr 47), (1, vi x1), (2, vl x22), (4, vl x24)] [] (B0, n28)
    refine r_goto (tgt := 149) dX0_join_71 (by decide) ?_
    exact r_ret dX0_join_149 rfl V
  by_cases c2 : x1 = 4
  · have V := V2 c2
    refine r_tableIn (k := 4) (tgt := 74) dX0_join_14 c2 (by decide) (by decide) rfl (by decide) ?_
    refine r_aload_n dX0_join_74 rfl rfl ?_
    refine r_lload dX0_join_75 rfl ?_
    refine r_lload_n dX0_join_77 rfl rfl ?_
    obtain ⟨s29, V⟩ := V
    refine r_lmul dX0_join_78 s29 ?_
    refine r_callV (args := [vl (x24 * x22)]) dX0_join_79 kX0_131 ob_47 ⟨_, _, rfl⟩ (by decide) rfl rfl (Nat.le_of_ble_eq_true rfl) cap0 (Ev.mono V ?_)
    rintro r h' ⟨n30, rfl, rfl, V⟩
    show Rn w mX0_join (d + 1) G Q 82 [(0, vr 47), (1, vi x1), (2, vl x22), (4, vl x24)] [] (B0, n30)
    refine r_goto (tgt := 149) dX0_join_82 (by decide) ?_
    exact r_ret dX0_join_149 rfl V
  by_cases c3 : x1 = 5
  · have V := V3 c3
    refine r_tableIn (k := 5) (tgt := 85) dX0_join_14 c3 (by decide) (by decide) rfl (by decide) ?_
    refine r_aload_n dX0_join_85 rfl rfl ?_
    refine r_lload dX0_join_86 rfl ?_
    refine r_lload_n dX0_join_88 rfl rfl ?_
    refine r_callV (args := [vl x24, vl x22]) dX0_join_89 kX0_135 ob_47 ⟨_, _, rfl⟩ (by decide) rfl rfl (Nat.le_of_ble_eq_true rfl) cap0 (Ev.mono V ?_)
    rintro r h' ⟨n31, rfl, rfl, V⟩
    show Rn w mX0_join (d + 1) G Q 92 [(0, vr 47), (1, vi x1), (2, vl x22), (4, vl x24)] [] (B0, n31)
    refine r_goto (tgt := 149) dX0_join_92 (by decide) ?_
    exact r_ret dX0_join_149 rfl V
  by_cases c4 : x1 = 6
  · have V := V4 c4
    refine r_tableIn (k := 6) (tgt := 95) dX0_join_14 c4 (by decide) (by decide) rfl (by decide) ?_
    refine r_aload_n dX0_join_95 rfl rfl ?_
    refine r_lload dX0_join_96 rfl ?_
    refine r_lload_n dX0_join_98 rfl rfl ?_
    have K : ∀ z33 : Int, z33 = (if x22 ≤ x24 then 0 else 1) → Rn w mX0_join (d + 1) G Q 108 [] [vi z33, vr 47] (B0, n23) := by
      intro z33 ez33
      have V := V z33 ez33
      refine r_callV (args := [vi z33]) dX0_join_108 kX0_111 ob_47 ⟨_, _, rfl⟩ (by decide) rfl rfl (Nat.le_of_ble_eq_true rfl) cap0 (Ev.mono V ?_)
      rintro r h' ⟨n34, rfl, rfl, V⟩
      show Rn w mX0_join (d + 1) G Q 111 [] [] (B0, n34)
      refine r_goto (tgt := 149) dX0_join_111 (by decide) ?_
      exact r_ret dX0_join_149 rfl V
    refine r_lge dX0_join_99 rfl dX0_join_100 (tgt := 107) (by decide) (fun c32 => ?_) (fun c32 => ?_)
    · refine r_iconst (x := 0) dX0_join_107 rfl (by decide) ?_
      refine r_pick [] (ls' := []) rfl ?_
      exact K 0 (by first | rfl | (simp only [if_pos c32]))
    · refine r_iconst (x := 1) dX0_join_103 rfl (by decide) ?_
      refine r_goto (tgt := 108) dX0_join_104 (by decide) ?_
      refine r_pick [] (ls' := []) rfl ?_
      exact K 1 (by first | rfl | (simp only [if_neg (Int.not_le.mpr c32)]))
  by_cases c5 : x1 = 7
  · have V := V5 c5
    refine r_tableIn (k := 7) (tgt := 114) dX0_join_14 c5 (by decide) (by decide) rfl (by decide) ?_
    refine r_aload_n dX0_join_114 rfl rfl ?_
    refine r_lload dX0_join_115 rfl ?_
    refine r_lload_n dX0_join_117 rfl rfl ?_
    have K : ∀ z36 : Int, z36 = (if x24 ≤ x22 then 0 else 1) → Rn w mX0_join (d + 1) G Q 127 [] [vi z36, vr 47] (B0, n23) := by
      intro z36 ez36
      have V := V z36 ez36
      refine r_callV (args := [vi z36]) dX0_join_127 kX0_111 ob_47 ⟨_, _, rfl⟩ (by decide) rfl rfl (Nat.le_of_ble_eq_true rfl) cap0 (Ev.mono V ?_)
      rintro r h' ⟨n37, rfl, rfl, V⟩
      show Rn w mX0_join (d + 1) G Q 130 [] [] (B0, n37)
      refine r_goto (tgt := 149) dX0_join_130 (by decide) ?_
      exact r_ret dX0_join_149 rfl V
    refine r_lle dX0_join_118 rfl dX0_join_119 (tgt := 126) (by decide) (fun c35 => ?_) (fun c35 => ?_)
    · refine r_iconst (x := 0) dX0_join_126 rfl (by decide) ?_
      refine r_pick [] (ls' := []) rfl ?_
      exact K 0 (by first | rfl | (simp only [if_pos c35]))
    · refine r_iconst (x := 1) dX0_join_122 rfl (by decide) ?_
      refine r_goto (tgt := 127) dX0_join_123 (by decide) ?_
      refine r_pick [] (ls' := []) rfl ?_
      exact K 1 (by first | rfl | (simp only [if_neg (Int.not_le.mpr c35)]))
  have V := VD c0 c1 c2 c3 c4 c5
  refine r_tableOut (tgt := 133) dX0_join_14 (by omega) (by decide) ?_
  refine r_aload_n dX0_join_133 rfl rfl ?_
  refine r_lload dX0_join_134 rfl ?_
  refine r_lload_n dX0_join_136 rfl rfl ?_
  have K : ∀ z39 : Int, z39 = (if x24 ≠ x22 then 0 else 1) → Rn w mX0_join (d + 1) G Q 146 [] [vi z39, vr 47] (B0, n23) := by
    intro z39 ez39
    have V := V z39 ez39
    refine r_callV (args := [vi z39]) dX0_join_146 kX0_111 ob_47 ⟨_, _, rfl⟩ (by decide) rfl rfl (Nat.le_of_ble_eq_true rfl) cap0 (Ev.mono V ?_)
    rintro r h' ⟨n40, rfl, rfl, V⟩
    show Rn w mX0_join (d + 1) G Q 149 [] [] (B0, n40)
    exact r_ret dX0_join_149 rfl V
  refine r_lne dX0_join_137 rfl dX0_join_138 (tgt := 145) (by decide) (fun c38 => ?_) (fun c38 => ?_)
  · refine r_iconst (x := 0) dX0_join_145 rfl (by decide) ?_
    refine r_pick [] (ls' := []) rfl ?_
    exact K 0 (by first | rfl | (simp only [if_pos c38]))
  · refine r_iconst (x := 1) dX0_join_141 rfl (by decide) ?_
    refine r_goto (tgt := 146) dX0_join_142 (by decide) ?_
    refine r_pick [] (ls' := []) rfl ?_
    exact K 1 (by first | rfl | (simp only [if_neg (show ¬ (x24 ≠ x22) from not_not_intro c38)]))

theorem gX0_divide_0 {w : WD} {d : Nat} {G : GM} {Q : Option AV → Hp → Prop} {n : NM} {x1 x3 : Int}
    (V :
    ((x3 ≠ 0 →
      (0 ≤ x1) ∧
      (0 < x3) ∧
      (Ev w d 0 0 mX0_keep [vr 47, vl (x1 / x3)] (B0, n) (fun r h' => ∃ n24 : NM, r = none ∧ h' = (B0, n24) ∧ 
        Q none (B0, n24)))) ∧
    (x3 = 0 →
      Q none (B0, upn n 47 2 1)))) :
    Rn w mX0_divide (d + 1) G Q 0 [(0, vr 47), (1, vl x1), (3, vl x3)] [] (B0, n) := by
  refine r_lload_n dX0_divide_0 rfl rfl ?_
  refine r_lconst (x := 0) dX0_divide_1 rfl (by decide) ?_
  obtain ⟨V1, V2⟩ := V
  refine r_lne dX0_divide_2 rfl dX0_divide_3 (tgt := 14) (by decide) (fun c21 => ?_) (fun c21 => ?_)
  · have V := V1 c21
    refine r_aload_n dX0_divide_14 rfl rfl ?_
    refine r_lload_n dX0_divide_15 rfl rfl ?_
    refine r_lload_n dX0_divide_16 rfl rfl ?_
    obtain ⟨s22, V⟩ := V
    obtain ⟨s23, V⟩ := V
    refine r_ldiv dX0_divide_17 s22 s23 ?_
    refine r_callV (args := [vl (x1 / x3)]) dX0_divide_18 kX0_131 ob_47 ⟨_, _, rfl⟩ (by decide) rfl rfl (Nat.le_of_ble_eq_true rfl) cap0 (Ev.mono V ?_)
    rintro r h' ⟨n24, rfl, rfl, V⟩
    show Rn w mX0_divide (d + 1) G Q 21 [(0, vr 47), (1, vl x1), (3, vl x3)] [] (B0, n24)
    exact r_ret dX0_divide_21 rfl V
  · have V := V2 c21
    refine r_aload_n dX0_divide_6 rfl rfl ?_
    refine r_iconst (x := 1) dX0_divide_7 rfl (by decide) ?_
    refine r_putZ (fi := 2) (h' := (B0, upn n 47 2 1)) dX0_divide_8 pX0_19 ob_47 (by decide) rfl rfl (by decide) rfl ?_
    refine r_goto (tgt := 21) dX0_divide_11 (by decide) ?_
    exact r_ret dX0_divide_21 rfl V

theorem gX0_keep_0 {w : WD} {d : Nat} {G : GM} {Q : Option AV → Hp → Prop} {n : NM} {x1 : Int}
    (V :
    ((1000000000 < x1 →
      Q none (B0, upn n 47 2 1)) ∧
    (x1 ≤ 1000000000 →
      (((-1000000000) ≤ x1 →
        (inI (x1)) ∧
        (Ev w d 0 0 mX0_push [vr 47, vi x1] (B0, n) (fun r h' => ∃ n24 : NM, r = none ∧ h' = (B0, n24) ∧ 
          Q none (B0, n24)))) ∧
      (x1 < (-1000000000) →
        Q none (B0, upn n 47 2 1)))))) :
    Rn w mX0_keep (d + 1) G Q 0 [(0, vr 47), (1, vl x1)] [] (B0, n) := by
  refine r_lload_n dX0_keep_0 rfl rfl ?_
  refine r_ldc2 (x := 1000000000) dX0_keep_1 qX0_139 (by decide) ?_
  obtain ⟨V1, V2⟩ := V
  refine r_lgt dX0_keep_4 rfl dX0_keep_5 (tgt := 16) (by decide) (fun c21 => ?_) (fun c21 => ?_)
  · have V := V1 c21
    refine r_aload_n dX0_keep_16 rfl rfl ?_
    refine r_iconst (x := 1) dX0_keep_17 rfl (by decide) ?_
    refine r_putZ (fi := 2) (h' := (B0, upn n 47 2 1)) dX0_keep_18 pX0_19 ob_47 (by decide) rfl rfl (by decide) rfl ?_
    refine r_goto (tgt := 30) dX0_keep_21 (by decide) ?_
    exact r_ret dX0_keep_30 rfl V
  · have V := V2 c21
    refine r_lload_n dX0_keep_8 rfl rfl ?_
    refine r_ldc2 (x := -1000000000) dX0_keep_9 qX0_141 (by decide) ?_
    obtain ⟨V1, V2⟩ := V
    refine r_lge dX0_keep_12 rfl dX0_keep_13 (tgt := 24) (by decide) (fun c22 => ?_) (fun c22 => ?_)
    · have V := V1 c22
      refine r_aload_n dX0_keep_24 rfl rfl ?_
      refine r_lload_n dX0_keep_25 rfl rfl ?_
      obtain ⟨s23, V⟩ := V
      refine r_l2i dX0_keep_26 s23 ?_
      refine r_callV (args := [vi x1]) dX0_keep_27 kX0_111 ob_47 ⟨_, _, rfl⟩ (by decide) rfl rfl (Nat.le_of_ble_eq_true rfl) cap0 (Ev.mono V ?_)
      rintro r h' ⟨n24, rfl, rfl, V⟩
      show Rn w mX0_keep (d + 1) G Q 30 [(0, vr 47), (1, vl x1)] [] (B0, n24)
      exact r_ret dX0_keep_30 rfl V
    · have V := V2 c22
      refine r_aload_n dX0_keep_16 rfl rfl ?_
      refine r_iconst (x := 1) dX0_keep_17 rfl (by decide) ?_
      refine r_putZ (fi := 2) (h' := (B0, upn n 47 2 1)) dX0_keep_18 pX0_19 ob_47 (by decide) rfl rfl (by decide) rfl ?_
      refine r_goto (tgt := 30) dX0_keep_21 (by decide) ?_
      exact r_ret dX0_keep_30 rfl V
theorem gX1_copyFrom_81_1_0 {w : WD} {d : Nat} {G : GM} {Q : Option AV → Hp → Prop} {n : NM}
    (V :
    (Ev w d 0 0 mX7_copyFrom [vr 82, vr 2] (B0, n) (fun r h' => ∃ n21 : NM, r = none ∧ h' = (B0, n21) ∧ 
      (Ev w d 0 0 mX7_copyFrom [vr 84, vr 4] (B0, n21) (fun r h' => ∃ n22 : NM, r = none ∧ h' = (B0, n22) ∧ 
        (Ev w d 0 0 mX7_copyFrom [vr 86, vr 6] (B0, n22) (fun r h' => ∃ n23 : NM, r = none ∧ h' = (B0, n23) ∧ 
          (Ev w d 0 0 mX7_copyFrom [vr 88, vr 8] (B0, n23) (fun r h' => ∃ n24 : NM, r = none ∧ h' = (B0, n24) ∧ 
            (Ev w d 0 0 mX7_copyFrom [vr 90, vr 10] (B0, n24) (fun r h' => ∃ n25 : NM, r = none ∧ h' = (B0, n25) ∧ 
              (Ev w d 0 0 mX7_copyFrom [vr 92, vr 12] (B0, n25) (fun r h' => ∃ n26 : NM, r = none ∧ h' = (B0, n26) ∧ 
                (Ev w d 0 0 mX7_copyFrom [vr 94, vr 14] (B0, n26) (fun r h' => ∃ n27 : NM, r = none ∧ h' = (B0, n27) ∧ 
                  (Ev w d 0 0 mX2_copyFrom [vr 96, vr 16] (B0, n27) (fun r h' => ∃ n28 : NM, r = none ∧ h' = (B0, n28) ∧ 
                    (Ev w d 0 0 mX7_copyFrom [vr 101, vr 21] (B0, n28) (fun r h' => ∃ n29 : NM, r = none ∧ h' = (B0, n29) ∧ 
                      (Ev w d 0 0 mX7_copyFrom [vr 103, vr 23] (B0, n29) (fun r h' => ∃ n30 : NM, r = none ∧ h' = (B0, n30) ∧ 
                        (Ev w d 0 0 mX7_copyFrom [vr 105, vr 25] (B0, n30) (fun r h' => ∃ n31 : NM, r = none ∧ h' = (B0, n31) ∧ 
                          (Ev w d 0 0 mX7_copyFrom [vr 107, vr 27] (B0, n31) (fun r h' => ∃ n32 : NM, r = none ∧ h' = (B0, n32) ∧ 
                            (Ev w d 0 0 mX7_copyFrom [vr 109, vr 29] (B0, n32) (fun r h' => ∃ n33 : NM, r = none ∧ h' = (B0, n33) ∧ 
                              (Ev w d 0 0 mX7_copyFrom [vr 111, vr 31] (B0, n33) (fun r h' => ∃ n34 : NM, r = none ∧ h' = (B0, n34) ∧ 
                                Q none (B0, n34)))))))))))))))))))))))))))))) :
    Rn w mX1_copyFrom (d + 1) G Q 0 [(0, vr 81), (1, vr 1)] [] (B0, n) := by
  refine r_aload_n dX1_copyFrom_0 rfl rfl ?_
  refine r_getR (b := 82) dX1_copyFrom_1 fX1_14 ob_81 (by decide) rfl rfl ?_
  refine r_aload_n dX1_copyFrom_4 rfl rfl ?_
  refine r_getR (b := 2) dX1_copyFrom_5 fX1_14 ob_1 (by decide) rfl rfl ?_
  refine r_callV (args := [vr 2]) dX1_copyFrom_8 kX1_70 ob_82 ⟨_, _, rfl⟩ (by decide) rfl rfl (Nat.le_of_ble_eq_true rfl) cap0 (Ev.mono V ?_)
  rintro r h' ⟨n21, rfl, rfl, V⟩
  show Rn w mX1_copyFrom (d + 1) G Q 11 [(0, vr 81), (1, vr 1)] [] (B0, n21)
  refine r_aload_n dX1_copyFrom_11 rfl rfl ?_
  refine r_getR (b := 84) dX1_copyFrom_12 fX1_20 ob_81 (by decide) rfl rfl ?_
  refine r_aload_n dX1_copyFrom_15 rfl rfl ?_
  refine r_getR (b := 4) dX1_copyFrom_16 fX1_20 ob_1 (by decide) rfl rfl ?_
  refine r_callV (args := [vr 4]) dX1_copyFrom_19 kX1_70 ob_84 ⟨_, _, rfl⟩ (by decide) rfl rfl (Nat.le_of_ble_eq_true rfl) cap0 (Ev.mono V ?_)
  rintro r h' ⟨n22, rfl, rfl, V⟩
  show Rn w mX1_copyFrom (d + 1) G Q 22 [(0, vr 81), (1, vr 1)] [] (B0, n22)
  refine r_aload_n dX1_copyFrom_22 rfl rfl ?_
  refine r_getR (b := 86) dX1_copyFrom_23 fX1_23 ob_81 (by decide) rfl rfl ?_
  refine r_aload_n dX1_copyFrom_26 rfl rfl ?_
  refine r_getR (b := 6) dX1_copyFrom_27 fX1_23 ob_1 (by decide) rfl rfl ?_
  refine r_callV (args := [vr 6]) dX1_copyFrom_30 kX1_70 ob_86 ⟨_, _, rfl⟩ (by decide) rfl rfl (Nat.le_of_ble_eq_true rfl) cap0 (Ev.mono V ?_)
  rintro r h' ⟨n23, rfl, rfl, V⟩
  show Rn w mX1_copyFrom (d + 1) G Q 33 [(0, vr 81), (1, vr 1)] [] (B0, n23)
  refine r_aload_n dX1_copyFrom_33 rfl rfl ?_
  refine r_getR (b := 88) dX1_copyFrom_34 fX1_26 ob_81 (by decide) rfl rfl ?_
  refine r_aload_n dX1_copyFrom_37 rfl rfl ?_
  refine r_getR (b := 8) dX1_copyFrom_38 fX1_26 ob_1 (by decide) rfl rfl ?_
  refine r_callV (args := [vr 8]) dX1_copyFrom_41 kX1_70 ob_88 ⟨_, _, rfl⟩ (by decide) rfl rfl (Nat.le_of_ble_eq_true rfl) cap0 (Ev.mono V ?_)
  rintro r h' ⟨n24, rfl, rfl, V⟩
  show Rn w mX1_copyFrom (d + 1) G Q 44 [(0, vr 81), (1, vr 1)] [] (B0, n24)
  refine r_aload_n dX1_copyFrom_44 rfl rfl ?_
  refine r_getR (b := 90) dX1_copyFrom_45 fX1_29 ob_81 (by decide) rfl rfl ?_
  refine r_aload_n dX1_copyFrom_48 rfl rfl ?_
  refine r_getR (b := 10) dX1_copyFrom_49 fX1_29 ob_1 (by decide) rfl rfl ?_
  refine r_callV (args := [vr 10]) dX1_copyFrom_52 kX1_70 ob_90 ⟨_, _, rfl⟩ (by decide) rfl rfl (Nat.le_of_ble_eq_true rfl) cap0 (Ev.mono V ?_)
  rintro r h' ⟨n25, rfl, rfl, V⟩
  show Rn w mX1_copyFrom (d + 1) G Q 55 [(0, vr 81), (1, vr 1)] [] (B0, n25)
  refine r_aload_n dX1_copyFrom_55 rfl rfl ?_
  refine r_getR (b := 92) dX1_copyFrom_56 fX1_32 ob_81 (by decide) rfl rfl ?_
  refine r_aload_n dX1_copyFrom_59 rfl rfl ?_
  refine r_getR (b := 12) dX1_copyFrom_60 fX1_32 ob_1 (by decide) rfl rfl ?_
  refine r_callV (args := [vr 12]) dX1_copyFrom_63 kX1_70 ob_92 ⟨_, _, rfl⟩ (by decide) rfl rfl (Nat.le_of_ble_eq_true rfl) cap0 (Ev.mono V ?_)
  rintro r h' ⟨n26, rfl, rfl, V⟩
  show Rn w mX1_copyFrom (d + 1) G Q 66 [(0, vr 81), (1, vr 1)] [] (B0, n26)
  refine r_aload_n dX1_copyFrom_66 rfl rfl ?_
  refine r_getR (b := 94) dX1_copyFrom_67 fX1_35 ob_81 (by decide) rfl rfl ?_
  refine r_aload_n dX1_copyFrom_70 rfl rfl ?_
  refine r_getR (b := 14) dX1_copyFrom_71 fX1_35 ob_1 (by decide) rfl rfl ?_
  refine r_callV (args := [vr 14]) dX1_copyFrom_74 kX1_70 ob_94 ⟨_, _, rfl⟩ (by decide) rfl rfl (Nat.le_of_ble_eq_true rfl) cap0 (Ev.mono V ?_)
  rintro r h' ⟨n27, rfl, rfl, V⟩
  show Rn w mX1_copyFrom (d + 1) G Q 77 [(0, vr 81), (1, vr 1)] [] (B0, n27)
  refine r_aload_n dX1_copyFrom_77 rfl rfl ?_
  refine r_getR (b := 96) dX1_copyFrom_78 fX1_41 ob_81 (by decide) rfl rfl ?_
  refine r_aload_n dX1_copyFrom_81 rfl rfl ?_
  refine r_getR (b := 16) dX1_copyFrom_82 fX1_41 ob_1 (by decide) rfl rfl ?_
  refine r_callV (args := [vr 16]) dX1_copyFrom_85 kX1_74 ob_96 ⟨_, _, rfl⟩ (by decide) rfl rfl (Nat.le_of_ble_eq_true rfl) cap0 (Ev.mono V ?_)
  rintro r h' ⟨n28, rfl, rfl, V⟩
  show Rn w mX1_copyFrom (d + 1) G Q 88 [(0, vr 81), (1, vr 1)] [] (B0, n28)
  refine r_aload_n dX1_copyFrom_88 rfl rfl ?_
  refine r_getR (b := 101) dX1_copyFrom_89 fX1_45 ob_81 (by decide) rfl rfl ?_
  refine r_aload_n dX1_copyFrom_92 rfl rfl ?_
  refine r_getR (b := 21) dX1_copyFrom_93 fX1_45 ob_1 (by decide) rfl rfl ?_
  refine r_callV (args := [vr 21]) dX1_copyFrom_96 kX1_70 ob_101 ⟨_, _, rfl⟩ (by decide) rfl rfl (Nat.le_of_ble_eq_true rfl) cap0 (Ev.mono V ?_)
  rintro r h' ⟨n29, rfl, rfl, V⟩
  show Rn w mX1_copyFrom (d + 1) G Q 99 [(0, vr 81), (1, vr 1)] [] (B0, n29)
  refine r_aload_n dX1_copyFrom_99 rfl rfl ?_
  refine r_getR (b := 103) dX1_copyFrom_100 fX1_48 ob_81 (by decide) rfl rfl ?_
  refine r_aload_n dX1_copyFrom_103 rfl rfl ?_
  refine r_getR (b := 23) dX1_copyFrom_104 fX1_48 ob_1 (by decide) rfl rfl ?_
  refine r_callV (args := [vr 23]) dX1_copyFrom_107 kX1_70 ob_103 ⟨_, _, rfl⟩ (by decide) rfl rfl (Nat.le_of_ble_eq_true rfl) cap0 (Ev.mono V ?_)
  rintro r h' ⟨n30, rfl, rfl, V⟩
  show Rn w mX1_copyFrom (d + 1) G Q 110 [(0, vr 81), (1, vr 1)] [] (B0, n30)
  refine r_aload_n dX1_copyFrom_110 rfl rfl ?_
  refine r_getR (b := 105) dX1_copyFrom_111 fX1_51 ob_81 (by decide) rfl rfl ?_
  refine r_aload_n dX1_copyFrom_114 rfl rfl ?_
  refine r_getR (b := 25) dX1_copyFrom_115 fX1_51 ob_1 (by decide) rfl rfl ?_
  refine r_callV (args := [vr 25]) dX1_copyFrom_118 kX1_70 ob_105 ⟨_, _, rfl⟩ (by decide) rfl rfl (Nat.le_of_ble_eq_true rfl) cap0 (Ev.mono V ?_)
  rintro r h' ⟨n31, rfl, rfl, V⟩
  show Rn w mX1_copyFrom (d + 1) G Q 121 [(0, vr 81), (1, vr 1)] [] (B0, n31)
  refine r_aload_n dX1_copyFrom_121 rfl rfl ?_
  refine r_getR (b := 107) dX1_copyFrom_122 fX1_54 ob_81 (by decide) rfl rfl ?_
  refine r_aload_n dX1_copyFrom_125 rfl rfl ?_
  refine r_getR (b := 27) dX1_copyFrom_126 fX1_54 ob_1 (by decide) rfl rfl ?_
  refine r_callV (args := [vr 27]) dX1_copyFrom_129 kX1_70 ob_107 ⟨_, _, rfl⟩ (by decide) rfl rfl (Nat.le_of_ble_eq_true rfl) cap0 (Ev.mono V ?_)
  rintro r h' ⟨n32, rfl, rfl, V⟩
  show Rn w mX1_copyFrom (d + 1) G Q 132 [(0, vr 81), (1, vr 1)] [] (B0, n32)
  refine r_aload_n dX1_copyFrom_132 rfl rfl ?_
  refine r_getR (b := 109) dX1_copyFrom_133 fX1_57 ob_81 (by decide) rfl rfl ?_
  refine r_aload_n dX1_copyFrom_136 rfl rfl ?_
  refine r_getR (b := 29) dX1_copyFrom_137 fX1_57 ob_1 (by decide) rfl rfl ?_
  refine r_callV (args := [vr 29]) dX1_copyFrom_140 kX1_70 ob_109 ⟨_, _, rfl⟩ (by decide) rfl rfl (Nat.le_of_ble_eq_true rfl) cap0 (Ev.mono V ?_)
  rintro r h' ⟨n33, rfl, rfl, V⟩
  show Rn w mX1_copyFrom (d + 1) G Q 143 [(0, vr 81), (1, vr 1)] [] (B0, n33)
  refine r_aload_n dX1_copyFrom_143 rfl rfl ?_
  refine r_getR (b := 111) dX1_copyFrom_144 fX1_60 ob_81 (by decide) rfl rfl ?_
  refine r_aload_n dX1_copyFrom_147 rfl rfl ?_
  refine r_getR (b := 31) dX1_copyFrom_148 fX1_60 ob_1 (by decide) rfl rfl ?_
  refine r_callV (args := [vr 31]) dX1_copyFrom_151 kX1_70 ob_111 ⟨_, _, rfl⟩ (by decide) rfl rfl (Nat.le_of_ble_eq_true rfl) cap0 (Ev.mono V ?_)
  rintro r h' ⟨n34, rfl, rfl, V⟩
  show Rn w mX1_copyFrom (d + 1) G Q 154 [(0, vr 81), (1, vr 1)] [] (B0, n34)
  exact r_ret dX1_copyFrom_154 rfl V

theorem gX1_copyFrom_113_1_0 {w : WD} {d : Nat} {G : GM} {Q : Option AV → Hp → Prop} {n : NM}
    (V :
    (Ev w d 0 0 mX7_copyFrom [vr 114, vr 2] (B0, n) (fun r h' => ∃ n21 : NM, r = none ∧ h' = (B0, n21) ∧ 
      (Ev w d 0 0 mX7_copyFrom [vr 116, vr 4] (B0, n21) (fun r h' => ∃ n22 : NM, r = none ∧ h' = (B0, n22) ∧ 
        (Ev w d 0 0 mX7_copyFrom [vr 118, vr 6] (B0, n22) (fun r h' => ∃ n23 : NM, r = none ∧ h' = (B0, n23) ∧ 
          (Ev w d 0 0 mX7_copyFrom [vr 120, vr 8] (B0, n23) (fun r h' => ∃ n24 : NM, r = none ∧ h' = (B0, n24) ∧ 
            (Ev w d 0 0 mX7_copyFrom [vr 122, vr 10] (B0, n24) (fun r h' => ∃ n25 : NM, r = none ∧ h' = (B0, n25) ∧ 
              (Ev w d 0 0 mX7_copyFrom [vr 124, vr 12] (B0, n25) (fun r h' => ∃ n26 : NM, r = none ∧ h' = (B0, n26) ∧ 
                (Ev w d 0 0 mX7_copyFrom [vr 126, vr 14] (B0, n26) (fun r h' => ∃ n27 : NM, r = none ∧ h' = (B0, n27) ∧ 
                  (Ev w d 0 0 mX2_copyFrom [vr 128, vr 16] (B0, n27) (fun r h' => ∃ n28 : NM, r = none ∧ h' = (B0, n28) ∧ 
                    (Ev w d 0 0 mX7_copyFrom [vr 133, vr 21] (B0, n28) (fun r h' => ∃ n29 : NM, r = none ∧ h' = (B0, n29) ∧ 
                      (Ev w d 0 0 mX7_copyFrom [vr 135, vr 23] (B0, n29) (fun r h' => ∃ n30 : NM, r = none ∧ h' = (B0, n30) ∧ 
                        (Ev w d 0 0 mX7_copyFrom [vr 137, vr 25] (B0, n30) (fun r h' => ∃ n31 : NM, r = none ∧ h' = (B0, n31) ∧ 
                          (Ev w d 0 0 mX7_copyFrom [vr 139, vr 27] (B0, n31) (fun r h' => ∃ n32 : NM, r = none ∧ h' = (B0, n32) ∧ 
                            (Ev w d 0 0 mX7_copyFrom [vr 141, vr 29] (B0, n32) (fun r h' => ∃ n33 : NM, r = none ∧ h' = (B0, n33) ∧ 
                              (Ev w d 0 0 mX7_copyFrom [vr 143, vr 31] (B0, n33) (fun r h' => ∃ n34 : NM, r = none ∧ h' = (B0, n34) ∧ 
                                Q none (B0, n34)))))))))))))))))))))))))))))) :
    Rn w mX1_copyFrom (d + 1) G Q 0 [(0, vr 113), (1, vr 1)] [] (B0, n) := by
  refine r_aload_n dX1_copyFrom_0 rfl rfl ?_
  refine r_getR (b := 114) dX1_copyFrom_1 fX1_14 ob_113 (by decide) rfl rfl ?_
  refine r_aload_n dX1_copyFrom_4 rfl rfl ?_
  refine r_getR (b := 2) dX1_copyFrom_5 fX1_14 ob_1 (by decide) rfl rfl ?_
  refine r_callV (args := [vr 2]) dX1_copyFrom_8 kX1_70 ob_114 ⟨_, _, rfl⟩ (by decide) rfl rfl (Nat.le_of_ble_eq_true rfl) cap0 (Ev.mono V ?_)
  rintro r h' ⟨n21, rfl, rfl, V⟩
  show Rn w mX1_copyFrom (d + 1) G Q 11 [(0, vr 113), (1, vr 1)] [] (B0, n21)
  refine r_aload_n dX1_copyFrom_11 rfl rfl ?_
  refine r_getR (b := 116) dX1_copyFrom_12 fX1_20 ob_113 (by decide) rfl rfl ?_
  refine r_aload_n dX1_copyFrom_15 rfl rfl ?_
  refine r_getR (b := 4) dX1_copyFrom_16 fX1_20 ob_1 (by decide) rfl rfl ?_
  refine r_callV (args := [vr 4]) dX1_copyFrom_19 kX1_70 ob_116 ⟨_, _, rfl⟩ (by decide) rfl rfl (Nat.le_of_ble_eq_true rfl) cap0 (Ev.mono V ?_)
  rintro r h' ⟨n22, rfl, rfl, V⟩
  show Rn w mX1_copyFrom (d + 1) G Q 22 [(0, vr 113), (1, vr 1)] [] (B0, n22)
  refine r_aload_n dX1_copyFrom_22 rfl rfl ?_
  refine r_getR (b := 118) dX1_copyFrom_23 fX1_23 ob_113 (by decide) rfl rfl ?_
  refine r_aload_n dX1_copyFrom_26 rfl rfl ?_
  refine r_getR (b := 6) dX1_copyFrom_27 fX1_23 ob_1 (by decide) rfl rfl ?_
  refine r_callV (args := [vr 6]) dX1_copyFrom_30 kX1_70 ob_118 ⟨_, _, rfl⟩ (by decide) rfl rfl (Nat.le_of_ble_eq_true rfl) cap0 (Ev.mono V ?_)
  rintro r h' ⟨n23, rfl, rfl, V⟩
  show Rn w mX1_copyFrom (d + 1) G Q 33 [(0, vr 113), (1, vr 1)] [] (B0, n23)
  refine r_aload_n dX1_copyFrom_33 rfl rfl ?_
  refine r_getR (b := 120) dX1_copyFrom_34 fX1_26 ob_113 (by decide) rfl rfl ?_
  refine r_aload_n dX1_copyFrom_37 rfl rfl ?_
  refine r_getR (b := 8) dX1_copyFrom_38 fX1_26 ob_1 (by decide) rfl rfl ?_
  refine r_callV (args := [vr 8]) dX1_copyFrom_41 kX1_70 ob_120 ⟨_, _, rfl⟩ (by decide) rfl rfl (Nat.le_of_ble_eq_true rfl) cap0 (Ev.mono V ?_)
  rintro r h' ⟨n24, rfl, rfl, V⟩
  show Rn w mX1_copyFrom (d + 1) G Q 44 [(0, vr 113), (1, vr 1)] [] (B0, n24)
  refine r_aload_n dX1_copyFrom_44 rfl rfl ?_
  refine r_getR (b := 122) dX1_copyFrom_45 fX1_29 ob_113 (by decide) rfl rfl ?_
  refine r_aload_n dX1_copyFrom_48 rfl rfl ?_
  refine r_getR (b := 10) dX1_copyFrom_49 fX1_29 ob_1 (by decide) rfl rfl ?_
  refine r_callV (args := [vr 10]) dX1_copyFrom_52 kX1_70 ob_122 ⟨_, _, rfl⟩ (by decide) rfl rfl (Nat.le_of_ble_eq_true rfl) cap0 (Ev.mono V ?_)
  rintro r h' ⟨n25, rfl, rfl, V⟩
  show Rn w mX1_copyFrom (d + 1) G Q 55 [(0, vr 113), (1, vr 1)] [] (B0, n25)
  refine r_aload_n dX1_copyFrom_55 rfl rfl ?_
  refine r_getR (b := 124) dX1_copyFrom_56 fX1_32 ob_113 (by decide) rfl rfl ?_
  refine r_aload_n dX1_copyFrom_59 rfl rfl ?_
  refine r_getR (b := 12) dX1_copyFrom_60 fX1_32 ob_1 (by decide) rfl rfl ?_
  refine r_callV (args := [vr 12]) dX1_copyFrom_63 kX1_70 ob_124 ⟨_, _, rfl⟩ (by decide) rfl rfl (Nat.le_of_ble_eq_true rfl) cap0 (Ev.mono V ?_)
  rintro r h' ⟨n26, rfl, rfl, V⟩
  show Rn w mX1_copyFrom (d + 1) G Q 66 [(0, vr 113), (1, vr 1)] [] (B0, n26)
  refine r_aload_n dX1_copyFrom_66 rfl rfl ?_
  refine r_getR (b := 126) dX1_copyFrom_67 fX1_35 ob_113 (by decide) rfl rfl ?_
  refine r_aload_n dX1_copyFrom_70 rfl rfl ?_
  refine r_getR (b := 14) dX1_copyFrom_71 fX1_35 ob_1 (by decide) rfl rfl ?_
  refine r_callV (args := [vr 14]) dX1_copyFrom_74 kX1_70 ob_126 ⟨_, _, rfl⟩ (by decide) rfl rfl (Nat.le_of_ble_eq_true rfl) cap0 (Ev.mono V ?_)
  rintro r h' ⟨n27, rfl, rfl, V⟩
  show Rn w mX1_copyFrom (d + 1) G Q 77 [(0, vr 113), (1, vr 1)] [] (B0, n27)
  refine r_aload_n dX1_copyFrom_77 rfl rfl ?_
  refine r_getR (b := 128) dX1_copyFrom_78 fX1_41 ob_113 (by decide) rfl rfl ?_
  refine r_aload_n dX1_copyFrom_81 rfl rfl ?_
  refine r_getR (b := 16) dX1_copyFrom_82 fX1_41 ob_1 (by decide) rfl rfl ?_
  refine r_callV (args := [vr 16]) dX1_copyFrom_85 kX1_74 ob_128 ⟨_, _, rfl⟩ (by decide) rfl rfl (Nat.le_of_ble_eq_true rfl) cap0 (Ev.mono V ?_)
  rintro r h' ⟨n28, rfl, rfl, V⟩
  show Rn w mX1_copyFrom (d + 1) G Q 88 [(0, vr 113), (1, vr 1)] [] (B0, n28)
  refine r_aload_n dX1_copyFrom_88 rfl rfl ?_
  refine r_getR (b := 133) dX1_copyFrom_89 fX1_45 ob_113 (by decide) rfl rfl ?_
  refine r_aload_n dX1_copyFrom_92 rfl rfl ?_
  refine r_getR (b := 21) dX1_copyFrom_93 fX1_45 ob_1 (by decide) rfl rfl ?_
  refine r_callV (args := [vr 21]) dX1_copyFrom_96 kX1_70 ob_133 ⟨_, _, rfl⟩ (by decide) rfl rfl (Nat.le_of_ble_eq_true rfl) cap0 (Ev.mono V ?_)
  rintro r h' ⟨n29, rfl, rfl, V⟩
  show Rn w mX1_copyFrom (d + 1) G Q 99 [(0, vr 113), (1, vr 1)] [] (B0, n29)
  refine r_aload_n dX1_copyFrom_99 rfl rfl ?_
  refine r_getR (b := 135) dX1_copyFrom_100 fX1_48 ob_113 (by decide) rfl rfl ?_
  refine r_aload_n dX1_copyFrom_103 rfl rfl ?_
  refine r_getR (b := 23) dX1_copyFrom_104 fX1_48 ob_1 (by decide) rfl rfl ?_
  refine r_callV (args := [vr 23]) dX1_copyFrom_107 kX1_70 ob_135 ⟨_, _, rfl⟩ (by decide) rfl rfl (Nat.le_of_ble_eq_true rfl) cap0 (Ev.mono V ?_)
  rintro r h' ⟨n30, rfl, rfl, V⟩
  show Rn w mX1_copyFrom (d + 1) G Q 110 [(0, vr 113), (1, vr 1)] [] (B0, n30)
  refine r_aload_n dX1_copyFrom_110 rfl rfl ?_
  refine r_getR (b := 137) dX1_copyFrom_111 fX1_51 ob_113 (by decide) rfl rfl ?_
  refine r_aload_n dX1_copyFrom_114 rfl rfl ?_
  refine r_getR (b := 25) dX1_copyFrom_115 fX1_51 ob_1 (by decide) rfl rfl ?_
  refine r_callV (args := [vr 25]) dX1_copyFrom_118 kX1_70 ob_137 ⟨_, _, rfl⟩ (by decide) rfl rfl (Nat.le_of_ble_eq_true rfl) cap0 (Ev.mono V ?_)
  rintro r h' ⟨n31, rfl, rfl, V⟩
  show Rn w mX1_copyFrom (d + 1) G Q 121 [(0, vr 113), (1, vr 1)] [] (B0, n31)
  refine r_aload_n dX1_copyFrom_121 rfl rfl ?_
  refine r_getR (b := 139) dX1_copyFrom_122 fX1_54 ob_113 (by decide) rfl rfl ?_
  refine r_aload_n dX1_copyFrom_125 rfl rfl ?_
  refine r_getR (b := 27) dX1_copyFrom_126 fX1_54 ob_1 (by decide) rfl rfl ?_
  refine r_callV (args := [vr 27]) dX1_copyFrom_129 kX1_70 ob_139 ⟨_, _, rfl⟩ (by decide) rfl rfl (Nat.le_of_ble_eq_true rfl) cap0 (Ev.mono V ?_)
  rintro r h' ⟨n32, rfl, rfl, V⟩
  show Rn w mX1_copyFrom (d + 1) G Q 132 [(0, vr 113), (1, vr 1)] [] (B0, n32)
  refine r_aload_n dX1_copyFrom_132 rfl rfl ?_
  refine r_getR (b := 141) dX1_copyFrom_133 fX1_57 ob_113 (by decide) rfl rfl ?_
  refine r_aload_n dX1_copyFrom_136 rfl rfl ?_
  refine r_getR (b := 29) dX1_copyFrom_137 fX1_57 ob_1 (by decide) rfl rfl ?_
  refine r_callV (args := [vr 29]) dX1_copyFrom_140 kX1_70 ob_141 ⟨_, _, rfl⟩ (by decide) rfl rfl (Nat.le_of_ble_eq_true rfl) cap0 (Ev.mono V ?_)
  rintro r h' ⟨n33, rfl, rfl, V⟩
  show Rn w mX1_copyFrom (d + 1) G Q 143 [(0, vr 113), (1, vr 1)] [] (B0, n33)
  refine r_aload_n dX1_copyFrom_143 rfl rfl ?_
  refine r_getR (b := 143) dX1_copyFrom_144 fX1_60 ob_113 (by decide) rfl rfl ?_
  refine r_aload_n dX1_copyFrom_147 rfl rfl ?_
  refine r_getR (b := 31) dX1_copyFrom_148 fX1_60 ob_1 (by decide) rfl rfl ?_
  refine r_callV (args := [vr 31]) dX1_copyFrom_151 kX1_70 ob_143 ⟨_, _, rfl⟩ (by decide) rfl rfl (Nat.le_of_ble_eq_true rfl) cap0 (Ev.mono V ?_)
  rintro r h' ⟨n34, rfl, rfl, V⟩
  show Rn w mX1_copyFrom (d + 1) G Q 154 [(0, vr 113), (1, vr 1)] [] (B0, n34)
  exact r_ret dX1_copyFrom_154 rfl V

theorem gX1_copyFrom_1_81_0 {w : WD} {d : Nat} {G : GM} {Q : Option AV → Hp → Prop} {n : NM}
    (V :
    (Ev w d 0 0 mX7_copyFrom [vr 2, vr 82] (B0, n) (fun r h' => ∃ n21 : NM, r = none ∧ h' = (B0, n21) ∧ 
      (Ev w d 0 0 mX7_copyFrom [vr 4, vr 84] (B0, n21) (fun r h' => ∃ n22 : NM, r = none ∧ h' = (B0, n22) ∧ 
        (Ev w d 0 0 mX7_copyFrom [vr 6, vr 86] (B0, n22) (fun r h' => ∃ n23 : NM, r = none ∧ h' = (B0, n23) ∧ 
          (Ev w d 0 0 mX7_copyFrom [vr 8, vr 88] (B0, n23) (fun r h' => ∃ n24 : NM, r = none ∧ h' = (B0, n24) ∧ 
            (Ev w d 0 0 mX7_copyFrom [vr 10, vr 90] (B0, n24) (fun r h' => ∃ n25 : NM, r = none ∧ h' = (B0, n25) ∧ 
              (Ev w d 0 0 mX7_copyFrom [vr 12, vr 92] (B0, n25) (fun r h' => ∃ n26 : NM, r = none ∧ h' = (B0, n26) ∧ 
                (Ev w d 0 0 mX7_copyFrom [vr 14, vr 94] (B0, n26) (fun r h' => ∃ n27 : NM, r = none ∧ h' = (B0, n27) ∧ 
                  (Ev w d 0 0 mX2_copyFrom [vr 16, vr 96] (B0, n27) (fun r h' => ∃ n28 : NM, r = none ∧ h' = (B0, n28) ∧ 
                    (Ev w d 0 0 mX7_copyFrom [vr 21, vr 101] (B0, n28) (fun r h' => ∃ n29 : NM, r = none ∧ h' = (B0, n29) ∧ 
                      (Ev w d 0 0 mX7_copyFrom [vr 23, vr 103] (B0, n29) (fun r h' => ∃ n30 : NM, r = none ∧ h' = (B0, n30) ∧ 
                        (Ev w d 0 0 mX7_copyFrom [vr 25, vr 105] (B0, n30) (fun r h' => ∃ n31 : NM, r = none ∧ h' = (B0, n31) ∧ 
                          (Ev w d 0 0 mX7_copyFrom [vr 27, vr 107] (B0, n31) (fun r h' => ∃ n32 : NM, r = none ∧ h' = (B0, n32) ∧ 
                            (Ev w d 0 0 mX7_copyFrom [vr 29, vr 109] (B0, n32) (fun r h' => ∃ n33 : NM, r = none ∧ h' = (B0, n33) ∧ 
                              (Ev w d 0 0 mX7_copyFrom [vr 31, vr 111] (B0, n33) (fun r h' => ∃ n34 : NM, r = none ∧ h' = (B0, n34) ∧ 
                                Q none (B0, n34)))))))))))))))))))))))))))))) :
    Rn w mX1_copyFrom (d + 1) G Q 0 [(0, vr 1), (1, vr 81)] [] (B0, n) := by
  refine r_aload_n dX1_copyFrom_0 rfl rfl ?_
  refine r_getR (b := 2) dX1_copyFrom_1 fX1_14 ob_1 (by decide) rfl rfl ?_
  refine r_aload_n dX1_copyFrom_4 rfl rfl ?_
  refine r_getR (b := 82) dX1_copyFrom_5 fX1_14 ob_81 (by decide) rfl rfl ?_
  refine r_callV (args := [vr 82]) dX1_copyFrom_8 kX1_70 ob_2 ⟨_, _, rfl⟩ (by decide) rfl rfl (Nat.le_of_ble_eq_true rfl) cap0 (Ev.mono V ?_)
  rintro r h' ⟨n21, rfl, rfl, V⟩
  show Rn w mX1_copyFrom (d + 1) G Q 11 [(0, vr 1), (1, vr 81)] [] (B0, n21)
  refine r_aload_n dX1_copyFrom_11 rfl rfl ?_
  refine r_getR (b := 4) dX1_copyFrom_12 fX1_20 ob_1 (by decide) rfl rfl ?_
  refine r_aload_n dX1_copyFrom_15 rfl rfl ?_
  refine r_getR (b := 84) dX1_copyFrom_16 fX1_20 ob_81 (by decide) rfl rfl ?_
  refine r_callV (args := [vr 84]) dX1_copyFrom_19 kX1_70 ob_4 ⟨_, _, rfl⟩ (by decide) rfl rfl (Nat.le_of_ble_eq_true rfl) cap0 (Ev.mono V ?_)
  rintro r h' ⟨n22, rfl, rfl, V⟩
  show Rn w mX1_copyFrom (d + 1) G Q 22 [(0, vr 1), (1, vr 81)] [] (B0, n22)
  refine r_aload_n dX1_copyFrom_22 rfl rfl ?_
  refine r_getR (b := 6) dX1_copyFrom_23 fX1_23 ob_1 (by decide) rfl rfl ?_
  refine r_aload_n dX1_copyFrom_26 rfl rfl ?_
  refine r_getR (b := 86) dX1_copyFrom_27 fX1_23 ob_81 (by decide) rfl rfl ?_
  refine r_callV (args := [vr 86]) dX1_copyFrom_30 kX1_70 ob_6 ⟨_, _, rfl⟩ (by decide) rfl rfl (Nat.le_of_ble_eq_true rfl) cap0 (Ev.mono V ?_)
  rintro r h' ⟨n23, rfl, rfl, V⟩
  show Rn w mX1_copyFrom (d + 1) G Q 33 [(0, vr 1), (1, vr 81)] [] (B0, n23)
  refine r_aload_n dX1_copyFrom_33 rfl rfl ?_
  refine r_getR (b := 8) dX1_copyFrom_34 fX1_26 ob_1 (by decide) rfl rfl ?_
  refine r_aload_n dX1_copyFrom_37 rfl rfl ?_
  refine r_getR (b := 88) dX1_copyFrom_38 fX1_26 ob_81 (by decide) rfl rfl ?_
  refine r_callV (args := [vr 88]) dX1_copyFrom_41 kX1_70 ob_8 ⟨_, _, rfl⟩ (by decide) rfl rfl (Nat.le_of_ble_eq_true rfl) cap0 (Ev.mono V ?_)
  rintro r h' ⟨n24, rfl, rfl, V⟩
  show Rn w mX1_copyFrom (d + 1) G Q 44 [(0, vr 1), (1, vr 81)] [] (B0, n24)
  refine r_aload_n dX1_copyFrom_44 rfl rfl ?_
  refine r_getR (b := 10) dX1_copyFrom_45 fX1_29 ob_1 (by decide) rfl rfl ?_
  refine r_aload_n dX1_copyFrom_48 rfl rfl ?_
  refine r_getR (b := 90) dX1_copyFrom_49 fX1_29 ob_81 (by decide) rfl rfl ?_
  refine r_callV (args := [vr 90]) dX1_copyFrom_52 kX1_70 ob_10 ⟨_, _, rfl⟩ (by decide) rfl rfl (Nat.le_of_ble_eq_true rfl) cap0 (Ev.mono V ?_)
  rintro r h' ⟨n25, rfl, rfl, V⟩
  show Rn w mX1_copyFrom (d + 1) G Q 55 [(0, vr 1), (1, vr 81)] [] (B0, n25)
  refine r_aload_n dX1_copyFrom_55 rfl rfl ?_
  refine r_getR (b := 12) dX1_copyFrom_56 fX1_32 ob_1 (by decide) rfl rfl ?_
  refine r_aload_n dX1_copyFrom_59 rfl rfl ?_
  refine r_getR (b := 92) dX1_copyFrom_60 fX1_32 ob_81 (by decide) rfl rfl ?_
  refine r_callV (args := [vr 92]) dX1_copyFrom_63 kX1_70 ob_12 ⟨_, _, rfl⟩ (by decide) rfl rfl (Nat.le_of_ble_eq_true rfl) cap0 (Ev.mono V ?_)
  rintro r h' ⟨n26, rfl, rfl, V⟩
  show Rn w mX1_copyFrom (d + 1) G Q 66 [(0, vr 1), (1, vr 81)] [] (B0, n26)
  refine r_aload_n dX1_copyFrom_66 rfl rfl ?_
  refine r_getR (b := 14) dX1_copyFrom_67 fX1_35 ob_1 (by decide) rfl rfl ?_
  refine r_aload_n dX1_copyFrom_70 rfl rfl ?_
  refine r_getR (b := 94) dX1_copyFrom_71 fX1_35 ob_81 (by decide) rfl rfl ?_
  refine r_callV (args := [vr 94]) dX1_copyFrom_74 kX1_70 ob_14 ⟨_, _, rfl⟩ (by decide) rfl rfl (Nat.le_of_ble_eq_true rfl) cap0 (Ev.mono V ?_)
  rintro r h' ⟨n27, rfl, rfl, V⟩
  show Rn w mX1_copyFrom (d + 1) G Q 77 [(0, vr 1), (1, vr 81)] [] (B0, n27)
  refine r_aload_n dX1_copyFrom_77 rfl rfl ?_
  refine r_getR (b := 16) dX1_copyFrom_78 fX1_41 ob_1 (by decide) rfl rfl ?_
  refine r_aload_n dX1_copyFrom_81 rfl rfl ?_
  refine r_getR (b := 96) dX1_copyFrom_82 fX1_41 ob_81 (by decide) rfl rfl ?_
  refine r_callV (args := [vr 96]) dX1_copyFrom_85 kX1_74 ob_16 ⟨_, _, rfl⟩ (by decide) rfl rfl (Nat.le_of_ble_eq_true rfl) cap0 (Ev.mono V ?_)
  rintro r h' ⟨n28, rfl, rfl, V⟩
  show Rn w mX1_copyFrom (d + 1) G Q 88 [(0, vr 1), (1, vr 81)] [] (B0, n28)
  refine r_aload_n dX1_copyFrom_88 rfl rfl ?_
  refine r_getR (b := 21) dX1_copyFrom_89 fX1_45 ob_1 (by decide) rfl rfl ?_
  refine r_aload_n dX1_copyFrom_92 rfl rfl ?_
  refine r_getR (b := 101) dX1_copyFrom_93 fX1_45 ob_81 (by decide) rfl rfl ?_
  refine r_callV (args := [vr 101]) dX1_copyFrom_96 kX1_70 ob_21 ⟨_, _, rfl⟩ (by decide) rfl rfl (Nat.le_of_ble_eq_true rfl) cap0 (Ev.mono V ?_)
  rintro r h' ⟨n29, rfl, rfl, V⟩
  show Rn w mX1_copyFrom (d + 1) G Q 99 [(0, vr 1), (1, vr 81)] [] (B0, n29)
  refine r_aload_n dX1_copyFrom_99 rfl rfl ?_
  refine r_getR (b := 23) dX1_copyFrom_100 fX1_48 ob_1 (by decide) rfl rfl ?_
  refine r_aload_n dX1_copyFrom_103 rfl rfl ?_
  refine r_getR (b := 103) dX1_copyFrom_104 fX1_48 ob_81 (by decide) rfl rfl ?_
  refine r_callV (args := [vr 103]) dX1_copyFrom_107 kX1_70 ob_23 ⟨_, _, rfl⟩ (by decide) rfl rfl (Nat.le_of_ble_eq_true rfl) cap0 (Ev.mono V ?_)
  rintro r h' ⟨n30, rfl, rfl, V⟩
  show Rn w mX1_copyFrom (d + 1) G Q 110 [(0, vr 1), (1, vr 81)] [] (B0, n30)
  refine r_aload_n dX1_copyFrom_110 rfl rfl ?_
  refine r_getR (b := 25) dX1_copyFrom_111 fX1_51 ob_1 (by decide) rfl rfl ?_
  refine r_aload_n dX1_copyFrom_114 rfl rfl ?_
  refine r_getR (b := 105) dX1_copyFrom_115 fX1_51 ob_81 (by decide) rfl rfl ?_
  refine r_callV (args := [vr 105]) dX1_copyFrom_118 kX1_70 ob_25 ⟨_, _, rfl⟩ (by decide) rfl rfl (Nat.le_of_ble_eq_true rfl) cap0 (Ev.mono V ?_)
  rintro r h' ⟨n31, rfl, rfl, V⟩
  show Rn w mX1_copyFrom (d + 1) G Q 121 [(0, vr 1), (1, vr 81)] [] (B0, n31)
  refine r_aload_n dX1_copyFrom_121 rfl rfl ?_
  refine r_getR (b := 27) dX1_copyFrom_122 fX1_54 ob_1 (by decide) rfl rfl ?_
  refine r_aload_n dX1_copyFrom_125 rfl rfl ?_
  refine r_getR (b := 107) dX1_copyFrom_126 fX1_54 ob_81 (by decide) rfl rfl ?_
  refine r_callV (args := [vr 107]) dX1_copyFrom_129 kX1_70 ob_27 ⟨_, _, rfl⟩ (by decide) rfl rfl (Nat.le_of_ble_eq_true rfl) cap0 (Ev.mono V ?_)
  rintro r h' ⟨n32, rfl, rfl, V⟩
  show Rn w mX1_copyFrom (d + 1) G Q 132 [(0, vr 1), (1, vr 81)] [] (B0, n32)
  refine r_aload_n dX1_copyFrom_132 rfl rfl ?_
  refine r_getR (b := 29) dX1_copyFrom_133 fX1_57 ob_1 (by decide) rfl rfl ?_
  refine r_aload_n dX1_copyFrom_136 rfl rfl ?_
  refine r_getR (b := 109) dX1_copyFrom_137 fX1_57 ob_81 (by decide) rfl rfl ?_
  refine r_callV (args := [vr 109]) dX1_copyFrom_140 kX1_70 ob_29 ⟨_, _, rfl⟩ (by decide) rfl rfl (Nat.le_of_ble_eq_true rfl) cap0 (Ev.mono V ?_)
  rintro r h' ⟨n33, rfl, rfl, V⟩
  show Rn w mX1_copyFrom (d + 1) G Q 143 [(0, vr 1), (1, vr 81)] [] (B0, n33)
  refine r_aload_n dX1_copyFrom_143 rfl rfl ?_
  refine r_getR (b := 31) dX1_copyFrom_144 fX1_60 ob_1 (by decide) rfl rfl ?_
  refine r_aload_n dX1_copyFrom_147 rfl rfl ?_
  refine r_getR (b := 111) dX1_copyFrom_148 fX1_60 ob_81 (by decide) rfl rfl ?_
  refine r_callV (args := [vr 111]) dX1_copyFrom_151 kX1_70 ob_31 ⟨_, _, rfl⟩ (by decide) rfl rfl (Nat.le_of_ble_eq_true rfl) cap0 (Ev.mono V ?_)
  rintro r h' ⟨n34, rfl, rfl, V⟩
  show Rn w mX1_copyFrom (d + 1) G Q 154 [(0, vr 1), (1, vr 81)] [] (B0, n34)
  exact r_ret dX1_copyFrom_154 rfl V

theorem gX1_copyFrom_1_113_0 {w : WD} {d : Nat} {G : GM} {Q : Option AV → Hp → Prop} {n : NM}
    (V :
    (Ev w d 0 0 mX7_copyFrom [vr 2, vr 114] (B0, n) (fun r h' => ∃ n21 : NM, r = none ∧ h' = (B0, n21) ∧ 
      (Ev w d 0 0 mX7_copyFrom [vr 4, vr 116] (B0, n21) (fun r h' => ∃ n22 : NM, r = none ∧ h' = (B0, n22) ∧ 
        (Ev w d 0 0 mX7_copyFrom [vr 6, vr 118] (B0, n22) (fun r h' => ∃ n23 : NM, r = none ∧ h' = (B0, n23) ∧ 
          (Ev w d 0 0 mX7_copyFrom [vr 8, vr 120] (B0, n23) (fun r h' => ∃ n24 : NM, r = none ∧ h' = (B0, n24) ∧ 
            (Ev w d 0 0 mX7_copyFrom [vr 10, vr 122] (B0, n24) (fun r h' => ∃ n25 : NM, r = none ∧ h' = (B0, n25) ∧ 
              (Ev w d 0 0 mX7_copyFrom [vr 12, vr 124] (B0, n25) (fun r h' => ∃ n26 : NM, r = none ∧ h' = (B0, n26) ∧ 
                (Ev w d 0 0 mX7_copyFrom [vr 14, vr 126] (B0, n26) (fun r h' => ∃ n27 : NM, r = none ∧ h' = (B0, n27) ∧ 
                  (Ev w d 0 0 mX2_copyFrom [vr 16, vr 128] (B0, n27) (fun r h' => ∃ n28 : NM, r = none ∧ h' = (B0, n28) ∧ 
                    (Ev w d 0 0 mX7_copyFrom [vr 21, vr 133] (B0, n28) (fun r h' => ∃ n29 : NM, r = none ∧ h' = (B0, n29) ∧ 
                      (Ev w d 0 0 mX7_copyFrom [vr 23, vr 135] (B0, n29) (fun r h' => ∃ n30 : NM, r = none ∧ h' = (B0, n30) ∧ 
                        (Ev w d 0 0 mX7_copyFrom [vr 25, vr 137] (B0, n30) (fun r h' => ∃ n31 : NM, r = none ∧ h' = (B0, n31) ∧ 
                          (Ev w d 0 0 mX7_copyFrom [vr 27, vr 139] (B0, n31) (fun r h' => ∃ n32 : NM, r = none ∧ h' = (B0, n32) ∧ 
                            (Ev w d 0 0 mX7_copyFrom [vr 29, vr 141] (B0, n32) (fun r h' => ∃ n33 : NM, r = none ∧ h' = (B0, n33) ∧ 
                              (Ev w d 0 0 mX7_copyFrom [vr 31, vr 143] (B0, n33) (fun r h' => ∃ n34 : NM, r = none ∧ h' = (B0, n34) ∧ 
                                Q none (B0, n34)))))))))))))))))))))))))))))) :
    Rn w mX1_copyFrom (d + 1) G Q 0 [(0, vr 1), (1, vr 113)] [] (B0, n) := by
  refine r_aload_n dX1_copyFrom_0 rfl rfl ?_
  refine r_getR (b := 2) dX1_copyFrom_1 fX1_14 ob_1 (by decide) rfl rfl ?_
  refine r_aload_n dX1_copyFrom_4 rfl rfl ?_
  refine r_getR (b := 114) dX1_copyFrom_5 fX1_14 ob_113 (by decide) rfl rfl ?_
  refine r_callV (args := [vr 114]) dX1_copyFrom_8 kX1_70 ob_2 ⟨_, _, rfl⟩ (by decide) rfl rfl (Nat.le_of_ble_eq_true rfl) cap0 (Ev.mono V ?_)
  rintro r h' ⟨n21, rfl, rfl, V⟩
  show Rn w mX1_copyFrom (d + 1) G Q 11 [(0, vr 1), (1, vr 113)] [] (B0, n21)
  refine r_aload_n dX1_copyFrom_11 rfl rfl ?_
  refine r_getR (b := 4) dX1_copyFrom_12 fX1_20 ob_1 (by decide) rfl rfl ?_
  refine r_aload_n dX1_copyFrom_15 rfl rfl ?_
  refine r_getR (b := 116) dX1_copyFrom_16 fX1_20 ob_113 (by decide) rfl rfl ?_
  refine r_callV (args := [vr 116]) dX1_copyFrom_19 kX1_70 ob_4 ⟨_, _, rfl⟩ (by decide) rfl rfl (Nat.le_of_ble_eq_true rfl) cap0 (Ev.mono V ?_)
  rintro r h' ⟨n22, rfl, rfl, V⟩
  show Rn w mX1_copyFrom (d + 1) G Q 22 [(0, vr 1), (1, vr 113)] [] (B0, n22)
  refine r_aload_n dX1_copyFrom_22 rfl rfl ?_
  refine r_getR (b := 6) dX1_copyFrom_23 fX1_23 ob_1 (by decide) rfl rfl ?_
  refine r_aload_n dX1_copyFrom_26 rfl rfl ?_
  refine r_getR (b := 118) dX1_copyFrom_27 fX1_23 ob_113 (by decide) rfl rfl ?_
  refine r_callV (args := [vr 118]) dX1_copyFrom_30 kX1_70 ob_6 ⟨_, _, rfl⟩ (by decide) rfl rfl (Nat.le_of_ble_eq_true rfl) cap0 (Ev.mono V ?_)
  rintro r h' ⟨n23, rfl, rfl, V⟩
  show Rn w mX1_copyFrom (d + 1) G Q 33 [(0, vr 1), (1, vr 113)] [] (B0, n23)
  refine r_aload_n dX1_copyFrom_33 rfl rfl ?_
  refine r_getR (b := 8) dX1_copyFrom_34 fX1_26 ob_1 (by decide) rfl rfl ?_
  refine r_aload_n dX1_copyFrom_37 rfl rfl ?_
  refine r_getR (b := 120) dX1_copyFrom_38 fX1_26 ob_113 (by decide) rfl rfl ?_
  refine r_callV (args := [vr 120]) dX1_copyFrom_41 kX1_70 ob_8 ⟨_, _, rfl⟩ (by decide) rfl rfl (Nat.le_of_ble_eq_true rfl) cap0 (Ev.mono V ?_)
  rintro r h' ⟨n24, rfl, rfl, V⟩
  show Rn w mX1_copyFrom (d + 1) G Q 44 [(0, vr 1), (1, vr 113)] [] (B0, n24)
  refine r_aload_n dX1_copyFrom_44 rfl rfl ?_
  refine r_getR (b := 10) dX1_copyFrom_45 fX1_29 ob_1 (by decide) rfl rfl ?_
  refine r_aload_n dX1_copyFrom_48 rfl rfl ?_
  refine r_getR (b := 122) dX1_copyFrom_49 fX1_29 ob_113 (by decide) rfl rfl ?_
  refine r_callV (args := [vr 122]) dX1_copyFrom_52 kX1_70 ob_10 ⟨_, _, rfl⟩ (by decide) rfl rfl (Nat.le_of_ble_eq_true rfl) cap0 (Ev.mono V ?_)
  rintro r h' ⟨n25, rfl, rfl, V⟩
  show Rn w mX1_copyFrom (d + 1) G Q 55 [(0, vr 1), (1, vr 113)] [] (B0, n25)
  refine r_aload_n dX1_copyFrom_55 rfl rfl ?_
  refine r_getR (b := 12) dX1_copyFrom_56 fX1_32 ob_1 (by decide) rfl rfl ?_
  refine r_aload_n dX1_copyFrom_59 rfl rfl ?_
  refine r_getR (b := 124) dX1_copyFrom_60 fX1_32 ob_113 (by decide) rfl rfl ?_
  refine r_callV (args := [vr 124]) dX1_copyFrom_63 kX1_70 ob_12 ⟨_, _, rfl⟩ (by decide) rfl rfl (Nat.le_of_ble_eq_true rfl) cap0 (Ev.mono V ?_)
  rintro r h' ⟨n26, rfl, rfl, V⟩
  show Rn w mX1_copyFrom (d + 1) G Q 66 [(0, vr 1), (1, vr 113)] [] (B0, n26)
  refine r_aload_n dX1_copyFrom_66 rfl rfl ?_
  refine r_getR (b := 14) dX1_copyFrom_67 fX1_35 ob_1 (by decide) rfl rfl ?_
  refine r_aload_n dX1_copyFrom_70 rfl rfl ?_
  refine r_getR (b := 126) dX1_copyFrom_71 fX1_35 ob_113 (by decide) rfl rfl ?_
  refine r_callV (args := [vr 126]) dX1_copyFrom_74 kX1_70 ob_14 ⟨_, _, rfl⟩ (by decide) rfl rfl (Nat.le_of_ble_eq_true rfl) cap0 (Ev.mono V ?_)
  rintro r h' ⟨n27, rfl, rfl, V⟩
  show Rn w mX1_copyFrom (d + 1) G Q 77 [(0, vr 1), (1, vr 113)] [] (B0, n27)
  refine r_aload_n dX1_copyFrom_77 rfl rfl ?_
  refine r_getR (b := 16) dX1_copyFrom_78 fX1_41 ob_1 (by decide) rfl rfl ?_
  refine r_aload_n dX1_copyFrom_81 rfl rfl ?_
  refine r_getR (b := 128) dX1_copyFrom_82 fX1_41 ob_113 (by decide) rfl rfl ?_
  refine r_callV (args := [vr 128]) dX1_copyFrom_85 kX1_74 ob_16 ⟨_, _, rfl⟩ (by decide) rfl rfl (Nat.le_of_ble_eq_true rfl) cap0 (Ev.mono V ?_)
  rintro r h' ⟨n28, rfl, rfl, V⟩
  show Rn w mX1_copyFrom (d + 1) G Q 88 [(0, vr 1), (1, vr 113)] [] (B0, n28)
  refine r_aload_n dX1_copyFrom_88 rfl rfl ?_
  refine r_getR (b := 21) dX1_copyFrom_89 fX1_45 ob_1 (by decide) rfl rfl ?_
  refine r_aload_n dX1_copyFrom_92 rfl rfl ?_
  refine r_getR (b := 133) dX1_copyFrom_93 fX1_45 ob_113 (by decide) rfl rfl ?_
  refine r_callV (args := [vr 133]) dX1_copyFrom_96 kX1_70 ob_21 ⟨_, _, rfl⟩ (by decide) rfl rfl (Nat.le_of_ble_eq_true rfl) cap0 (Ev.mono V ?_)
  rintro r h' ⟨n29, rfl, rfl, V⟩
  show Rn w mX1_copyFrom (d + 1) G Q 99 [(0, vr 1), (1, vr 113)] [] (B0, n29)
  refine r_aload_n dX1_copyFrom_99 rfl rfl ?_
  refine r_getR (b := 23) dX1_copyFrom_100 fX1_48 ob_1 (by decide) rfl rfl ?_
  refine r_aload_n dX1_copyFrom_103 rfl rfl ?_
  refine r_getR (b := 135) dX1_copyFrom_104 fX1_48 ob_113 (by decide) rfl rfl ?_
  refine r_callV (args := [vr 135]) dX1_copyFrom_107 kX1_70 ob_23 ⟨_, _, rfl⟩ (by decide) rfl rfl (Nat.le_of_ble_eq_true rfl) cap0 (Ev.mono V ?_)
  rintro r h' ⟨n30, rfl, rfl, V⟩
  show Rn w mX1_copyFrom (d + 1) G Q 110 [(0, vr 1), (1, vr 113)] [] (B0, n30)
  refine r_aload_n dX1_copyFrom_110 rfl rfl ?_
  refine r_getR (b := 25) dX1_copyFrom_111 fX1_51 ob_1 (by decide) rfl rfl ?_
  refine r_aload_n dX1_copyFrom_114 rfl rfl ?_
  refine r_getR (b := 137) dX1_copyFrom_115 fX1_51 ob_113 (by decide) rfl rfl ?_
  refine r_callV (args := [vr 137]) dX1_copyFrom_118 kX1_70 ob_25 ⟨_, _, rfl⟩ (by decide) rfl rfl (Nat.le_of_ble_eq_true rfl) cap0 (Ev.mono V ?_)
  rintro r h' ⟨n31, rfl, rfl, V⟩
  show Rn w mX1_copyFrom (d + 1) G Q 121 [(0, vr 1), (1, vr 113)] [] (B0, n31)
  refine r_aload_n dX1_copyFrom_121 rfl rfl ?_
  refine r_getR (b := 27) dX1_copyFrom_122 fX1_54 ob_1 (by decide) rfl rfl ?_
  refine r_aload_n dX1_copyFrom_125 rfl rfl ?_
  refine r_getR (b := 139) dX1_copyFrom_126 fX1_54 ob_113 (by decide) rfl rfl ?_
  refine r_callV (args := [vr 139]) dX1_copyFrom_129 kX1_70 ob_27 ⟨_, _, rfl⟩ (by decide) rfl rfl (Nat.le_of_ble_eq_true rfl) cap0 (Ev.mono V ?_)
  rintro r h' ⟨n32, rfl, rfl, V⟩
  show Rn w mX1_copyFrom (d + 1) G Q 132 [(0, vr 1), (1, vr 113)] [] (B0, n32)
  refine r_aload_n dX1_copyFrom_132 rfl rfl ?_
  refine r_getR (b := 29) dX1_copyFrom_133 fX1_57 ob_1 (by decide) rfl rfl ?_
  refine r_aload_n dX1_copyFrom_136 rfl rfl ?_
  refine r_getR (b := 141) dX1_copyFrom_137 fX1_57 ob_113 (by decide) rfl rfl ?_
  refine r_callV (args := [vr 141]) dX1_copyFrom_140 kX1_70 ob_29 ⟨_, _, rfl⟩ (by decide) rfl rfl (Nat.le_of_ble_eq_true rfl) cap0 (Ev.mono V ?_)
  rintro r h' ⟨n33, rfl, rfl, V⟩
  show Rn w mX1_copyFrom (d + 1) G Q 143 [(0, vr 1), (1, vr 113)] [] (B0, n33)
  refine r_aload_n dX1_copyFrom_143 rfl rfl ?_
  refine r_getR (b := 31) dX1_copyFrom_144 fX1_60 ob_1 (by decide) rfl rfl ?_
  refine r_aload_n dX1_copyFrom_147 rfl rfl ?_
  refine r_getR (b := 143) dX1_copyFrom_148 fX1_60 ob_113 (by decide) rfl rfl ?_
  refine r_callV (args := [vr 143]) dX1_copyFrom_151 kX1_70 ob_31 ⟨_, _, rfl⟩ (by decide) rfl rfl (Nat.le_of_ble_eq_true rfl) cap0 (Ev.mono V ?_)
  rintro r h' ⟨n34, rfl, rfl, V⟩
  show Rn w mX1_copyFrom (d + 1) G Q 154 [(0, vr 1), (1, vr 113)] [] (B0, n34)
  exact r_ret dX1_copyFrom_154 rfl V

theorem gX1_whyNoSight_0 {w : WD} {d : Nat} {G : GM} {Q : Option AV → Hp → Prop} {n : NM} {x1 x2 x3 x4 x5 x6 x7 : Int}
    (V :
    (Ev w d 0 0 mX11_within [vi x1, vi 0, vi 59] (B0, n) (fun r h' => ∃ (x22 : Int) (n21 : NM), r = some (vi x22) ∧ h' = (B0, n21) ∧ 
      ((x22 = 0 →
        Q (some (vi (-1))) (B0, n21)) ∧
      (x22 ≠ 0 →
        (Ev w d 0 0 mX11_within [vi x2, vi 0, vi 1439] (B0, n21) (fun r h' => ∃ (x25 : Int) (n24 : NM), r = some (vi x25) ∧ h' = (B0, n24) ∧ 
          ((x25 = 0 →
            Q (some (vi (-1))) (B0, n24)) ∧
          (x25 ≠ 0 →
            (Ev w d 0 0 mX11_within [vi x3, vi 0, vi 23] (B0, n24) (fun r h' => ∃ (x28 : Int) (n27 : NM), r = some (vi x28) ∧ h' = (B0, n27) ∧ 
              ((x28 = 0 →
                Q (some (vi (-1))) (B0, n27)) ∧
              (x28 ≠ 0 →
                (Ev w d 0 0 mX11_within [vi x5, vi 0, vi 9] (B0, n27) (fun r h' => ∃ (x31 : Int) (n30 : NM), r = some (vi x31) ∧ h' = (B0, n30) ∧ 
                  ((x31 = 0 →
                    Q (some (vi (-1))) (B0, n30)) ∧
                  (x31 ≠ 0 →
                    (Ev w d 0 0 mX11_within [vi x6, vi 1, vi 200] (B0, n30) (fun r h' => ∃ (x34 : Int) (n33 : NM), r = some (vi x34) ∧ h' = (B0, n33) ∧ 
                      ((x34 = 0 →
                        Q (some (vi (-1))) (B0, n33)) ∧
                      (x34 ≠ 0 →
                        (Ev w d 0 0 mX11_within [vi x7, vi x1, vi 59] (B0, n33) (fun r h' => ∃ (x37 : Int) (n36 : NM), r = some (vi x37) ∧ h' = (B0, n36) ∧ 
                          ((x37 ≠ 0 →
                            (Ev w d 0 0 mX7_holds [vr 10, vi x4] (B0, n36) (fun r h' => ∃ (x40 : Int) (n39 : NM), r = some (vi x40) ∧ h' = (B0, n39) ∧ 
                              ((x40 ≠ 0 →
                                (Ev w d 0 0 mX7_isFull [vr 14] (B0, n39) (fun r h' => ∃ (x43 : Int) (n42 : NM), r = some (vi x43) ∧ h' = (B0, n42) ∧ 
                                  ((x43 = 0 →
                                    Q (some (vi 0)) (B0, n42)) ∧
                                  (x43 ≠ 0 →
                                    Q (some (vi (-5))) (B0, n42)))))) ∧
                              (x40 = 0 →
                                Q (some (vi (-2))) (B0, n39)))))) ∧
                          (x37 = 0 →
                            Q (some (vi (-1))) (B0, n36)))))))))))))))))))))))))) :
    Rn w mX1_whyNoSight (d + 1) G Q 0 [(0, vr 1), (1, vi x1), (2, vi x2), (3, vi x3), (4, vi x4), (5, vi x5), (6, vi x6), (7, vi x7)] [] (B0, n) := by
  refine r_iload_n dX1_whyNoSight_0 rfl rfl ?_
  refine r_iconst (x := 0) dX1_whyNoSight_1 rfl (by decide) ?_
  refine r_bipush (x := 59) dX1_whyNoSight_2 (by decide +kernel) (by decide) ?_
  refine r_callSN (args := [vi x1, vi 0, vi 59]) dX1_whyNoSight_4 kX1_77 rfl rfl (Nat.le_of_ble_eq_true rfl) cap0 (Ev.mono V ?_)
  rintro r h' ⟨x22, n21, rfl, rfl, V⟩
  show Rn w mX1_whyNoSight (d + 1) G Q 7 [(0, vr 1), (1, vi x1), (2, vi x2), (3, vi x3), (4, vi x4), (5, vi x5), (6, vi x6), (7, vi x7)] [vi x22] (B0, n21)
  obtain ⟨V1, V2⟩ := V
  refine r_zeq (tgt := 65) dX1_whyNoSight_7 (by decide) (fun c23 => ?_) (fun c23 => ?_)
  · have V := V1 c23
    refine r_iconst (x := -1) dX1_whyNoSight_65 rfl (by decide) ?_
    exact r_iret dX1_whyNoSight_66 rfl V
  · have V := V2 c23
    refine r_iload_n dX1_whyNoSight_10 rfl rfl ?_
    refine r_iconst (x := 0) dX1_whyNoSight_11 rfl (by decide) ?_
    refine r_sipush (x := 1439) dX1_whyNoSight_12 (by decide +kernel) (by decide) ?_
    refine r_callSN (args := [vi x2, vi 0, vi 1439]) dX1_whyNoSight_15 kX1_77 rfl rfl (Nat.le_of_ble_eq_true rfl) cap0 (Ev.mono V ?_)
    rintro r h' ⟨x25, n24, rfl, rfl, V⟩
    show Rn w mX1_whyNoSight (d + 1) G Q 18 [(0, vr 1), (1, vi x1), (2, vi x2), (3, vi x3), (4, vi x4), (5, vi x5), (6, vi x6), (7, vi x7)] [vi x25] (B0, n24)
    obtain ⟨V1, V2⟩ := V
    refine r_zeq (tgt := 65) dX1_whyNoSight_18 (by decide) (fun c26 => ?_) (fun c26 => ?_)
    · have V := V1 c26
      refine r_iconst (x := -1) dX1_whyNoSight_65 rfl (by decide) ?_
      exact r_iret dX1_whyNoSight_66 rfl V
    · have V := V2 c26
      refine r_iload_n dX1_whyNoSight_21 rfl rfl ?_
      refine r_iconst (x := 0) dX1_whyNoSight_22 rfl (by decide) ?_
      refine r_bipush (x := 23) dX1_whyNoSight_23 (by decide +kernel) (by decide) ?_
      refine r_callSN (args := [vi x3, vi 0, vi 23]) dX1_whyNoSight_25 kX1_77 rfl rfl (Nat.le_of_ble_eq_true rfl) cap0 (Ev.mono V ?_)
      rintro r h' ⟨x28, n27, rfl, rfl, V⟩
      show Rn w mX1_whyNoSight (d + 1) G Q 28 [(0, vr 1), (1, vi x1), (2, vi x2), (3, vi x3), (4, vi x4), (5, vi x5), (6, vi x6), (7, vi x7)] [vi x28] (B0, n27)
      obtain ⟨V1, V2⟩ := V
      refine r_zeq (tgt := 65) dX1_whyNoSight_28 (by decide) (fun c29 => ?_) (fun c29 => ?_)
      · have V := V1 c29
        refine r_iconst (x := -1) dX1_whyNoSight_65 rfl (by decide) ?_
        exact r_iret dX1_whyNoSight_66 rfl V
      · have V := V2 c29
        refine r_iload dX1_whyNoSight_31 rfl ?_
        refine r_iconst (x := 0) dX1_whyNoSight_33 rfl (by decide) ?_
        refine r_bipush (x := 9) dX1_whyNoSight_34 (by decide +kernel) (by decide) ?_
        refine r_callSN (args := [vi x5, vi 0, vi 9]) dX1_whyNoSight_36 kX1_77 rfl rfl (Nat.le_of_ble_eq_true rfl) cap0 (Ev.mono V ?_)
        rintro r h' ⟨x31, n30, rfl, rfl, V⟩
        show Rn w mX1_whyNoSight (d + 1) G Q 39 [(0, vr 1), (1, vi x1), (2, vi x2), (3, vi x3), (4, vi x4), (5, vi x5), (6, vi x6), (7, vi x7)] [vi x31] (B0, n30)
        obtain ⟨V1, V2⟩ := V
        refine r_zeq (tgt := 65) dX1_whyNoSight_39 (by decide) (fun c32 => ?_) (fun c32 => ?_)
        · have V := V1 c32
          refine r_iconst (x := -1) dX1_whyNoSight_65 rfl (by decide) ?_
          exact r_iret dX1_whyNoSight_66 rfl V
        · have V := V2 c32
          refine r_iload dX1_whyNoSight_42 rfl ?_
          refine r_iconst (x := 1) dX1_whyNoSight_44 rfl (by decide) ?_
          refine r_sipush (x := 200) dX1_whyNoSight_45 (by decide +kernel) (by decide) ?_
          refine r_callSN (args := [vi x6, vi 1, vi 200]) dX1_whyNoSight_48 kX1_77 rfl rfl (Nat.le_of_ble_eq_true rfl) cap0 (Ev.mono V ?_)
          rintro r h' ⟨x34, n33, rfl, rfl, V⟩
          show Rn w mX1_whyNoSight (d + 1) G Q 51 [(0, vr 1), (1, vi x1), (2, vi x2), (3, vi x3), (4, vi x4), (5, vi x5), (6, vi x6), (7, vi x7)] [vi x34] (B0, n33)
          obtain ⟨V1, V2⟩ := V
          refine r_zeq (tgt := 65) dX1_whyNoSight_51 (by decide) (fun c35 => ?_) (fun c35 => ?_)
          · have V := V1 c35
            refine r_iconst (x := -1) dX1_whyNoSight_65 rfl (by decide) ?_
            exact r_iret dX1_whyNoSight_66 rfl V
          · have V := V2 c35
            refine r_iload dX1_whyNoSight_54 rfl ?_
            refine r_iload_n dX1_whyNoSight_56 rfl rfl ?_
            refine r_bipush (x := 59) dX1_whyNoSight_57 (by decide +kernel) (by decide) ?_
            refine r_callSN (args := [vi x7, vi x1, vi 59]) dX1_whyNoSight_59 kX1_77 rfl rfl (Nat.le_of_ble_eq_true rfl) cap0 (Ev.mono V ?_)
            rintro r h' ⟨x37, n36, rfl, rfl, V⟩
            show Rn w mX1_whyNoSight (d + 1) G Q 62 [(0, vr 1), (1, vi x1), (2, vi x2), (3, vi x3), (4, vi x4), (5, vi x5), (6, vi x6), (7, vi x7)] [vi x37] (B0, n36)
            obtain ⟨V1, V2⟩ := V
            refine r_zne (tgt := 67) dX1_whyNoSight_62 (by decide) (fun c38 => ?_) (fun c38 => ?_)
            · have V := V1 c38
              refine r_aload_n dX1_whyNoSight_67 rfl rfl ?_
              refine r_getR (b := 10) dX1_whyNoSight_68 fX1_29 ob_1 (by decide) rfl rfl ?_
              refine r_iload dX1_whyNoSight_71 rfl ?_
              refine r_callV (args := [vi x4]) dX1_whyNoSight_73 kX1_81 ob_10 ⟨_, _, rfl⟩ (by decide) rfl rfl (Nat.le_of_ble_eq_true rfl) cap0 (Ev.mono V ?_)
              rintro r h' ⟨x40, n39, rfl, rfl, V⟩
              show Rn w mX1_whyNoSight (d + 1) G Q 76 [(0, vr 1), (1, vi x1), (2, vi x2), (3, vi x3), (4, vi x4), (5, vi x5), (6, vi x6), (7, vi x7)] [vi x40] (B0, n39)
              obtain ⟨V1, V2⟩ := V
              refine r_zne (tgt := 82) dX1_whyNoSight_76 (by decide) (fun c41 => ?_) (fun c41 => ?_)
              · have V := V1 c41
                refine r_aload_n dX1_whyNoSight_82 rfl rfl ?_
                refine r_getR (b := 14) dX1_whyNoSight_83 fX1_35 ob_1 (by decide) rfl rfl ?_
                refine r_callV (args := []) dX1_whyNoSight_86 kX1_85 ob_14 ⟨_, _, rfl⟩ (by decide) rfl rfl (Nat.le_of_ble_eq_true rfl) cap0 (Ev.mono V ?_)
                rintro r h' ⟨x43, n42, rfl, rfl, V⟩
                show Rn w mX1_whyNoSight (d + 1) G Q 89 [(0, vr 1), (1, vi x1), (2, vi x2), (3, vi x3), (4, vi x4), (5, vi x5), (6, vi x6), (7, vi x7)] [vi x43] (B0, n42)
                obtain ⟨V1, V2⟩ := V
                refine r_zeq (tgt := 97) dX1_whyNoSight_89 (by decide) (fun c44 => ?_) (fun c44 => ?_)
                · have V := V1 c44
                  refine r_iconst (x := 0) dX1_whyNoSight_97 rfl (by decide) ?_
                  exact r_iret dX1_whyNoSight_98 rfl V
                · have V := V2 c44
                  refine r_bipush (x := -5) dX1_whyNoSight_92 (by decide +kernel) (by decide) ?_
                  refine r_goto (tgt := 98) dX1_whyNoSight_94 (by decide) ?_
                  exact r_iret dX1_whyNoSight_98 rfl V
              · have V := V2 c41
                refine r_bipush (x := -2) dX1_whyNoSight_79 (by decide +kernel) (by decide) ?_
                exact r_iret dX1_whyNoSight_81 rfl V
            · have V := V2 c38
              refine r_iconst (x := -1) dX1_whyNoSight_65 rfl (by decide) ?_
              exact r_iret dX1_whyNoSight_66 rfl V

theorem gX1_addSight_0 {w : WD} {d : Nat} {G : GM} {Q : Option AV → Hp → Prop} {n : NM} {x1 x2 x3 x4 x5 x6 x7 : Int}
    (V :
    (Ev w d 0 0 mX7_add [vr 14, vi x1, vi x2, vi x3, vi x4] (B0, n) (fun r h' => ∃ (x22 : Int) (n21 : NM), r = some (vi x22) ∧ h' = (B0, n21) ∧ 
      (Ev w d 0 0 mX7_set [vr 14, vi x22, vi 4, vi x5] (B0, n21) (fun r h' => ∃ n23 : NM, r = none ∧ h' = (B0, n23) ∧ 
        (Ev w d 0 0 mX7_set [vr 14, vi x22, vi 5, vi x6] (B0, n23) (fun r h' => ∃ n24 : NM, r = none ∧ h' = (B0, n24) ∧ 
          (Ev w d 0 0 mX7_set [vr 14, vi x22, vi 6, vi x7] (B0, n24) (fun r h' => ∃ n25 : NM, r = none ∧ h' = (B0, n25) ∧ 
            Q (some (vi x22)) (B0, n25)))))))))) :
    Rn w mX1_addSight (d + 1) G Q 0 [(0, vr 1), (1, vi x1), (2, vi x2), (3, vi x3), (4, vi x4), (5, vi x5), (6, vi x6), (7, vi x7)] [] (B0, n) := by
  refine r_aload_n dX1_addSight_0 rfl rfl ?_
  refine r_getR (b := 14) dX1_addSight_1 fX1_35 ob_1 (by decide) rfl rfl ?_
  refine r_iload_n dX1_addSight_4 rfl rfl ?_
  refine r_iload_n dX1_addSight_5 rfl rfl ?_
  refine r_iload_n dX1_addSight_6 rfl rfl ?_
  refine r_iload dX1_addSight_7 rfl ?_
  refine r_callV (args := [vi x1, vi x2, vi x3, vi x4]) dX1_addSight_9 kX1_89 ob_14 ⟨_, _, rfl⟩ (by decide) rfl rfl (Nat.le_of_ble_eq_true rfl) cap0 (Ev.mono V ?_)
  rintro r h' ⟨x22, n21, rfl, rfl, V⟩
  show Rn w mX1_addSight (d + 1) G Q 12 [(0, vr 1), (1, vi x1), (2, vi x2), (3, vi x3), (4, vi x4), (5, vi x5), (6, vi x6), (7, vi x7)] [vi x22] (B0, n21)
  refine r_istore (ls' := [(0, vr 1), (1, vi x1), (2, vi x2), (3, vi x3), (4, vi x4), (5, vi x5), (6, vi x6), (7, vi x7), (8, vi x22)]) dX1_addSight_12 (by decide) rfl ?_
  refine r_aload_n dX1_addSight_14 rfl rfl ?_
  refine r_getR (b := 14) dX1_addSight_15 fX1_35 ob_1 (by decide) rfl rfl ?_
  refine r_iload dX1_addSight_18 rfl ?_
  refine r_iconst (x := 4) dX1_addSight_20 rfl (by decide) ?_
  refine r_iload dX1_addSight_21 rfl ?_
  refine r_callV (args := [vi x22, vi 4, vi x5]) dX1_addSight_23 kX1_66 ob_14 ⟨_, _, rfl⟩ (by decide) rfl rfl (Nat.le_of_ble_eq_true rfl) cap0 (Ev.mono V ?_)
  rintro r h' ⟨n23, rfl, rfl, V⟩
  show Rn w mX1_addSight (d + 1) G Q 26 [(0, vr 1), (1, vi x1), (2, vi x2), (3, vi x3), (4, vi x4), (5, vi x5), (6, vi x6), (7, vi x7), (8, vi x22)] [] (B0, n23)
  refine r_aload_n dX1_addSight_26 rfl rfl ?_
  refine r_getR (b := 14) dX1_addSight_27 fX1_35 ob_1 (by decide) rfl rfl ?_
  refine r_iload dX1_addSight_30 rfl ?_
  refine r_iconst (x := 5) dX1_addSight_32 rfl (by decide) ?_
  refine r_iload dX1_addSight_33 rfl ?_
  refine r_callV (args := [vi x22, vi 5, vi x6]) dX1_addSight_35 kX1_66 ob_14 ⟨_, _, rfl⟩ (by decide) rfl rfl (Nat.le_of_ble_eq_true rfl) cap0 (Ev.mono V ?_)
  rintro r h' ⟨n24, rfl, rfl, V⟩
  show Rn w mX1_addSight (d + 1) G Q 38 [(0, vr 1), (1, vi x1), (2, vi x2), (3, vi x3), (4, vi x4), (5, vi x5), (6, vi x6), (7, vi x7), (8, vi x22)] [] (B0, n24)
  refine r_aload_n dX1_addSight_38 rfl rfl ?_
  refine r_getR (b := 14) dX1_addSight_39 fX1_35 ob_1 (by decide) rfl rfl ?_
  refine r_iload dX1_addSight_42 rfl ?_
  refine r_bipush (x := 6) dX1_addSight_44 (by decide +kernel) (by decide) ?_
  refine r_iload dX1_addSight_46 rfl ?_
  refine r_callV (args := [vi x22, vi 6, vi x7]) dX1_addSight_48 kX1_66 ob_14 ⟨_, _, rfl⟩ (by decide) rfl rfl (Nat.le_of_ble_eq_true rfl) cap0 (Ev.mono V ?_)
  rintro r h' ⟨n25, rfl, rfl, V⟩
  show Rn w mX1_addSight (d + 1) G Q 51 [(0, vr 1), (1, vi x1), (2, vi x2), (3, vi x3), (4, vi x4), (5, vi x5), (6, vi x6), (7, vi x7), (8, vi x22)] [] (B0, n25)
  refine r_iload dX1_addSight_51 rfl ?_
  exact r_iret dX1_addSight_53 rfl V

theorem gX1_goneAtSight_0 {w : WD} {d : Nat} {G : GM} {Q : Option AV → Hp → Prop} {n : NM} {x1 : Int}
    (V :
    (Ev w d 0 0 mX7_get [vr 14, vi x1, vi 1] (B0, n) (fun r h' => ∃ (x22 : Int) (n21 : NM), r = some (vi x22) ∧ h' = (B0, n21) ∧ 
      Rn w mX1_goneAtSight (d + 1) G Q 15 [(0, vr 1), (1, vi x1), (2, vi x22), (3, vi (-1)), (4, vi 0)] [] (B0, n21)))) :
    Rn w mX1_goneAtSight (d + 1) G Q 0 [(0, vr 1), (1, vi x1)] [] (B0, n) := by
  refine r_aload_n dX1_goneAtSight_0 rfl rfl ?_
  refine r_getR (b := 14) dX1_goneAtSight_1 fX1_35 ob_1 (by decide) rfl rfl ?_
  refine r_iload_n dX1_goneAtSight_4 rfl rfl ?_
  refine r_iconst (x := 1) dX1_goneAtSight_5 rfl (by decide) ?_
  refine r_callV (args := [vi x1, vi 1]) dX1_goneAtSight_6 kX1_93 ob_14 ⟨_, _, rfl⟩ (by decide) rfl rfl (Nat.le_of_ble_eq_true rfl) cap0 (Ev.mono V ?_)
  rintro r h' ⟨x22, n21, rfl, rfl, V⟩
  show Rn w mX1_goneAtSight (d + 1) G Q 9 [(0, vr 1), (1, vi x1)] [vi x22] (B0, n21)
  refine r_istore_n (ls' := [(0, vr 1), (1, vi x1), (2, vi x22)]) dX1_goneAtSight_9 rfl (by decide) rfl ?_
  refine r_iconst (x := -1) dX1_goneAtSight_10 rfl (by decide) ?_
  refine r_istore_n (ls' := [(0, vr 1), (1, vi x1), (2, vi x22), (3, vi (-1))]) dX1_goneAtSight_11 rfl (by decide) rfl ?_
  refine r_iconst (x := 0) dX1_goneAtSight_12 rfl (by decide) ?_
  refine r_istore (ls' := [(0, vr 1), (1, vi x1), (2, vi x22), (3, vi (-1)), (4, vi 0)]) dX1_goneAtSight_13 (by decide) rfl ?_
  exact V

theorem gX1_goneAtSight_15 {w : WD} {d : Nat} {G : GM} {Q : Option AV → Hp → Prop} {n : NM} {x1 x2 x3 x4 : Int}
    (V :
    (Ev w d 0 0 mX7_size [vr 4] (B0, n) (fun r h' => ∃ (x22 : Int) (n21 : NM), r = some (vi x22) ∧ h' = (B0, n21) ∧ 
      ((x22 ≤ x4 →
        ((x3 ≠ (-1) →
          (inI (x2 - x3)) ∧
          Q (some (vi (x2 - x3))) (B0, n21)) ∧
        (x3 = (-1) →
          Q (some (vi 0)) (B0, n21)))) ∧
      (x4 < x22 →
        (Ev w d 0 0 mX7_get [vr 4, vi x4, vi 0] (B0, n21) (fun r h' => ∃ (x27 : Int) (n26 : NM), r = some (vi x27) ∧ h' = (B0, n26) ∧ 
          (Ev w d 0 0 mX7_get [vr 14, vi x1, vi 0] (B0, n26) (fun r h' => ∃ (x29 : Int) (n28 : NM), r = some (vi x29) ∧ h' = (B0, n28) ∧ 
            ((x27 ≠ x29 →
              (inI (x4 + 1)) ∧
              Rn w mX1_goneAtSight (d + 1) G Q 15 [(0, vr 1), (1, vi x1), (2, vi x2), (3, vi x3), (4, vi (x4 + 1))] [] (B0, n28)) ∧
            (x27 = x29 →
              (Ev w d 0 0 mX7_get [vr 14, vi x1, vi 2] (B0, n28) (fun r h' => ∃ (x33 : Int) (n32 : NM), r = some (vi x33) ∧ h' = (B0, n32) ∧ 
                (Ev w d 0 0 mX1_minuteOfPassing [vr 1, vi x4, vi x33] (B0, n32) (fun r h' => ∃ (x35 : Int) (n34 : NM), r = some (vi x35) ∧ h' = (B0, n34) ∧ 
                  (∀ z37 : Int, z37 = (if x2 < x35 then x3 else max x3 x35) → 
                  (inI (x4 + 1)) ∧
                  Rn w mX1_goneAtSight (d + 1) G Q 15 [(0, vr 1), (1, vi x1), (2, vi x2), (3, vi z37), (4, vi (x4 + 1))] [] (B0, n34))))))))))))))))) :
    Rn w mX1_goneAtSight (d + 1) G Q 15 [(0, vr 1), (1, vi x1), (2, vi x2), (3, vi x3), (4, vi x4)] [] (B0, n) := by
  refine r_iload dX1_goneAtSight_15 rfl ?_
  refine r_aload_n dX1_goneAtSight_17 rfl rfl ?_
  refine r_getR (b := 4) dX1_goneAtSight_18 fX1_20 ob_1 (by decide) rfl rfl ?_
  refine r_callV (args := []) dX1_goneAtSight_21 kX1_97 ob_4 ⟨_, _, rfl⟩ (by decide) rfl rfl (Nat.le_of_ble_eq_true rfl) cap0 (Ev.mono V ?_)
  rintro r h' ⟨x22, n21, rfl, rfl, V⟩
  show Rn w mX1_goneAtSight (d + 1) G Q 24 [(0, vr 1), (1, vi x1), (2, vi x2), (3, vi x3), (4, vi x4)] [vi x22, vi x4] (B0, n21)
  obtain ⟨V1, V2⟩ := V
  refine r_jge (tgt := 85) dX1_goneAtSight_24 (by decide) (fun c23 => ?_) (fun c23 => ?_)
  · have V := V1 c23
    refine r_iload_n dX1_goneAtSight_85 rfl rfl ?_
    refine r_iconst (x := -1) dX1_goneAtSight_86 rfl (by decide) ?_
    obtain ⟨V1, V2⟩ := V
    refine r_jne (tgt := 94) dX1_goneAtSight_87 (by decide) (fun c24 => ?_) (fun c24 => ?_)
    · have V := V1 c24
      refine r_iload_n dX1_goneAtSight_94 rfl rfl ?_
      refine r_iload_n dX1_goneAtSight_95 rfl rfl ?_
      obtain ⟨s25, V⟩ := V
      refine r_isub dX1_goneAtSight_96 s25 ?_
      exact r_iret dX1_goneAtSight_97 rfl V
    · have V := V2 c24
      refine r_iconst (x := 0) dX1_goneAtSight_90 rfl (by decide) ?_
      refine r_goto (tgt := 97) dX1_goneAtSight_91 (by decide) ?_
      exact r_iret dX1_goneAtSight_97 rfl V
  · have V := V2 c23
    refine r_aload_n dX1_goneAtSight_27 rfl rfl ?_
    refine r_getR (b := 4) dX1_goneAtSight_28 fX1_20 ob_1 (by decide) rfl rfl ?_
    refine r_iload dX1_goneAtSight_31 rfl ?_
    refine r_iconst (x := 0) dX1_goneAtSight_33 rfl (by decide) ?_
    refine r_callV (args := [vi x4, vi 0]) dX1_goneAtSight_34 kX1_93 ob_4 ⟨_, _, rfl⟩ (by decide) rfl rfl (Nat.le_of_ble_eq_true rfl) cap0 (Ev.mono V ?_)
    rintro r h' ⟨x27, n26, rfl, rfl, V⟩
    show Rn w mX1_goneAtSight (d + 1) G Q 37 [(0, vr 1), (1, vi x1), (2, vi x2), (3, vi x3), (4, vi x4)] [vi x27] (B0, n26)
    refine r_aload_n dX1_goneAtSight_37 rfl rfl ?_
    refine r_getR (b := 14) dX1_goneAtSight_38 fX1_35 ob_1 (by decide) rfl rfl ?_
    refine r_iload_n dX1_goneAtSight_41 rfl rfl ?_
    refine r_iconst (x := 0) dX1_goneAtSight_42 rfl (by decide) ?_
    refine r_callV (args := [vi x1, vi 0]) dX1_goneAtSight_43 kX1_93 ob_14 ⟨_, _, rfl⟩ (by decide) rfl rfl (Nat.le_of_ble_eq_true rfl) cap0 (Ev.mono V ?_)
    rintro r h' ⟨x29, n28, rfl, rfl, V⟩
    show Rn w mX1_goneAtSight (d + 1) G Q 46 [(0, vr 1), (1, vi x1), (2, vi x2), (3, vi x3), (4, vi x4)] [vi x29, vi x27] (B0, n28)
    obtain ⟨V1, V2⟩ := V
    refine r_jne (tgt := 79) dX1_goneAtSight_46 (by decide) (fun c30 => ?_) (fun c30 => ?_)
    · have V := V1 c30
      obtain ⟨s31, V⟩ := V
      refine r_iinc (y := x4 + 1) (ls' := [(0, vr 1), (1, vi x1), (2, vi x2), (3, vi x3), (4, vi (x4 + 1))]) dX1_goneAtSight_79 rfl rfl s31 (by decide) rfl ?_
      refine r_goto (tgt := 15) dX1_goneAtSight_82 (by decide) ?_
      exact V
    · have V := V2 c30
      refine r_aload_n dX1_goneAtSight_49 rfl rfl ?_
      refine r_iload dX1_goneAtSight_50 rfl ?_
      refine r_aload_n dX1_goneAtSight_52 rfl rfl ?_
      refine r_getR (b := 14) dX1_goneAtSight_53 fX1_35 ob_1 (by decide) rfl rfl ?_
      refine r_iload_n dX1_goneAtSight_56 rfl rfl ?_
      refine r_iconst (x := 2) dX1_goneAtSight_57 rfl (by decide) ?_
      refine r_callV (args := [vi x1, vi 2]) dX1_goneAtSight_58 kX1_93 ob_14 ⟨_, _, rfl⟩ (by decide) rfl rfl (Nat.le_of_ble_eq_true rfl) cap0 (Ev.mono V ?_)
      rintro r h' ⟨x33, n32, rfl, rfl, V⟩
      show Rn w mX1_goneAtSight (d + 1) G Q 61 [(0, vr 1), (1, vi x1), (2, vi x2), (3, vi x3), (4, vi x4)] [vi x33, vi x4, vr 1] (B0, n32)
      refine r_callV (args := [vi x4, vi x33]) dX1_goneAtSight_61 kX1_101 ob_1 ⟨_, _, rfl⟩ (by decide) rfl rfl (Nat.le_of_ble_eq_true rfl) cap0 (Ev.mono V ?_)
      rintro r h' ⟨x35, n34, rfl, rfl, V⟩
      show Rn w mX1_goneAtSight (d + 1) G Q 64 [(0, vr 1), (1, vi x1), (2, vi x2), (3, vi x3), (4, vi x4)] [vi x35] (B0, n34)
      refine r_istore (ls' := [(0, vr 1), (1, vi x1), (2, vi x2), (3, vi x3), (4, vi x4), (5, vi x35)]) dX1_goneAtSight_64 (by decide) rfl ?_
      refine r_iload dX1_goneAtSight_66 rfl ?_
      refine r_iload_n dX1_goneAtSight_68 rfl rfl ?_
      have K : ∀ z37 : Int, z37 = (if x2 < x35 then x3 else max x3 x35) → Rn w mX1_goneAtSight (d + 1) G Q 79 [(0, vr 1), (1, vi x1), (2, vi x2), (3, vi z37), (4, vi x4)] [] (B0, n34) := by
        intro z37 ez37
        have V := V z37 ez37
        obtain ⟨s38, V⟩ := V
        refine r_iinc (y := x4 + 1) (ls' := [(0, vr 1), (1, vi x1), (2, vi x2), (3, vi z37), (4, vi (x4 + 1))]) dX1_goneAtSight_79 rfl rfl s38 (by decide) rfl ?_
        refine r_goto (tgt := 15) dX1_goneAtSight_82 (by decide) ?_
        exact V
      refine r_jgt (tgt := 79) dX1_goneAtSight_69 (by decide) (fun c36 => ?_) (fun c36 => ?_)
      · refine r_pick [0, 1, 2, 3, 4] (ls' := [(0, vr 1), (1, vi x1), (2, vi x2), (3, vi x3), (4, vi x4)]) rfl ?_
        exact K x3 (by first | rfl | (simp only [if_pos c36]))
      · refine r_iload_n dX1_goneAtSight_72 rfl rfl ?_
        refine r_iload dX1_goneAtSight_73 rfl ?_
        refine r_mmax dX1_goneAtSight_75 kX1_104 (Nat.le_of_ble_eq_true rfl) ?_
        refine r_istore_n (ls' := [(0, vr 1), (1, vi x1), (2, vi x2), (3, vi (max x3 x35)), (4, vi x4), (5, vi x35)]) dX1_goneAtSight_78 rfl (by decide) rfl ?_
        refine r_pick [0, 1, 2, 3, 4] (ls' := [(0, vr 1), (1, vi x1), (2, vi x2), (3, vi (max x3 x35)), (4, vi x4)]) rfl ?_
        exact K (max x3 x35) (by first | rfl | (simp only [if_neg (Int.not_lt.mpr c36)]))

theorem gX1_minuteOfPassing_0 {w : WD} {d : Nat} {G : GM} {Q : Option AV → Hp → Prop} {n : NM} {x1 x2 : Int}
    (V :
    (Ev w d 0 0 mX7_get [vr 4, vi x1, vi 1] (B0, n) (fun r h' => ∃ (x22 : Int) (n21 : NM), r = some (vi x22) ∧ h' = (B0, n21) ∧ 
      (x22 ≠ 0 → inI (23 - x2)) ∧
      (∀ z25 : Int, z25 = (if x22 ≠ 0 then 23 - x2 else x2) → 
      (Ev w d 0 0 mX7_get [vr 4, vi x1, vi 2] (B0, n21) (fun r h' => ∃ (x27 : Int) (n26 : NM), r = some (vi x27) ∧ h' = (B0, n26) ∧ 
        (Ev w d 0 0 mX7_get [vr 4, vi x1, vi 3] (B0, n26) (fun r h' => ∃ (x29 : Int) (n28 : NM), r = some (vi x29) ∧ h' = (B0, n28) ∧ 
          (inI (z25 * x29)) ∧
          (inI (x27 + (z25 * x29))) ∧
          Q (some (vi (x27 + (z25 * x29)))) (B0, n28))))))))) :
    Rn w mX1_minuteOfPassing (d + 1) G Q 0 [(0, vr 1), (1, vi x1), (2, vi x2)] [] (B0, n) := by
  refine r_aload_n dX1_minuteOfPassing_0 rfl rfl ?_
  refine r_getR (b := 4) dX1_minuteOfPassing_1 fX1_20 ob_1 (by decide) rfl rfl ?_
  refine r_iload_n dX1_minuteOfPassing_4 rfl rfl ?_
  refine r_iconst (x := 1) dX1_minuteOfPassing_5 rfl (by decide) ?_
  refine r_callV (args := [vi x1, vi 1]) dX1_minuteOfPassing_6 kX1_93 ob_4 ⟨_, _, rfl⟩ (by decide) rfl rfl (Nat.le_of_ble_eq_true rfl) cap0 (Ev.mono V ?_)
  rintro r h' ⟨x22, n21, rfl, rfl, V⟩
  show Rn w mX1_minuteOfPassing (d + 1) G Q 9 [(0, vr 1), (1, vi x1), (2, vi x2)] [vi x22] (B0, n21)
  obtain ⟨s24, V⟩ := V
  have K : ∀ z25 : Int, z25 = (if x22 ≠ 0 then 23 - x2 else x2) → Rn w mX1_minuteOfPassing (d + 1) G Q 20 [(0, vr 1), (1, vi x1)] [vi z25] (B0, n21) := by
    intro z25 ez25
    have V := V z25 ez25
    refine r_istore_n (ls' := [(0, vr 1), (1, vi x1), (3, vi z25)]) dX1_minuteOfPassing_20 rfl (by decide) rfl ?_
    refine r_aload_n dX1_minuteOfPassing_21 rfl rfl ?_
    refine r_getR (b := 4) dX1_minuteOfPassing_22 fX1_20 ob_1 (by decide) rfl rfl ?_
    refine r_iload_n dX1_minuteOfPassing_25 rfl rfl ?_
    refine r_iconst (x := 2) dX1_minuteOfPassing_26 rfl (by decide) ?_
    refine r_callV (args := [vi x1, vi 2]) dX1_minuteOfPassing_27 kX1_93 ob_4 ⟨_, _, rfl⟩ (by decide) rfl rfl (Nat.le_of_ble_eq_true rfl) cap0 (Ev.mono V ?_)
    rintro r h' ⟨x27, n26, rfl, rfl, V⟩
    show Rn w mX1_minuteOfPassing (d + 1) G Q 30 [(0, vr 1), (1, vi x1), (3, vi z25)] [vi x27] (B0, n26)
    refine r_iload_n dX1_minuteOfPassing_30 rfl rfl ?_
    refine r_aload_n dX1_minuteOfPassing_31 rfl rfl ?_
    refine r_getR (b := 4) dX1_minuteOfPassing_32 fX1_20 ob_1 (by decide) rfl rfl ?_
    refine r_iload_n dX1_minuteOfPassing_35 rfl rfl ?_
    refine r_iconst (x := 3) dX1_minuteOfPassing_36 rfl (by decide) ?_
    refine r_callV (args := [vi x1, vi 3]) dX1_minuteOfPassing_37 kX1_93 ob_4 ⟨_, _, rfl⟩ (by decide) rfl rfl (Nat.le_of_ble_eq_true rfl) cap0 (Ev.mono V ?_)
    rintro r h' ⟨x29, n28, rfl, rfl, V⟩
    show Rn w mX1_minuteOfPassing (d + 1) G Q 40 [(0, vr 1), (1, vi x1), (3, vi z25)] [vi x29, vi z25, vi x27] (B0, n28)
    obtain ⟨s30, V⟩ := V
    refine r_imul dX1_minuteOfPassing_40 s30 ?_
    obtain ⟨s31, V⟩ := V
    refine r_iadd dX1_minuteOfPassing_41 s31 ?_
    exact r_iret dX1_minuteOfPassing_42 rfl V
  refine r_zne (tgt := 16) dX1_minuteOfPassing_9 (by decide) (fun c23 => ?_) (fun c23 => ?_)
  · refine r_bipush (x := 23) dX1_minuteOfPassing_16 (by decide +kernel) (by decide) ?_
    refine r_iload_n dX1_minuteOfPassing_18 rfl rfl ?_
    refine r_isub dX1_minuteOfPassing_19 (s24 c23) ?_
    refine r_pick [0, 1] (ls' := [(0, vr 1), (1, vi x1)]) rfl ?_
    exact K (23 - x2) (by first | rfl | (simp only [if_pos c23]))
  · refine r_iload_n dX1_minuteOfPassing_12 rfl rfl ?_
    refine r_goto (tgt := 20) dX1_minuteOfPassing_13 (by decide) ?_
    refine r_pick [0, 1] (ls' := [(0, vr 1), (1, vi x1)]) rfl ?_
    exact K x2 (by first | rfl | (simp only [if_neg (show ¬ (x22 ≠ 0) from not_not_intro c23)]))

theorem gX1_hasBoatOn_0 {w : WD} {d : Nat} {G : GM} {Q : Option AV → Hp → Prop} {n : NM} {x1 : Int}
    (V :
    Rn w mX1_hasBoatOn d G Q 2 [(0, vr 1), (1, vi x1), (2, vi 0)] [] (B0, n)) :
    Rn w mX1_hasBoatOn d G Q 0 [(0, vr 1), (1, vi x1)] [] (B0, n) := by
  refine r_iconst (x := 0) dX1_hasBoatOn_0 rfl (by decide) ?_
  refine r_istore_n (ls' := [(0, vr 1), (1, vi x1), (2, vi 0)]) dX1_hasBoatOn_1 rfl (by decide) rfl ?_
  exact V

theorem gX1_hasBoatOn_2 {w : WD} {d : Nat} {G : GM} {Q : Option AV → Hp → Prop} {n : NM} {x1 x2 : Int}
    (V :
    (Ev w d 0 0 mX7_size [vr 4] (B0, n) (fun r h' => ∃ (x22 : Int) (n21 : NM), r = some (vi x22) ∧ h' = (B0, n21) ∧ 
      ((x22 ≤ x2 →
        Q (some (vi 0)) (B0, n21)) ∧
      (x2 < x22 →
        (Ev w d 0 0 mX7_get [vr 4, vi x2, vi 0] (B0, n21) (fun r h' => ∃ (x25 : Int) (n24 : NM), r = some (vi x25) ∧ h' = (B0, n24) ∧ 
          ((x25 ≠ x1 →
            (inI (x2 + 1)) ∧
            Rn w mX1_hasBoatOn (d + 1) G Q 2 [(0, vr 1), (1, vi x1), (2, vi (x2 + 1))] [] (B0, n24)) ∧
          (x25 = x1 →
            Q (some (vi 1)) (B0, n24)))))))))) :
    Rn w mX1_hasBoatOn (d + 1) G Q 2 [(0, vr 1), (1, vi x1), (2, vi x2)] [] (B0, n) := by
  refine r_iload_n dX1_hasBoatOn_2 rfl rfl ?_
  refine r_aload_n dX1_hasBoatOn_3 rfl rfl ?_
  refine r_getR (b := 4) dX1_hasBoatOn_4 fX1_20 ob_1 (by decide) rfl rfl ?_
  refine r_callV (args := []) dX1_hasBoatOn_7 kX1_97 ob_4 ⟨_, _, rfl⟩ (by decide) rfl rfl (Nat.le_of_ble_eq_true rfl) cap0 (Ev.mono V ?_)
  rintro r h' ⟨x22, n21, rfl, rfl, V⟩
  show Rn w mX1_hasBoatOn (d + 1) G Q 10 [(0, vr 1), (1, vi x1), (2, vi x2)] [vi x22, vi x2] (B0, n21)
  obtain ⟨V1, V2⟩ := V
  refine r_jge (tgt := 34) dX1_hasBoatOn_10 (by decide) (fun c23 => ?_) (fun c23 => ?_)
  · have V := V1 c23
    refine r_iconst (x := 0) dX1_hasBoatOn_34 rfl (by decide) ?_
    exact r_zret dX1_hasBoatOn_35 rfl (by decide) V
  · have V := V2 c23
    refine r_aload_n dX1_hasBoatOn_13 rfl rfl ?_
    refine r_getR (b := 4) dX1_hasBoatOn_14 fX1_20 ob_1 (by decide) rfl rfl ?_
    refine r_iload_n dX1_hasBoatOn_17 rfl rfl ?_
    refine r_iconst (x := 0) dX1_hasBoatOn_18 rfl (by decide) ?_
    refine r_callV (args := [vi x2, vi 0]) dX1_hasBoatOn_19 kX1_93 ob_4 ⟨_, _, rfl⟩ (by decide) rfl rfl (Nat.le_of_ble_eq_true rfl) cap0 (Ev.mono V ?_)
    rintro r h' ⟨x25, n24, rfl, rfl, V⟩
    show Rn w mX1_hasBoatOn (d + 1) G Q 22 [(0, vr 1), (1, vi x1), (2, vi x2)] [vi x25] (B0, n24)
    refine r_iload_n dX1_hasBoatOn_22 rfl rfl ?_
    obtain ⟨V1, V2⟩ := V
    refine r_jne (tgt := 28) dX1_hasBoatOn_23 (by decide) (fun c26 => ?_) (fun c26 => ?_)
    · have V := V1 c26
      obtain ⟨s27, V⟩ := V
      refine r_iinc (y := x2 + 1) (ls' := [(0, vr 1), (1, vi x1), (2, vi (x2 + 1))]) dX1_hasBoatOn_28 rfl rfl s27 (by decide) rfl ?_
      refine r_goto (tgt := 2) dX1_hasBoatOn_31 (by decide) ?_
      exact V
    · have V := V2 c26
      refine r_iconst (x := 1) dX1_hasBoatOn_26 rfl (by decide) ?_
      exact r_zret dX1_hasBoatOn_27 rfl (by decide) V

theorem gX1_causesOf_0 {w : WD} {d : Nat} {G : GM} {Q : Option AV → Hp → Prop} {n : NM} {x1 : Int}
    (V :
    (Ev w d 0 0 mX1_goneAtSight [vr 1, vi x1] (B0, n) (fun r h' => ∃ (x22 : Int) (n21 : NM), r = some (vi x22) ∧ h' = (B0, n21) ∧ 
      (Ev w d 0 0 mX11_within [vi x22, vi 1, vi 60] (B0, n21) (fun r h' => ∃ (x24 : Int) (n23 : NM), r = some (vi x24) ∧ h' = (B0, n23) ∧ 
        (∀ z26 : Int, z26 = (if x24 = 0 then 16 else ior 16 1) → 
        (Ev w d 0 0 mX1_hasBeastAt [vr 1, vi x1] (B0, n23) (fun r h' => ∃ (x28 : Int) (n27 : NM), r = some (vi x28) ∧ h' = (B0, n27) ∧ 
          (∀ z30 : Int, z30 = (if x28 = 0 then z26 else ior z26 2) → 
          (Ev w d 0 0 mX1_hasLogAt [vr 1, vi x1] (B0, n27) (fun r h' => ∃ (x32 : Int) (n31 : NM), r = some (vi x32) ∧ h' = (B0, n31) ∧ 
            (∀ z34 : Int, z34 = (if x32 = 0 then z30 else ior z30 4) → 
            (Ev w d 0 0 mX7_get [vr 14, vi x1, vi 0] (B0, n31) (fun r h' => ∃ (x36 : Int) (n35 : NM), r = some (vi x36) ∧ h' = (B0, n35) ∧ 
              (Ev w d 0 0 mX7_get [vr 2, vi x36, vi 1] (B0, n35) (fun r h' => ∃ (x38 : Int) (n37 : NM), r = some (vi x38) ∧ h' = (B0, n37) ∧ 
                (∀ z40 : Int, z40 = (if x38 ≤ 0 then z34 else ior z34 8) → 
                Q (some (vi z40)) (B0, n37)))))))))))))))))) :
    Rn w mX1_causesOf (d + 1) G Q 0 [(0, vr 1), (1, vi x1)] [] (B0, n) := by
  refine r_bipush (x := 16) dX1_causesOf_0 (by decide +kernel) (by decide) ?_
  refine r_istore_n (ls' := [(0, vr 1), (1, vi x1), (2, vi 16)]) dX1_causesOf_2 rfl (by decide) rfl ?_
  refine r_aload_n dX1_causesOf_3 rfl rfl ?_
  refine r_iload_n dX1_causesOf_4 rfl rfl ?_
  refine r_callV (args := [vi x1]) dX1_causesOf_5 kX1_109 ob_1 ⟨_, _, rfl⟩ (by decide) rfl rfl (Nat.le_of_ble_eq_true rfl) cap0 (Ev.mono V ?_)
  rintro r h' ⟨x22, n21, rfl, rfl, V⟩
  show Rn w mX1_causesOf (d + 1) G Q 8 [(0, vr 1), (1, vi x1), (2, vi 16)] [vi x22] (B0, n21)
  refine r_iconst (x := 1) dX1_causesOf_8 rfl (by decide) ?_
  refine r_bipush (x := 60) dX1_causesOf_9 (by decide +kernel) (by decide) ?_
  refine r_callSN (args := [vi x22, vi 1, vi 60]) dX1_causesOf_11 kX1_77 rfl rfl (Nat.le_of_ble_eq_true rfl) cap0 (Ev.mono V ?_)
  rintro r h' ⟨x24, n23, rfl, rfl, V⟩
  show Rn w mX1_causesOf (d + 1) G Q 14 [(0, vr 1), (1, vi x1), (2, vi 16)] [vi x24] (B0, n23)
  have K : ∀ z26 : Int, z26 = (if x24 = 0 then 16 else ior 16 1) → Rn w mX1_causesOf (d + 1) G Q 21 [(0, vr 1), (1, vi x1), (2, vi z26)] [] (B0, n23) := by
    intro z26 ez26
    have V := V z26 ez26
    refine r_aload_n dX1_causesOf_21 rfl rfl ?_
    refine r_iload_n dX1_causesOf_22 rfl rfl ?_
    refine r_callV (args := [vi x1]) dX1_causesOf_23 kX1_113 ob_1 ⟨_, _, rfl⟩ (by decide) rfl rfl (Nat.le_of_ble_eq_true rfl) cap0 (Ev.mono V ?_)
    rintro r h' ⟨x28, n27, rfl, rfl, V⟩
    show Rn w mX1_causesOf (d + 1) G Q 26 [(0, vr 1), (1, vi x1), (2, vi z26)] [vi x28] (B0, n27)
    have K : ∀ z30 : Int, z30 = (if x28 = 0 then z26 else ior z26 2) → Rn w mX1_causesOf (d + 1) G Q 33 [(0, vr 1), (1, vi x1), (2, vi z30)] [] (B0, n27) := by
      intro z30 ez30
      have V := V z30 ez30
      refine r_aload_n dX1_causesOf_33 rfl rfl ?_
      refine r_iload_n dX1_causesOf_34 rfl rfl ?_
      refine r_callV (args := [vi x1]) dX1_causesOf_35 kX1_116 ob_1 ⟨_, _, rfl⟩ (by decide) rfl rfl (Nat.le_of_ble_eq_true rfl) cap0 (Ev.mono V ?_)
      rintro r h' ⟨x32, n31, rfl, rfl, V⟩
      show Rn w mX1_causesOf (d + 1) G Q 38 [(0, vr 1), (1, vi x1), (2, vi z30)] [vi x32] (B0, n31)
      have K : ∀ z34 : Int, z34 = (if x32 = 0 then z30 else ior z30 4) → Rn w mX1_causesOf (d + 1) G Q 45 [(0, vr 1), (1, vi x1), (2, vi z34)] [] (B0, n31) := by
        intro z34 ez34
        have V := V z34 ez34
        refine r_aload_n dX1_causesOf_45 rfl rfl ?_
        refine r_getR (b := 2) dX1_causesOf_46 fX1_14 ob_1 (by decide) rfl rfl ?_
        refine r_aload_n dX1_causesOf_49 rfl rfl ?_
        refine r_getR (b := 14) dX1_causesOf_50 fX1_35 ob_1 (by decide) rfl rfl ?_
        refine r_iload_n dX1_causesOf_53 rfl rfl ?_
        refine r_iconst (x := 0) dX1_causesOf_54 rfl (by decide) ?_
        refine r_callV (args := [vi x1, vi 0]) dX1_causesOf_55 kX1_93 ob_14 ⟨_, _, rfl⟩ (by decide) rfl rfl (Nat.le_of_ble_eq_true rfl) cap0 (Ev.mono V ?_)
        rintro r h' ⟨x36, n35, rfl, rfl, V⟩
        show Rn w mX1_causesOf (d + 1) G Q 58 [(0, vr 1), (1, vi x1), (2, vi z34)] [vi x36, vr 2] (B0, n35)
        refine r_iconst (x := 1) dX1_causesOf_58 rfl (by decide) ?_
        refine r_callV (args := [vi x36, vi 1]) dX1_causesOf_59 kX1_93 ob_2 ⟨_, _, rfl⟩ (by decide) rfl rfl (Nat.le_of_ble_eq_true rfl) cap0 (Ev.mono V ?_)
        rintro r h' ⟨x38, n37, rfl, rfl, V⟩
        show Rn w mX1_causesOf (d + 1) G Q 62 [(0, vr 1), (1, vi x1), (2, vi z34)] [vi x38] (B0, n37)
        have K : ∀ z40 : Int, z40 = (if x38 ≤ 0 then z34 else ior z34 8) → Rn w mX1_causesOf (d + 1) G Q 70 [(2, vi z40)] [] (B0, n37) := by
          intro z40 ez40
          have V := V z40 ez40
          refine r_iload_n dX1_causesOf_70 rfl rfl ?_
          exact r_iret dX1_causesOf_71 rfl V
        refine r_zle (tgt := 70) dX1_causesOf_62 (by decide) (fun c39 => ?_) (fun c39 => ?_)
        · refine r_pick [2] (ls' := [(2, vi z34)]) rfl ?_
          exact K z34 (by first | rfl | (simp only [if_pos c39]))
        · refine r_iload_n dX1_causesOf_65 rfl rfl ?_
          refine r_bipush (x := 8) dX1_causesOf_66 (by decide +kernel) (by decide) ?_
          refine r_ior dX1_causesOf_68 ?_
          refine r_istore_n (ls' := [(0, vr 1), (1, vi x1), (2, vi (ior z34 8))]) dX1_causesOf_69 rfl (by decide) rfl ?_
          refine r_pick [2] (ls' := [(2, vi (ior z34 8))]) rfl ?_
          exact K (ior z34 8) (by first | rfl | (simp only [if_neg (Int.not_le.mpr c39)]))
      refine r_zeq (tgt := 45) dX1_causesOf_38 (by decide) (fun c33 => ?_) (fun c33 => ?_)
      · exact K z30 (by first | rfl | (simp only [if_pos c33]))
      · refine r_iload_n dX1_causesOf_41 rfl rfl ?_
        refine r_iconst (x := 4) dX1_causesOf_42 rfl (by decide) ?_
        refine r_ior dX1_causesOf_43 ?_
        refine r_istore_n (ls' := [(0, vr 1), (1, vi x1), (2, vi (ior z30 4))]) dX1_causesOf_44 rfl (by decide) rfl ?_
        exact K (ior z30 4) (by first | rfl | (simp only [if_neg c33]))
    refine r_zeq (tgt := 33) dX1_causesOf_26 (by decide) (fun c29 => ?_) (fun c29 => ?_)
    · exact K z26 (by first | rfl | (simp only [if_pos c29]))
    · refine r_iload_n dX1_causesOf_29 rfl rfl ?_
      refine r_iconst (x := 2) dX1_causesOf_30 rfl (by decide) ?_
      refine r_ior dX1_causesOf_31 ?_
      refine r_istore_n (ls' := [(0, vr 1), (1, vi x1), (2, vi (ior z26 2))]) dX1_causesOf_32 rfl (by decide) rfl ?_
      exact K (ior z26 2) (by first | rfl | (simp only [if_neg c29]))
  refine r_zeq (tgt := 21) dX1_causesOf_14 (by decide) (fun c25 => ?_) (fun c25 => ?_)
  · exact K 16 (by first | rfl | (simp only [if_pos c25]))
  · refine r_iload_n dX1_causesOf_17 rfl rfl ?_
    refine r_iconst (x := 1) dX1_causesOf_18 rfl (by decide) ?_
    refine r_ior dX1_causesOf_19 ?_
    refine r_istore_n (ls' := [(0, vr 1), (1, vi x1), (2, vi (ior 16 1))]) dX1_causesOf_20 rfl (by decide) rfl ?_
    exact K (ior 16 1) (by first | rfl | (simp only [if_neg c25]))

theorem gX1_hasBeastAt_0 {w : WD} {d : Nat} {G : GM} {Q : Option AV → Hp → Prop} {n : NM} {x1 : Int}
    (V :
    Rn w mX1_hasBeastAt d G Q 2 [(0, vr 1), (1, vi x1), (2, vi 0)] [] (B0, n)) :
    Rn w mX1_hasBeastAt d G Q 0 [(0, vr 1), (1, vi x1)] [] (B0, n) := by
  refine r_iconst (x := 0) dX1_hasBeastAt_0 rfl (by decide) ?_
  refine r_istore_n (ls' := [(0, vr 1), (1, vi x1), (2, vi 0)]) dX1_hasBeastAt_1 rfl (by decide) rfl ?_
  exact V

theorem gX1_hasBeastAt_2 {w : WD} {d : Nat} {G : GM} {Q : Option AV → Hp → Prop} {n : NM} {x1 x2 : Int}
    (V :
    (Ev w d 0 0 mX7_size [vr 6] (B0, n) (fun r h' => ∃ (x22 : Int) (n21 : NM), r = some (vi x22) ∧ h' = (B0, n21) ∧ 
      ((x22 ≤ x2 →
        Q (some (vi 0)) (B0, n21)) ∧
      (x2 < x22 →
        (Ev w d 0 0 mX7_get [vr 6, vi x2, vi 0] (B0, n21) (fun r h' => ∃ (x25 : Int) (n24 : NM), r = some (vi x25) ∧ h' = (B0, n24) ∧ 
          (Ev w d 0 0 mX7_get [vr 14, vi x1, vi 0] (B0, n24) (fun r h' => ∃ (x27 : Int) (n26 : NM), r = some (vi x27) ∧ h' = (B0, n26) ∧ 
            (∀ z29 : Int, z29 = (if x25 ≠ x27 then 0 else 1) → 
            (Ev w d 0 0 mX7_get [vr 6, vi x2, vi 1] (B0, n26) (fun r h' => ∃ (x31 : Int) (n30 : NM), r = some (vi x31) ∧ h' = (B0, n30) ∧ 
              (Ev w d 0 0 mX7_get [vr 14, vi x1, vi 2] (B0, n30) (fun r h' => ∃ (x33 : Int) (n32 : NM), r = some (vi x33) ∧ h' = (B0, n32) ∧ 
                (inI (x31 - x33)) ∧
                (-2147483647 ≤ x31 - x33) ∧
                (Ev w d 0 0 mX7_get [vr 6, vi x2, vi 2] (B0, n32) (fun r h' => ∃ (x37 : Int) (n36 : NM), r = some (vi x37) ∧ h' = (B0, n36) ∧ 
                  (Ev w d 0 0 mX7_get [vr 6, vi x2, vi 3] (B0, n36) (fun r h' => ∃ (x39 : Int) (n38 : NM), r = some (vi x39) ∧ h' = (B0, n38) ∧ 
                    ((z29 = 0 →
                      (inI (x2 + 1)) ∧
                      Rn w mX1_hasBeastAt (d + 1) G Q 2 [(0, vr 1), (1, vi x1), (2, vi (x2 + 1))] [] (B0, n38)) ∧
                    (z29 ≠ 0 →
                      ((1 < (if 0 ≤ x31 - x33 then x31 - x33 else -(x31 - x33)) →
                        (inI (x2 + 1)) ∧
                        Rn w mX1_hasBeastAt (d + 1) G Q 2 [(0, vr 1), (1, vi x1), (2, vi (x2 + 1))] [] (B0, n38)) ∧
                      ((if 0 ≤ x31 - x33 then x31 - x33 else -(x31 - x33)) ≤ 1 →
                        (Ev w d 0 0 mX7_get [vr 14, vi x1, vi 1] (B0, n38) (fun r h' => ∃ (x45 : Int) (n44 : NM), r = some (vi x45) ∧ h' = (B0, n44) ∧ 
                          (Ev w d 0 0 mX11_within [vi x45, vi x37, vi x39] (B0, n44) (fun r h' => ∃ (x47 : Int) (n46 : NM), r = some (vi x47) ∧ h' = (B0, n46) ∧ 
                            ((x47 = 0 →
                              (inI (x2 + 1)) ∧
                              Rn w mX1_hasBeastAt (d + 1) G Q 2 [(0, vr 1), (1, vi x1), (2, vi (x2 + 1))] [] (B0, n46)) ∧
                            (x47 ≠ 0 →
                              Q (some (vi 1)) (B0, n46))))))))))))))))))))))))))))) :
    Rn w mX1_hasBeastAt (d + 1) G Q 2 [(0, vr 1), (1, vi x1), (2, vi x2)] [] (B0, n) := by
  refine r_iload_n dX1_hasBeastAt_2 rfl rfl ?_
  refine r_aload_n dX1_hasBeastAt_3 rfl rfl ?_
  refine r_getR (b := 6) dX1_hasBeastAt_4 fX1_23 ob_1 (by decide) rfl rfl ?_
  refine r_callV (args := []) dX1_hasBeastAt_7 kX1_97 ob_6 ⟨_, _, rfl⟩ (by decide) rfl rfl (Nat.le_of_ble_eq_true rfl) cap0 (Ev.mono V ?_)
  rintro r h' ⟨x22, n21, rfl, rfl, V⟩
  show Rn w mX1_hasBeastAt (d + 1) G Q 10 [(0, vr 1), (1, vi x1), (2, vi x2)] [vi x22, vi x2] (B0, n21)
  obtain ⟨V1, V2⟩ := V
  refine r_jge (tgt := 123) dX1_hasBeastAt_10 (by decide) (fun c23 => ?_) (fun c23 => ?_)
  · have V := V1 c23
    refine r_iconst (x := 0) dX1_hasBeastAt_123 rfl (by decide) ?_
    exact r_zret dX1_hasBeastAt_124 rfl (by decide) V
  · have V := V2 c23
    refine r_aload_n dX1_hasBeastAt_13 rfl rfl ?_
    refine r_getR (b := 6) dX1_hasBeastAt_14 fX1_23 ob_1 (by decide) rfl rfl ?_
    refine r_iload_n dX1_hasBeastAt_17 rfl rfl ?_
    refine r_iconst (x := 0) dX1_hasBeastAt_18 rfl (by decide) ?_
    refine r_callV (args := [vi x2, vi 0]) dX1_hasBeastAt_19 kX1_93 ob_6 ⟨_, _, rfl⟩ (by decide) rfl rfl (Nat.le_of_ble_eq_true rfl) cap0 (Ev.mono V ?_)
    rintro r h' ⟨x25, n24, rfl, rfl, V⟩
    show Rn w mX1_hasBeastAt (d + 1) G Q 22 [(0, vr 1), (1, vi x1), (2, vi x2)] [vi x25] (B0, n24)
    refine r_aload_n dX1_hasBeastAt_22 rfl rfl ?_
    refine r_getR (b := 14) dX1_hasBeastAt_23 fX1_35 ob_1 (by decide) rfl rfl ?_
    refine r_iload_n dX1_hasBeastAt_26 rfl rfl ?_
    refine r_iconst (x := 0) dX1_hasBeastAt_27 rfl (by decide) ?_
    refine r_callV (args := [vi x1, vi 0]) dX1_hasBeastAt_28 kX1_93 ob_14 ⟨_, _, rfl⟩ (by decide) rfl rfl (Nat.le_of_ble_eq_true rfl) cap0 (Ev.mono V ?_)
    rintro r h' ⟨x27, n26, rfl, rfl, V⟩
    show Rn w mX1_hasBeastAt (d + 1) G Q 31 [(0, vr 1), (1, vi x1), (2, vi x2)] [vi x27, vi x25] (B0, n26)
    have K : ∀ z29 : Int, z29 = (if x25 ≠ x27 then 0 else 1) → Rn w mX1_hasBeastAt (d + 1) G Q 39 [(0, vr 1), (1, vi x1), (2, vi x2)] [vi z29] (B0, n26) := by
      intro z29 ez29
      have V := V z29 ez29
      refine r_istore_n (ls' := [(0, vr 1), (1, vi x1), (2, vi x2), (3, vi z29)]) dX1_hasBeastAt_39 rfl (by decide) rfl ?_
      refine r_aload_n dX1_hasBeastAt_40 rfl rfl ?_
      refine r_getR (b := 6) dX1_hasBeastAt_41 fX1_23 ob_1 (by decide) rfl rfl ?_
      refine r_iload_n dX1_hasBeastAt_44 rfl rfl ?_
      refine r_iconst (x := 1) dX1_hasBeastAt_45 rfl (by decide) ?_
      refine r_callV (args := [vi x2, vi 1]) dX1_hasBeastAt_46 kX1_93 ob_6 ⟨_, _, rfl⟩ (by decide) rfl rfl (Nat.le_of_ble_eq_true rfl) cap0 (Ev.mono V ?_)
      rintro r h' ⟨x31, n30, rfl, rfl, V⟩
      show Rn w mX1_hasBeastAt (d + 1) G Q 49 [(0, vr 1), (1, vi x1), (2, vi x2), (3, vi z29)] [vi x31] (B0, n30)
      refine r_aload_n dX1_hasBeastAt_49 rfl rfl ?_
      refine r_getR (b := 14) dX1_hasBeastAt_50 fX1_35 ob_1 (by decide) rfl rfl ?_
      refine r_iload_n dX1_hasBeastAt_53 rfl rfl ?_
      refine r_iconst (x := 2) dX1_hasBeastAt_54 rfl (by decide) ?_
      refine r_callV (args := [vi x1, vi 2]) dX1_hasBeastAt_55 kX1_93 ob_14 ⟨_, _, rfl⟩ (by decide) rfl rfl (Nat.le_of_ble_eq_true rfl) cap0 (Ev.mono V ?_)
      rintro r h' ⟨x33, n32, rfl, rfl, V⟩
      show Rn w mX1_hasBeastAt (d + 1) G Q 58 [(0, vr 1), (1, vi x1), (2, vi x2), (3, vi z29)] [vi x33, vi x31] (B0, n32)
      obtain ⟨s34, V⟩ := V
      refine r_isub dX1_hasBeastAt_58 s34 ?_
      obtain ⟨s35, V⟩ := V
      refine r_mabs dX1_hasBeastAt_59 kX1_119 (Nat.le_of_ble_eq_true rfl) s35 ?_
      refine r_istore (ls' := [(0, vr 1), (1, vi x1), (2, vi x2), (3, vi z29), (4, vi (if 0 ≤ x31 - x33 then x31 - x33 else -(x31 - x33)))]) dX1_hasBeastAt_62 (by decide) rfl ?_
      refine r_aload_n dX1_hasBeastAt_64 rfl rfl ?_
      refine r_getR (b := 6) dX1_hasBeastAt_65 fX1_23 ob_1 (by decide) rfl rfl ?_
      refine r_iload_n dX1_hasBeastAt_68 rfl rfl ?_
      refine r_iconst (x := 2) dX1_hasBeastAt_69 rfl (by decide) ?_
      refine r_callV (args := [vi x2, vi 2]) dX1_hasBeastAt_70 kX1_93 ob_6 ⟨_, _, rfl⟩ (by decide) rfl rfl (Nat.le_of_ble_eq_true rfl) cap0 (Ev.mono V ?_)
      rintro r h' ⟨x37, n36, rfl, rfl, V⟩
      show Rn w mX1_hasBeastAt (d + 1) G Q 73 [(0, vr 1), (1, vi x1), (2, vi x2), (3, vi z29), (4, vi (if 0 ≤ x31 - x33 then x31 - x33 else -(x31 - x33)))] [vi x37] (B0, n36)
      refine r_istore (ls' := [(0, vr 1), (1, vi x1), (2, vi x2), (3, vi z29), (4, vi (if 0 ≤ x31 - x33 then x31 - x33 else -(x31 - x33))), (5, vi x37)]) dX1_hasBeastAt_73 (by decide) rfl ?_
      refine r_aload_n dX1_hasBeastAt_75 rfl rfl ?_
      refine r_getR (b := 6) dX1_hasBeastAt_76 fX1_23 ob_1 (by decide) rfl rfl ?_
      refine r_iload_n dX1_hasBeastAt_79 rfl rfl ?_
      refine r_iconst (x := 3) dX1_hasBeastAt_80 rfl (by decide) ?_
      refine r_callV (args := [vi x2, vi 3]) dX1_hasBeastAt_81 kX1_93 ob_6 ⟨_, _, rfl⟩ (by decide) rfl rfl (Nat.le_of_ble_eq_true rfl) cap0 (Ev.mono V ?_)
      rintro r h' ⟨x39, n38, rfl, rfl, V⟩
      show Rn w mX1_hasBeastAt (d + 1) G Q 84 [(0, vr 1), (1, vi x1), (2, vi x2), (3, vi z29), (4, vi (if 0 ≤ x31 - x33 then x31 - x33 else -(x31 - x33))), (5, vi x37)] [vi x39] (B0, n38)
      refine r_istore (ls' := [(0, vr 1), (1, vi x1), (2, vi x2), (3, vi z29), (4, vi (if 0 ≤ x31 - x33 then x31 - x33 else -(x31 - x33))), (5, vi x37), (6, vi x39)]) dX1_hasBeastAt_84 (by decide) rfl ?_
      refine r_iload_n dX1_hasBeastAt_86 rfl rfl ?_
      obtain ⟨V1, V2⟩ := V
      refine r_zeq (tgt := 117) dX1_hasBeastAt_87 (by decide) (fun c40 => ?_) (fun c40 => ?_)
      · have V := V1 c40
        obtain ⟨s41, V⟩ := V
        refine r_iinc (y := x2 + 1) (ls' := [(0, vr 1), (1, vi x1), (2, vi (x2 + 1)), (3, vi z29), (4, vi (if 0 ≤ x31 - x33 then x31 - x33 else -(x31 - x33))), (5, vi x37), (6, vi x39)]) dX1_hasBeastAt_117 rfl rfl s41 (by decide) rfl ?_
        refine r_goto (tgt := 2) dX1_hasBeastAt_120 (by decide) ?_
        refine r_pick [0, 1, 2] (ls' := [(0, vr 1), (1, vi x1), (2, vi (x2 + 1))]) rfl ?_
        exact V
      · have V := V2 c40
        refine r_iload dX1_hasBeastAt_90 rfl ?_
        refine r_iconst (x := 1) dX1_hasBeastAt_92 rfl (by decide) ?_
        obtain ⟨V1, V2⟩ := V
        refine r_jgt (tgt := 117) dX1_hasBeastAt_93 (by decide) (fun c42 => ?_) (fun c42 => ?_)
        · have V := V1 c42
          obtain ⟨s43, V⟩ := V
          refine r_iinc (y := x2 + 1) (ls' := [(0, vr 1), (1, vi x1), (2, vi (x2 + 1)), (3, vi z29), (4, vi (if 0 ≤ x31 - x33 then x31 - x33 else -(x31 - x33))), (5, vi x37), (6, vi x39)]) dX1_hasBeastAt_117 rfl rfl s43 (by decide) rfl ?_
          refine r_goto (tgt := 2) dX1_hasBeastAt_120 (by decide) ?_
          refine r_pick [0, 1, 2] (ls' := [(0, vr 1), (1, vi x1), (2, vi (x2 + 1))]) rfl ?_
          exact V
        · have V := V2 c42
          refine r_aload_n dX1_hasBeastAt_96 rfl rfl ?_
          refine r_getR (b := 14) dX1_hasBeastAt_97 fX1_35 ob_1 (by decide) rfl rfl ?_
          refine r_iload_n dX1_hasBeastAt_100 rfl rfl ?_
          refine r_iconst (x := 1) dX1_hasBeastAt_101 rfl (by decide) ?_
          refine r_callV (args := [vi x1, vi 1]) dX1_hasBeastAt_102 kX1_93 ob_14 ⟨_, _, rfl⟩ (by decide) rfl rfl (Nat.le_of_ble_eq_true rfl) cap0 (Ev.mono V ?_)
          rintro r h' ⟨x45, n44, rfl, rfl, V⟩
          show Rn w mX1_hasBeastAt (d + 1) G Q 105 [(0, vr 1), (1, vi x1), (2, vi x2), (3, vi z29), (4, vi (if 0 ≤ x31 - x33 then x31 - x33 else -(x31 - x33))), (5, vi x37), (6, vi x39)] [vi x45] (B0, n44)
          refine r_iload dX1_hasBeastAt_105 rfl ?_
          refine r_iload dX1_hasBeastAt_107 rfl ?_
          refine r_callSN (args := [vi x45, vi x37, vi x39]) dX1_hasBeastAt_109 kX1_77 rfl rfl (Nat.le_of_ble_eq_true rfl) cap0 (Ev.mono V ?_)
          rintro r h' ⟨x47, n46, rfl, rfl, V⟩
          show Rn w mX1_hasBeastAt (d + 1) G Q 112 [(0, vr 1), (1, vi x1), (2, vi x2), (3, vi z29), (4, vi (if 0 ≤ x31 - x33 then x31 - x33 else -(x31 - x33))), (5, vi x37), (6, vi x39)] [vi x47] (B0, n46)
          obtain ⟨V1, V2⟩ := V
          refine r_zeq (tgt := 117) dX1_hasBeastAt_112 (by decide) (fun c48 => ?_) (fun c48 => ?_)
          · have V := V1 c48
            obtain ⟨s49, V⟩ := V
            refine r_iinc (y := x2 + 1) (ls' := [(0, vr 1), (1, vi x1), (2, vi (x2 + 1)), (3, vi z29), (4, vi (if 0 ≤ x31 - x33 then x31 - x33 else -(x31 - x33))), (5, vi x37), (6, vi x39)]) dX1_hasBeastAt_117 rfl rfl s49 (by decide) rfl ?_
            refine r_goto (tgt := 2) dX1_hasBeastAt_120 (by decide) ?_
            refine r_pick [0, 1, 2] (ls' := [(0, vr 1), (1, vi x1), (2, vi (x2 + 1))]) rfl ?_
            exact V
          · have V := V2 c48
            refine r_iconst (x := 1) dX1_hasBeastAt_115 rfl (by decide) ?_
            exact r_zret dX1_hasBeastAt_116 rfl (by decide) V
    refine r_jne (tgt := 38) dX1_hasBeastAt_31 (by decide) (fun c28 => ?_) (fun c28 => ?_)
    · refine r_iconst (x := 0) dX1_hasBeastAt_38 rfl (by decide) ?_
      exact K 0 (by first | rfl | (simp only [if_pos c28]))
    · refine r_iconst (x := 1) dX1_hasBeastAt_34 rfl (by decide) ?_
      refine r_goto (tgt := 39) dX1_hasBeastAt_35 (by decide) ?_
      exact K 1 (by first | rfl | (simp only [if_neg (show ¬ (x25 ≠ x27) from not_not_intro c28)]))

theorem gX1_hasLogAt_0 {w : WD} {d : Nat} {G : GM} {Q : Option AV → Hp → Prop} {n : NM} {x1 : Int}
    (V :
    Rn w mX1_hasLogAt d G Q 2 [(0, vr 1), (1, vi x1), (2, vi 0)] [] (B0, n)) :
    Rn w mX1_hasLogAt d G Q 0 [(0, vr 1), (1, vi x1)] [] (B0, n) := by
  refine r_iconst (x := 0) dX1_hasLogAt_0 rfl (by decide) ?_
  refine r_istore_n (ls' := [(0, vr 1), (1, vi x1), (2, vi 0)]) dX1_hasLogAt_1 rfl (by decide) rfl ?_
  exact V

theorem gX1_hasLogAt_2 {w : WD} {d : Nat} {G : GM} {Q : Option AV → Hp → Prop} {n : NM} {x1 x2 : Int}
    (V :
    (Ev w d 0 0 mX7_size [vr 8] (B0, n) (fun r h' => ∃ (x22 : Int) (n21 : NM), r = some (vi x22) ∧ h' = (B0, n21) ∧ 
      ((x22 ≤ x2 →
        Q (some (vi 0)) (B0, n21)) ∧
      (x2 < x22 →
        (Ev w d 0 0 mX7_get [vr 8, vi x2, vi 0] (B0, n21) (fun r h' => ∃ (x25 : Int) (n24 : NM), r = some (vi x25) ∧ h' = (B0, n24) ∧ 
          (Ev w d 0 0 mX7_get [vr 14, vi x1, vi 0] (B0, n24) (fun r h' => ∃ (x27 : Int) (n26 : NM), r = some (vi x27) ∧ h' = (B0, n26) ∧ 
            ((x25 ≠ x27 →
              (inI (x2 + 1)) ∧
              Rn w mX1_hasLogAt (d + 1) G Q 2 [(0, vr 1), (1, vi x1), (2, vi (x2 + 1))] [] (B0, n26)) ∧
            (x25 = x27 →
              (Ev w d 0 0 mX7_get [vr 8, vi x2, vi 1] (B0, n26) (fun r h' => ∃ (x31 : Int) (n30 : NM), r = some (vi x31) ∧ h' = (B0, n30) ∧ 
                (Ev w d 0 0 mX7_get [vr 14, vi x1, vi 2] (B0, n30) (fun r h' => ∃ (x33 : Int) (n32 : NM), r = some (vi x33) ∧ h' = (B0, n32) ∧ 
                  ((x31 ≠ x33 →
                    (inI (x2 + 1)) ∧
                    Rn w mX1_hasLogAt (d + 1) G Q 2 [(0, vr 1), (1, vi x1), (2, vi (x2 + 1))] [] (B0, n32)) ∧
                  (x31 = x33 →
                    Q (some (vi 1)) (B0, n32)))))))))))))))))) :
    Rn w mX1_hasLogAt (d + 1) G Q 2 [(0, vr 1), (1, vi x1), (2, vi x2)] [] (B0, n) := by
  refine r_iload_n dX1_hasLogAt_2 rfl rfl ?_
  refine r_aload_n dX1_hasLogAt_3 rfl rfl ?_
  refine r_getR (b := 8) dX1_hasLogAt_4 fX1_26 ob_1 (by decide) rfl rfl ?_
  refine r_callV (args := []) dX1_hasLogAt_7 kX1_97 ob_8 ⟨_, _, rfl⟩ (by decide) rfl rfl (Nat.le_of_ble_eq_true rfl) cap0 (Ev.mono V ?_)
  rintro r h' ⟨x22, n21, rfl, rfl, V⟩
  show Rn w mX1_hasLogAt (d + 1) G Q 10 [(0, vr 1), (1, vi x1), (2, vi x2)] [vi x22, vi x2] (B0, n21)
  obtain ⟨V1, V2⟩ := V
  refine r_jge (tgt := 63) dX1_hasLogAt_10 (by decide) (fun c23 => ?_) (fun c23 => ?_)
  · have V := V1 c23
    refine r_iconst (x := 0) dX1_hasLogAt_63 rfl (by decide) ?_
    exact r_zret dX1_hasLogAt_64 rfl (by decide) V
  · have V := V2 c23
    refine r_aload_n dX1_hasLogAt_13 rfl rfl ?_
    refine r_getR (b := 8) dX1_hasLogAt_14 fX1_26 ob_1 (by decide) rfl rfl ?_
    refine r_iload_n dX1_hasLogAt_17 rfl rfl ?_
    refine r_iconst (x := 0) dX1_hasLogAt_18 rfl (by decide) ?_
    refine r_callV (args := [vi x2, vi 0]) dX1_hasLogAt_19 kX1_93 ob_8 ⟨_, _, rfl⟩ (by decide) rfl rfl (Nat.le_of_ble_eq_true rfl) cap0 (Ev.mono V ?_)
    rintro r h' ⟨x25, n24, rfl, rfl, V⟩
    show Rn w mX1_hasLogAt (d + 1) G Q 22 [(0, vr 1), (1, vi x1), (2, vi x2)] [vi x25] (B0, n24)
    refine r_aload_n dX1_hasLogAt_22 rfl rfl ?_
    refine r_getR (b := 14) dX1_hasLogAt_23 fX1_35 ob_1 (by decide) rfl rfl ?_
    refine r_iload_n dX1_hasLogAt_26 rfl rfl ?_
    refine r_iconst (x := 0) dX1_hasLogAt_27 rfl (by decide) ?_
    refine r_callV (args := [vi x1, vi 0]) dX1_hasLogAt_28 kX1_93 ob_14 ⟨_, _, rfl⟩ (by decide) rfl rfl (Nat.le_of_ble_eq_true rfl) cap0 (Ev.mono V ?_)
    rintro r h' ⟨x27, n26, rfl, rfl, V⟩
    show Rn w mX1_hasLogAt (d + 1) G Q 31 [(0, vr 1), (1, vi x1), (2, vi x2)] [vi x27, vi x25] (B0, n26)
    obtain ⟨V1, V2⟩ := V
    refine r_jne (tgt := 57) dX1_hasLogAt_31 (by decide) (fun c28 => ?_) (fun c28 => ?_)
    · have V := V1 c28
      obtain ⟨s29, V⟩ := V
      refine r_iinc (y := x2 + 1) (ls' := [(0, vr 1), (1, vi x1), (2, vi (x2 + 1))]) dX1_hasLogAt_57 rfl rfl s29 (by decide) rfl ?_
      refine r_goto (tgt := 2) dX1_hasLogAt_60 (by decide) ?_
      exact V
    · have V := V2 c28
      refine r_aload_n dX1_hasLogAt_34 rfl rfl ?_
      refine r_getR (b := 8) dX1_hasLogAt_35 fX1_26 ob_1 (by decide) rfl rfl ?_
      refine r_iload_n dX1_hasLogAt_38 rfl rfl ?_
      refine r_iconst (x := 1) dX1_hasLogAt_39 rfl (by decide) ?_
      refine r_callV (args := [vi x2, vi 1]) dX1_hasLogAt_40 kX1_93 ob_8 ⟨_, _, rfl⟩ (by decide) rfl rfl (Nat.le_of_ble_eq_true rfl) cap0 (Ev.mono V ?_)
      rintro r h' ⟨x31, n30, rfl, rfl, V⟩
      show Rn w mX1_hasLogAt (d + 1) G Q 43 [(0, vr 1), (1, vi x1), (2, vi x2)] [vi x31] (B0, n30)
      refine r_aload_n dX1_hasLogAt_43 rfl rfl ?_
      refine r_getR (b := 14) dX1_hasLogAt_44 fX1_35 ob_1 (by decide) rfl rfl ?_
      refine r_iload_n dX1_hasLogAt_47 rfl rfl ?_
      refine r_iconst (x := 2) dX1_hasLogAt_48 rfl (by decide) ?_
      refine r_callV (args := [vi x1, vi 2]) dX1_hasLogAt_49 kX1_93 ob_14 ⟨_, _, rfl⟩ (by decide) rfl rfl (Nat.le_of_ble_eq_true rfl) cap0 (Ev.mono V ?_)
      rintro r h' ⟨x33, n32, rfl, rfl, V⟩
      show Rn w mX1_hasLogAt (d + 1) G Q 52 [(0, vr 1), (1, vi x1), (2, vi x2)] [vi x33, vi x31] (B0, n32)
      obtain ⟨V1, V2⟩ := V
      refine r_jne (tgt := 57) dX1_hasLogAt_52 (by decide) (fun c34 => ?_) (fun c34 => ?_)
      · have V := V1 c34
        obtain ⟨s35, V⟩ := V
        refine r_iinc (y := x2 + 1) (ls' := [(0, vr 1), (1, vi x1), (2, vi (x2 + 1))]) dX1_hasLogAt_57 rfl rfl s35 (by decide) rfl ?_
        refine r_goto (tgt := 2) dX1_hasLogAt_60 (by decide) ?_
        exact V
      · have V := V2 c34
        refine r_iconst (x := 1) dX1_hasLogAt_55 rfl (by decide) ?_
        exact r_zret dX1_hasLogAt_56 rfl (by decide) V

theorem gX1_spanOf_0 {w : WD} {d : Nat} {G : GM} {Q : Option AV → Hp → Prop} {n : NM} {x1 x2 x3 : Int}
    (V :
    (Ev w d 0 0 mX7_get [vr 14, vi x1, vi 3] (B0, n) (fun r h' => ∃ (x22 : Int) (n21 : NM), r = some (vi x22) ∧ h' = (B0, n21) ∧ 
      (Ev w d 0 0 mX7_get [vr 14, vi x1, vi 5] (B0, n21) (fun r h' => ∃ (x24 : Int) (n23 : NM), r = some (vi x24) ∧ h' = (B0, n23) ∧ 
        (Ev w d 0 0 mX1_hasPole [vr 1, vi x22] (B0, n23) (fun r h' => ∃ (x26 : Int) (n25 : NM), r = some (vi x26) ∧ h' = (B0, n25) ∧ 
          Rn w mX1_spanOf (d + 1) G Q 36 [(0, vr 1), (2, vi x2), (3, vi x3), (4, vi x22), (5, vi x24), (6, vi x26), (7, vi (-1)), (8, vi 0)] [] (B0, n25)))))))) :
    Rn w mX1_spanOf (d + 1) G Q 0 [(0, vr 1), (1, vi x1), (2, vi x2), (3, vi x3)] [] (B0, n) := by
  refine r_aload_n dX1_spanOf_0 rfl rfl ?_
  refine r_getR (b := 14) dX1_spanOf_1 fX1_35 ob_1 (by decide) rfl rfl ?_
  refine r_iload_n dX1_spanOf_4 rfl rfl ?_
  refine r_iconst (x := 3) dX1_spanOf_5 rfl (by decide) ?_
  refine r_callV (args := [vi x1, vi 3]) dX1_spanOf_6 kX1_93 ob_14 ⟨_, _, rfl⟩ (by decide) rfl rfl (Nat.le_of_ble_eq_true rfl) cap0 (Ev.mono V ?_)
  rintro r h' ⟨x22, n21, rfl, rfl, V⟩
  show Rn w mX1_spanOf (d + 1) G Q 9 [(0, vr 1), (1, vi x1), (2, vi x2), (3, vi x3)] [vi x22] (B0, n21)
  refine r_istore (ls' := [(0, vr 1), (1, vi x1), (2, vi x2), (3, vi x3), (4, vi x22)]) dX1_spanOf_9 (by decide) rfl ?_
  refine r_aload_n dX1_spanOf_11 rfl rfl ?_
  refine r_getR (b := 14) dX1_spanOf_12 fX1_35 ob_1 (by decide) rfl rfl ?_
  refine r_iload_n dX1_spanOf_15 rfl rfl ?_
  refine r_iconst (x := 5) dX1_spanOf_16 rfl (by decide) ?_
  refine r_callV (args := [vi x1, vi 5]) dX1_spanOf_17 kX1_93 ob_14 ⟨_, _, rfl⟩ (by decide) rfl rfl (Nat.le_of_ble_eq_true rfl) cap0 (Ev.mono V ?_)
  rintro r h' ⟨x24, n23, rfl, rfl, V⟩
  show Rn w mX1_spanOf (d + 1) G Q 20 [(0, vr 1), (1, vi x1), (2, vi x2), (3, vi x3), (4, vi x22)] [vi x24] (B0, n23)
  refine r_istore (ls' := [(0, vr 1), (1, vi x1), (2, vi x2), (3, vi x3), (4, vi x22), (5, vi x24)]) dX1_spanOf_20 (by decide) rfl ?_
  refine r_aload_n dX1_spanOf_22 rfl rfl ?_
  refine r_iload dX1_spanOf_23 rfl ?_
  refine r_callV (args := [vi x22]) dX1_spanOf_25 kX1_122 ob_1 ⟨_, _, rfl⟩ (by decide) rfl rfl (Nat.le_of_ble_eq_true rfl) cap0 (Ev.mono V ?_)
  rintro r h' ⟨x26, n25, rfl, rfl, V⟩
  show Rn w mX1_spanOf (d + 1) G Q 28 [(0, vr 1), (1, vi x1), (2, vi x2), (3, vi x3), (4, vi x22), (5, vi x24)] [vi x26] (B0, n25)
  refine r_istore (ls' := [(0, vr 1), (1, vi x1), (2, vi x2), (3, vi x3), (4, vi x22), (5, vi x24), (6, vi x26)]) dX1_spanOf_28 (by decide) rfl ?_
  refine r_iconst (x := -1) dX1_spanOf_30 rfl (by decide) ?_
  refine r_istore (ls' := [(0, vr 1), (1, vi x1), (2, vi x2), (3, vi x3), (4, vi x22), (5, vi x24), (6, vi x26), (7, vi (-1))]) dX1_spanOf_31 (by decide) rfl ?_
  refine r_iconst (x := 0) dX1_spanOf_33 rfl (by decide) ?_
  refine r_istore (ls' := [(0, vr 1), (1, vi x1), (2, vi x2), (3, vi x3), (4, vi x22), (5, vi x24), (6, vi x26), (7, vi (-1)), (8, vi 0)]) dX1_spanOf_34 (by decide) rfl ?_
  refine r_pick [0, 2, 3, 4, 5, 6, 7, 8] (ls' := [(0, vr 1), (2, vi x2), (3, vi x3), (4, vi x22), (5, vi x24), (6, vi x26), (7, vi (-1)), (8, vi 0)]) rfl ?_
  exact V

theorem gX1_spanOf_36 {w : WD} {d : Nat} {G : GM} {Q : Option AV → Hp → Prop} {n : NM} {x2 x3 x4 x5 x6 x7 x8 : Int}
    (V :
    (Ev w d 0 0 mX7_size [vr 12] (B0, n) (fun r h' => ∃ (x22 : Int) (n21 : NM), r = some (vi x22) ∧ h' = (B0, n21) ∧ 
      ((x22 ≤ x8 →
        ((x7 ≠ (-1) →
          Q (some (vi x7)) (B0, n21)) ∧
        (x7 = (-1) →
          (Ev w d 0 0 mX1_largeBy [vi x5, vi 1, vi x3, vi 1] (B0, n21) (fun r h' => ∃ (x26 : Int) (n25 : NM), r = some (vi x26) ∧ h' = (B0, n25) ∧ 
            Q (some (vi x26)) (B0, n25)))))) ∧
      (x8 < x22 →
        ((x6 = 0 →
          Rn w mX1_spanOf (d + 1) G Q 68 [(0, vr 1), (2, vi x2), (3, vi x3), (4, vi x4), (5, vi x5), (6, vi x6), (7, vi x7), (8, vi x8)] [] (B0, n21)) ∧
        (x6 ≠ 0 →
          (Ev w d 0 0 mX7_get [vr 12, vi x8, vi 0] (B0, n21) (fun r h' => ∃ (x29 : Int) (n28 : NM), r = some (vi x29) ∧ h' = (B0, n28) ∧ 
            ((x29 ≠ x4 →
              (inI (x8 + 1)) ∧
              Rn w mX1_spanOf (d + 1) G Q 36 [(0, vr 1), (2, vi x2), (3, vi x3), (4, vi x4), (5, vi x5), (6, vi x6), (7, vi x7), (8, vi (x8 + 1))] [] (B0, n28)) ∧
            (x29 = x4 →
              Rn w mX1_spanOf (d + 1) G Q 68 [(0, vr 1), (2, vi x2), (3, vi x3), (4, vi x4), (5, vi x5), (6, vi x6), (7, vi x7), (8, vi x8)] [] (B0, n28)))))))))))) :
    Rn w mX1_spanOf (d + 1) G Q 36 [(0, vr 1), (2, vi x2), (3, vi x3), (4, vi x4), (5, vi x5), (6, vi x6), (7, vi x7), (8, vi x8)] [] (B0, n) := by
  refine r_iload dX1_spanOf_36 rfl ?_
  refine r_aload_n dX1_spanOf_38 rfl rfl ?_
  refine r_getR (b := 12) dX1_spanOf_39 fX1_32 ob_1 (by decide) rfl rfl ?_
  refine r_callV (args := []) dX1_spanOf_42 kX1_97 ob_12 ⟨_, _, rfl⟩ (by decide) rfl rfl (Nat.le_of_ble_eq_true rfl) cap0 (Ev.mono V ?_)
  rintro r h' ⟨x22, n21, rfl, rfl, V⟩
  show Rn w mX1_spanOf (d + 1) G Q 45 [(0, vr 1), (2, vi x2), (3, vi x3), (4, vi x4), (5, vi x5), (6, vi x6), (7, vi x7), (8, vi x8)] [vi x22, vi x8] (B0, n21)
  obtain ⟨V1, V2⟩ := V
  refine r_jge (tgt := 137) dX1_spanOf_45 (by decide) (fun c23 => ?_) (fun c23 => ?_)
  · have V := V1 c23
    refine r_iload dX1_spanOf_137 rfl ?_
    refine r_iconst (x := -1) dX1_spanOf_139 rfl (by decide) ?_
    obtain ⟨V1, V2⟩ := V
    refine r_jne (tgt := 154) dX1_spanOf_140 (by decide) (fun c24 => ?_) (fun c24 => ?_)
    · have V := V1 c24
      refine r_iload dX1_spanOf_154 rfl ?_
      exact r_iret dX1_spanOf_156 rfl V
    · have V := V2 c24
      refine r_iload dX1_spanOf_143 rfl ?_
      refine r_iconst (x := 1) dX1_spanOf_145 rfl (by decide) ?_
      refine r_iload_n dX1_spanOf_146 rfl rfl ?_
      refine r_iconst (x := 1) dX1_spanOf_147 rfl (by decide) ?_
      refine r_callS (args := [vi x5, vi 1, vi x3, vi 1]) dX1_spanOf_148 kX1_125 rfl rfl (Nat.le_of_ble_eq_true rfl) cap0 (Ev.mono V ?_)
      rintro r h' ⟨x26, n25, rfl, rfl, V⟩
      show Rn w mX1_spanOf (d + 1) G Q 151 [(0, vr 1), (2, vi x2), (3, vi x3), (4, vi x4), (5, vi x5), (6, vi x6), (7, vi x7), (8, vi x8)] [vi x26] (B0, n25)
      refine r_goto (tgt := 156) dX1_spanOf_151 (by decide) ?_
      exact r_iret dX1_spanOf_156 rfl V
  · have V := V2 c23
    refine r_iload dX1_spanOf_48 rfl ?_
    obtain ⟨V1, V2⟩ := V
    refine r_zeq (tgt := 68) dX1_spanOf_50 (by decide) (fun c27 => ?_) (fun c27 => ?_)
    · have V := V1 c27
      exact V
    · have V := V2 c27
      refine r_aload_n dX1_spanOf_53 rfl rfl ?_
      refine r_getR (b := 12) dX1_spanOf_54 fX1_32 ob_1 (by decide) rfl rfl ?_
      refine r_iload dX1_spanOf_57 rfl ?_
      refine r_iconst (x := 0) dX1_spanOf_59 rfl (by decide) ?_
      refine r_callV (args := [vi x8, vi 0]) dX1_spanOf_60 kX1_93 ob_12 ⟨_, _, rfl⟩ (by decide) rfl rfl (Nat.le_of_ble_eq_true rfl) cap0 (Ev.mono V ?_)
      rintro r h' ⟨x29, n28, rfl, rfl, V⟩
      show Rn w mX1_spanOf (d + 1) G Q 63 [(0, vr 1), (2, vi x2), (3, vi x3), (4, vi x4), (5, vi x5), (6, vi x6), (7, vi x7), (8, vi x8)] [vi x29] (B0, n28)
      refine r_iload dX1_spanOf_63 rfl ?_
      obtain ⟨V1, V2⟩ := V
      refine r_jne (tgt := 131) dX1_spanOf_65 (by decide) (fun c30 => ?_) (fun c30 => ?_)
      · have V := V1 c30
        obtain ⟨s31, V⟩ := V
        refine r_iinc (y := x8 + 1) (ls' := [(0, vr 1), (2, vi x2), (3, vi x3), (4, vi x4), (5, vi x5), (6, vi x6), (7, vi x7), (8, vi (x8 + 1))]) dX1_spanOf_131 rfl rfl s31 (by decide) rfl ?_
        refine r_goto (tgt := 36) dX1_spanOf_134 (by decide) ?_
        exact V
      · have V := V2 c30
        exact V

theorem gX1_spanOf_68 {w : WD} {d : Nat} {G : GM} {Q : Option AV → Hp → Prop} {n : NM} {x2 x3 x4 x5 x6 x7 x8 : Int}
    (V :
    (Ev w d 0 0 mX7_get [vr 12, vi x8, vi 1] (B0, n) (fun r h' => ∃ (x22 : Int) (n21 : NM), r = some (vi x22) ∧ h' = (B0, n21) ∧ 
      (Ev w d 0 0 mX7_get [vr 12, vi x8, vi 2] (B0, n21) (fun r h' => ∃ (x24 : Int) (n23 : NM), r = some (vi x24) ∧ h' = (B0, n23) ∧ 
        (Ev w d 0 0 mX1_largeBy [vi x5, vi x22, vi x3, vi x24] (B0, n23) (fun r h' => ∃ (x26 : Int) (n25 : NM), r = some (vi x26) ∧ h' = (B0, n25) ∧ 
          (∀ z31 : Int, z31 = (if x7 = (-1) then x26 else (if x2 ≠ 0 then (if x26 ≤ x7 then x7 else x26) else (if x7 ≤ x26 then x7 else x26))) → 
          (inI (x8 + 1)) ∧
          Rn w mX1_spanOf (d + 1) G Q 36 [(0, vr 1), (2, vi x2), (3, vi x3), (4, vi x4), (5, vi x5), (6, vi x6), (7, vi z31), (8, vi (x8 + 1))] [] (B0, n25))))))))) :
    Rn w mX1_spanOf (d + 1) G Q 68 [(0, vr 1), (2, vi x2), (3, vi x3), (4, vi x4), (5, vi x5), (6, vi x6), (7, vi x7), (8, vi x8)] [] (B0, n) := by
  refine r_aload_n dX1_spanOf_68 rfl rfl ?_
  refine r_getR (b := 12) dX1_spanOf_69 fX1_32 ob_1 (by decide) rfl rfl ?_
  refine r_iload dX1_spanOf_72 rfl ?_
  refine r_iconst (x := 1) dX1_spanOf_74 rfl (by decide) ?_
  refine r_callV (args := [vi x8, vi 1]) dX1_spanOf_75 kX1_93 ob_12 ⟨_, _, rfl⟩ (by decide) rfl rfl (Nat.le_of_ble_eq_true rfl) cap0 (Ev.mono V ?_)
  rintro r h' ⟨x22, n21, rfl, rfl, V⟩
  show Rn w mX1_spanOf (d + 1) G Q 78 [(0, vr 1), (2, vi x2), (3, vi x3), (4, vi x4), (5, vi x5), (6, vi x6), (7, vi x7), (8, vi x8)] [vi x22] (B0, n21)
  refine r_istore (ls' := [(0, vr 1), (2, vi x2), (3, vi x3), (4, vi x4), (5, vi x5), (6, vi x6), (7, vi x7), (8, vi x8), (9, vi x22)]) dX1_spanOf_78 (by decide) rfl ?_
  refine r_iload dX1_spanOf_80 rfl ?_
  refine r_iload dX1_spanOf_82 rfl ?_
  refine r_iload_n dX1_spanOf_84 rfl rfl ?_
  refine r_aload_n dX1_spanOf_85 rfl rfl ?_
  refine r_getR (b := 12) dX1_spanOf_86 fX1_32 ob_1 (by decide) rfl rfl ?_
  refine r_iload dX1_spanOf_89 rfl ?_
  refine r_iconst (x := 2) dX1_spanOf_91 rfl (by decide) ?_
  refine r_callV (args := [vi x8, vi 2]) dX1_spanOf_92 kX1_93 ob_12 ⟨_, _, rfl⟩ (by decide) rfl rfl (Nat.le_of_ble_eq_true rfl) cap0 (Ev.mono V ?_)
  rintro r h' ⟨x24, n23, rfl, rfl, V⟩
  show Rn w mX1_spanOf (d + 1) G Q 95 [(0, vr 1), (2, vi x2), (3, vi x3), (4, vi x4), (5, vi x5), (6, vi x6), (7, vi x7), (8, vi x8), (9, vi x22)] [vi x24, vi x3, vi x22, vi x5] (B0, n23)
  refine r_callS (args := [vi x5, vi x22, vi x3, vi x24]) dX1_spanOf_95 kX1_125 rfl rfl (Nat.le_of_ble_eq_true rfl) cap0 (Ev.mono V ?_)
  rintro r h' ⟨x26, n25, rfl, rfl, V⟩
  show Rn w mX1_spanOf (d + 1) G Q 98 [(0, vr 1), (2, vi x2), (3, vi x3), (4, vi x4), (5, vi x5), (6, vi x6), (7, vi x7), (8, vi x8), (9, vi x22)] [vi x26] (B0, n25)
  refine r_istore (ls' := [(0, vr 1), (2, vi x2), (3, vi x3), (4, vi x4), (5, vi x5), (6, vi x6), (7, vi x7), (8, vi x8), (9, vi x22), (10, vi x26)]) dX1_spanOf_98 (by decide) rfl ?_
  refine r_iload dX1_spanOf_100 rfl ?_
  refine r_iconst (x := -1) dX1_spanOf_102 rfl (by decide) ?_
  have K : ∀ z31 : Int, z31 = (if x7 = (-1) then x26 else (if x2 ≠ 0 then (if x26 ≤ x7 then x7 else x26) else (if x7 ≤ x26 then x7 else x26))) → Rn w mX1_spanOf (d + 1) G Q 131 [(0, vr 1), (2, vi x2), (3, vi x3), (4, vi x4), (5, vi x5), (6, vi x6), (7, vi z31), (8, vi x8)] [] (B0, n25) := by
    intro z31 ez31
    have V := V z31 ez31
    obtain ⟨s32, V⟩ := V
    refine r_iinc (y := x8 + 1) (ls' := [(0, vr 1), (2, vi x2), (3, vi x3), (4, vi x4), (5, vi x5), (6, vi x6), (7, vi z31), (8, vi (x8 + 1))]) dX1_spanOf_131 rfl rfl s32 (by decide) rfl ?_
    refine r_goto (tgt := 36) dX1_spanOf_134 (by decide) ?_
    exact V
  refine r_jeq (tgt := 127) dX1_spanOf_103 (by decide) (fun c27 => ?_) (fun c27 => ?_)
  · refine r_iload dX1_spanOf_127 rfl ?_
    refine r_istore (ls' := [(0, vr 1), (2, vi x2), (3, vi x3), (4, vi x4), (5, vi x5), (6, vi x6), (7, vi x26), (8, vi x8), (9, vi x22), (10, vi x26)]) dX1_spanOf_129 (by decide) rfl ?_
    refine r_pick [0, 1, 2, 3, 4, 5, 6, 7] (ls' := [(0, vr 1), (2, vi x2), (3, vi x3), (4, vi x4), (5, vi x5), (6, vi x6), (7, vi x26), (8, vi x8)]) rfl ?_
    exact K x26 (by first | rfl | (simp only [if_pos c27]))
  · refine r_iload_n dX1_spanOf_106 rfl rfl ?_
    refine r_zne (tgt := 120) dX1_spanOf_107 (by decide) (fun c28 => ?_) (fun c28 => ?_)
    · refine r_iload dX1_spanOf_120 rfl ?_
      refine r_iload dX1_spanOf_122 rfl ?_
      refine r_jle (tgt := 131) dX1_spanOf_124 (by decide) (fun c29 => ?_) (fun c29 => ?_)
      · refine r_pick [0, 1, 2, 3, 4, 5, 6, 7] (ls' := [(0, vr 1), (2, vi x2), (3, vi x3), (4, vi x4), (5, vi x5), (6, vi x6), (7, vi x7), (8, vi x8)]) rfl ?_
        exact K x7 (by first | rfl | (simp only [if_neg c27, if_pos c28, if_pos c29]))
      · refine r_iload dX1_spanOf_127 rfl ?_
        refine r_istore (ls' := [(0, vr 1), (2, vi x2), (3, vi x3), (4, vi x4), (5, vi x5), (6, vi x6), (7, vi x26), (8, vi x8), (9, vi x22), (10, vi x26)]) dX1_spanOf_129 (by decide) rfl ?_
        refine r_pick [0, 1, 2, 3, 4, 5, 6, 7] (ls' := [(0, vr 1), (2, vi x2), (3, vi x3), (4, vi x4), (5, vi x5), (6, vi x6), (7, vi x26), (8, vi x8)]) rfl ?_
        exact K x26 (by first | rfl | (simp only [if_neg c27, if_pos c28, if_neg (Int.not_le.mpr c29)]))
    · refine r_iload dX1_spanOf_110 rfl ?_
      refine r_iload dX1_spanOf_112 rfl ?_
      refine r_jge (tgt := 131) dX1_spanOf_114 (by decide) (fun c30 => ?_) (fun c30 => ?_)
      · refine r_pick [0, 1, 2, 3, 4, 5, 6, 7] (ls' := [(0, vr 1), (2, vi x2), (3, vi x3), (4, vi x4), (5, vi x5), (6, vi x6), (7, vi x7), (8, vi x8)]) rfl ?_
        exact K x7 (by first | rfl | (simp only [if_neg c27, if_neg (show ¬ (x2 ≠ 0) from not_not_intro c28), if_pos c30]))
      · refine r_goto (tgt := 127) dX1_spanOf_117 (by decide) ?_
        refine r_iload dX1_spanOf_127 rfl ?_
        refine r_istore (ls' := [(0, vr 1), (2, vi x2), (3, vi x3), (4, vi x4), (5, vi x5), (6, vi x6), (7, vi x26), (8, vi x8), (9, vi x22), (10, vi x26)]) dX1_spanOf_129 (by decide) rfl ?_
        refine r_pick [0, 1, 2, 3, 4, 5, 6, 7] (ls' := [(0, vr 1), (2, vi x2), (3, vi x3), (4, vi x4), (5, vi x5), (6, vi x6), (7, vi x26), (8, vi x8)]) rfl ?_
        exact K x26 (by first | rfl | (simp only [if_neg c27, if_neg (show ¬ (x2 ≠ 0) from not_not_intro c28), if_neg (Int.not_le.mpr c30)]))

theorem gX1_hasPole_0 {w : WD} {d : Nat} {G : GM} {Q : Option AV → Hp → Prop} {n : NM} {x1 : Int}
    (V :
    Rn w mX1_hasPole d G Q 2 [(0, vr 1), (1, vi x1), (2, vi 0)] [] (B0, n)) :
    Rn w mX1_hasPole d G Q 0 [(0, vr 1), (1, vi x1)] [] (B0, n) := by
  refine r_iconst (x := 0) dX1_hasPole_0 rfl (by decide) ?_
  refine r_istore_n (ls' := [(0, vr 1), (1, vi x1), (2, vi 0)]) dX1_hasPole_1 rfl (by decide) rfl ?_
  exact V

theorem gX1_hasPole_2 {w : WD} {d : Nat} {G : GM} {Q : Option AV → Hp → Prop} {n : NM} {x1 x2 : Int}
    (V :
    (Ev w d 0 0 mX7_size [vr 12] (B0, n) (fun r h' => ∃ (x22 : Int) (n21 : NM), r = some (vi x22) ∧ h' = (B0, n21) ∧ 
      ((x22 ≤ x2 →
        Q (some (vi 0)) (B0, n21)) ∧
      (x2 < x22 →
        (Ev w d 0 0 mX7_get [vr 12, vi x2, vi 0] (B0, n21) (fun r h' => ∃ (x25 : Int) (n24 : NM), r = some (vi x25) ∧ h' = (B0, n24) ∧ 
          ((x25 ≠ x1 →
            (inI (x2 + 1)) ∧
            Rn w mX1_hasPole (d + 1) G Q 2 [(0, vr 1), (1, vi x1), (2, vi (x2 + 1))] [] (B0, n24)) ∧
          (x25 = x1 →
            Q (some (vi 1)) (B0, n24)))))))))) :
    Rn w mX1_hasPole (d + 1) G Q 2 [(0, vr 1), (1, vi x1), (2, vi x2)] [] (B0, n) := by
  refine r_iload_n dX1_hasPole_2 rfl rfl ?_
  refine r_aload_n dX1_hasPole_3 rfl rfl ?_
  refine r_getR (b := 12) dX1_hasPole_4 fX1_32 ob_1 (by decide) rfl rfl ?_
  refine r_callV (args := []) dX1_hasPole_7 kX1_97 ob_12 ⟨_, _, rfl⟩ (by decide) rfl rfl (Nat.le_of_ble_eq_true rfl) cap0 (Ev.mono V ?_)
  rintro r h' ⟨x22, n21, rfl, rfl, V⟩
  show Rn w mX1_hasPole (d + 1) G Q 10 [(0, vr 1), (1, vi x1), (2, vi x2)] [vi x22, vi x2] (B0, n21)
  obtain ⟨V1, V2⟩ := V
  refine r_jge (tgt := 34) dX1_hasPole_10 (by decide) (fun c23 => ?_) (fun c23 => ?_)
  · have V := V1 c23
    refine r_iconst (x := 0) dX1_hasPole_34 rfl (by decide) ?_
    exact r_zret dX1_hasPole_35 rfl (by decide) V
  · have V := V2 c23
    refine r_aload_n dX1_hasPole_13 rfl rfl ?_
    refine r_getR (b := 12) dX1_hasPole_14 fX1_32 ob_1 (by decide) rfl rfl ?_
    refine r_iload_n dX1_hasPole_17 rfl rfl ?_
    refine r_iconst (x := 0) dX1_hasPole_18 rfl (by decide) ?_
    refine r_callV (args := [vi x2, vi 0]) dX1_hasPole_19 kX1_93 ob_12 ⟨_, _, rfl⟩ (by decide) rfl rfl (Nat.le_of_ble_eq_true rfl) cap0 (Ev.mono V ?_)
    rintro r h' ⟨x25, n24, rfl, rfl, V⟩
    show Rn w mX1_hasPole (d + 1) G Q 22 [(0, vr 1), (1, vi x1), (2, vi x2)] [vi x25] (B0, n24)
    refine r_iload_n dX1_hasPole_22 rfl rfl ?_
    obtain ⟨V1, V2⟩ := V
    refine r_jne (tgt := 28) dX1_hasPole_23 (by decide) (fun c26 => ?_) (fun c26 => ?_)
    · have V := V1 c26
      obtain ⟨s27, V⟩ := V
      refine r_iinc (y := x2 + 1) (ls' := [(0, vr 1), (1, vi x1), (2, vi (x2 + 1))]) dX1_hasPole_28 rfl rfl s27 (by decide) rfl ?_
      refine r_goto (tgt := 2) dX1_hasPole_31 (by decide) ?_
      exact V
    · have V := V2 c26
      refine r_iconst (x := 1) dX1_hasPole_26 rfl (by decide) ?_
      exact r_zret dX1_hasPole_27 rfl (by decide) V

theorem gX1_largeBy_0 {w : WD} {d : Nat} {G : GM} {Q : Option AV → Hp → Prop} {n : NM} {x0 x1 x2 x3 : Int}
    (V :
    (inI (x2 * x3)) ∧
    ((x2 * x3 ≠ 0 →
      (inI (x0 * 100)) ∧
      (inI ((x0 * 100) * x1)) ∧
      (0 ≤ (x0 * 100) * x1) ∧
      (0 < x2 * x3) ∧
      Q (some (vi (((x0 * 100) * x1) / (x2 * x3)))) (B0, n)) ∧
    (x2 * x3 = 0 →
      Q (some (vi 0)) (B0, n)))) :
    Rn w mX1_largeBy d G Q 0 [(0, vi x0), (1, vi x1), (2, vi x2), (3, vi x3)] [] (B0, n) := by
  refine r_iload_n dX1_largeBy_0 rfl rfl ?_
  refine r_iload_n dX1_largeBy_1 rfl rfl ?_
  obtain ⟨s21, V⟩ := V
  refine r_imul dX1_largeBy_2 s21 ?_
  refine r_istore (ls' := [(0, vi x0), (1, vi x1), (2, vi x2), (3, vi x3), (4, vi (x2 * x3))]) dX1_largeBy_3 (by decide) rfl ?_
  refine r_iload dX1_largeBy_5 rfl ?_
  obtain ⟨V1, V2⟩ := V
  refine r_zne (tgt := 14) dX1_largeBy_7 (by decide) (fun c22 => ?_) (fun c22 => ?_)
  · have V := V1 c22
    refine r_iload_n dX1_largeBy_14 rfl rfl ?_
    refine r_bipush (x := 100) dX1_largeBy_15 (by decide +kernel) (by decide) ?_
    obtain ⟨s23, V⟩ := V
    refine r_imul dX1_largeBy_17 s23 ?_
    refine r_iload_n dX1_largeBy_18 rfl rfl ?_
    obtain ⟨s24, V⟩ := V
    refine r_imul dX1_largeBy_19 s24 ?_
    refine r_iload dX1_largeBy_20 rfl ?_
    obtain ⟨s25, V⟩ := V
    obtain ⟨s26, V⟩ := V
    refine r_idiv dX1_largeBy_22 s25 s26 ?_
    exact r_iret dX1_largeBy_23 rfl V
  · have V := V2 c22
    refine r_iconst (x := 0) dX1_largeBy_10 rfl (by decide) ?_
    refine r_goto (tgt := 23) dX1_largeBy_11 (by decide) ?_
    exact r_iret dX1_largeBy_23 rfl V

theorem gX1_heardOf_0 {w : WD} {d : Nat} {G : GM} {Q : Option AV → Hp → Prop} {n : NM} {x1 x2 : Int}
    (V :
    (Ev w d 0 0 mX7_get [vr 21, vi x1, vi 2] (B0, n) (fun r h' => ∃ (x22 : Int) (n21 : NM), r = some (vi x22) ∧ h' = (B0, n21) ∧ 
      ((x22 < x2 →
        Q (some (vi 0)) (B0, n21)) ∧
      (x2 ≤ x22 →
        (Ev w d 0 0 mX7_get [vr 21, vi x1, vi 1] (B0, n21) (fun r h' => ∃ (x25 : Int) (n24 : NM), r = some (vi x25) ∧ h' = (B0, n24) ∧ 
          Q (some (vi x25)) (B0, n24)))))))) :
    Rn w mX1_heardOf (d + 1) G Q 0 [(0, vr 1), (1, vi x1), (2, vi x2)] [] (B0, n) := by
  refine r_aload_n dX1_heardOf_0 rfl rfl ?_
  refine r_getR (b := 21) dX1_heardOf_1 fX1_45 ob_1 (by decide) rfl rfl ?_
  refine r_iload_n dX1_heardOf_4 rfl rfl ?_
  refine r_iconst (x := 2) dX1_heardOf_5 rfl (by decide) ?_
  refine r_callV (args := [vi x1, vi 2]) dX1_heardOf_6 kX1_93 ob_21 ⟨_, _, rfl⟩ (by decide) rfl rfl (Nat.le_of_ble_eq_true rfl) cap0 (Ev.mono V ?_)
  rintro r h' ⟨x22, n21, rfl, rfl, V⟩
  show Rn w mX1_heardOf (d + 1) G Q 9 [(0, vr 1), (1, vi x1), (2, vi x2)] [vi x22] (B0, n21)
  refine r_iload_n dX1_heardOf_9 rfl rfl ?_
  obtain ⟨V1, V2⟩ := V
  refine r_jlt (tgt := 25) dX1_heardOf_10 (by decide) (fun c23 => ?_) (fun c23 => ?_)
  · have V := V1 c23
    refine r_iconst (x := 0) dX1_heardOf_25 rfl (by decide) ?_
    exact r_iret dX1_heardOf_26 rfl V
  · have V := V2 c23
    refine r_aload_n dX1_heardOf_13 rfl rfl ?_
    refine r_getR (b := 21) dX1_heardOf_14 fX1_45 ob_1 (by decide) rfl rfl ?_
    refine r_iload_n dX1_heardOf_17 rfl rfl ?_
    refine r_iconst (x := 1) dX1_heardOf_18 rfl (by decide) ?_
    refine r_callV (args := [vi x1, vi 1]) dX1_heardOf_19 kX1_93 ob_21 ⟨_, _, rfl⟩ (by decide) rfl rfl (Nat.le_of_ble_eq_true rfl) cap0 (Ev.mono V ?_)
    rintro r h' ⟨x25, n24, rfl, rfl, V⟩
    show Rn w mX1_heardOf (d + 1) G Q 22 [(0, vr 1), (1, vi x1), (2, vi x2)] [vi x25] (B0, n24)
    refine r_goto (tgt := 26) dX1_heardOf_22 (by decide) ?_
    exact r_iret dX1_heardOf_26 rfl V

theorem gX1_storiesThatCanBe_0 {w : WD} {d : Nat} {G : GM} {Q : Option AV → Hp → Prop} {n : NM}
    (V :
    Rn w mX1_storiesThatCanBe d G Q 4 [(0, vr 1), (1, vi 0), (2, vi 0)] [] (B0, n)) :
    Rn w mX1_storiesThatCanBe d G Q 0 [(0, vr 1)] [] (B0, n) := by
  refine r_iconst (x := 0) dX1_storiesThatCanBe_0 rfl (by decide) ?_
  refine r_istore_n (ls' := [(0, vr 1), (1, vi 0)]) dX1_storiesThatCanBe_1 rfl (by decide) rfl ?_
  refine r_iconst (x := 0) dX1_storiesThatCanBe_2 rfl (by decide) ?_
  refine r_istore_n (ls' := [(0, vr 1), (1, vi 0), (2, vi 0)]) dX1_storiesThatCanBe_3 rfl (by decide) rfl ?_
  exact V

theorem gX1_storiesThatCanBe_4 {w : WD} {d : Nat} {G : GM} {Q : Option AV → Hp → Prop} {n : NM} {x1 x2 : Int}
    (V :
    (Ev w d 0 0 mX7_size [vr 21] (B0, n) (fun r h' => ∃ (x22 : Int) (n21 : NM), r = some (vi x22) ∧ h' = (B0, n21) ∧ 
      ((x22 ≤ x2 →
        Q (some (vi x1)) (B0, n21)) ∧
      (x2 < x22 →
        (Ev w d 0 0 mX7_get [vr 21, vi x2, vi 1] (B0, n21) (fun r h' => ∃ (x25 : Int) (n24 : NM), r = some (vi x25) ∧ h' = (B0, n24) ∧ 
          (Ev w d 0 0 mX7_get [vr 21, vi x2, vi 2] (B0, n24) (fun r h' => ∃ (x27 : Int) (n26 : NM), r = some (vi x27) ∧ h' = (B0, n26) ∧ 
            (Ev w d 0 0 mX1_canBe [vr 1, vi x25, vi x27] (B0, n26) (fun r h' => ∃ (x29 : Int) (n28 : NM), r = some (vi x29) ∧ h' = (B0, n28) ∧ 
              ((x29 = 0 →
                (inI (x2 + 1)) ∧
                Rn w mX1_storiesThatCanBe (d + 1) G Q 4 [(0, vr 1), (1, vi x1), (2, vi (x2 + 1))] [] (B0, n28)) ∧
              (x29 ≠ 0 →
                (∃ k32 : Nat, x2 = (k32 : Int) ∧ k32 < 32 ∧
                (inI (1 * ((2 ^ k32 : Nat) : Int))) ∧
                (inI (x2 + 1)) ∧
                Rn w mX1_storiesThatCanBe (d + 1) G Q 4 [(0, vr 1), (1, vi (ior x1 (1 * ((2 ^ k32 : Nat) : Int)))), (2, vi (x2 + 1))] [] (B0, n28))))))))))))))) :
    Rn w mX1_storiesThatCanBe (d + 1) G Q 4 [(0, vr 1), (1, vi x1), (2, vi x2)] [] (B0, n) := by
  refine r_iload_n dX1_storiesThatCanBe_4 rfl rfl ?_
  refine r_aload_n dX1_storiesThatCanBe_5 rfl rfl ?_
  refine r_getR (b := 21) dX1_storiesThatCanBe_6 fX1_45 ob_1 (by decide) rfl rfl ?_
  refine r_callV (args := []) dX1_storiesThatCanBe_9 kX1_97 ob_21 ⟨_, _, rfl⟩ (by decide) rfl rfl (Nat.le_of_ble_eq_true rfl) cap0 (Ev.mono V ?_)
  rintro r h' ⟨x22, n21, rfl, rfl, V⟩
  show Rn w mX1_storiesThatCanBe (d + 1) G Q 12 [(0, vr 1), (1, vi x1), (2, vi x2)] [vi x22, vi x2] (B0, n21)
  obtain ⟨V1, V2⟩ := V
  refine r_jge (tgt := 52) dX1_storiesThatCanBe_12 (by decide) (fun c23 => ?_) (fun c23 => ?_)
  · have V := V1 c23
    refine r_iload_n dX1_storiesThatCanBe_52 rfl rfl ?_
    exact r_iret dX1_storiesThatCanBe_53 rfl V
  · have V := V2 c23
    refine r_aload_n dX1_storiesThatCanBe_15 rfl rfl ?_
    refine r_aload_n dX1_storiesThatCanBe_16 rfl rfl ?_
    refine r_getR (b := 21) dX1_storiesThatCanBe_17 fX1_45 ob_1 (by decide) rfl rfl ?_
    refine r_iload_n dX1_storiesThatCanBe_20 rfl rfl ?_
    refine r_iconst (x := 1) dX1_storiesThatCanBe_21 rfl (by decide) ?_
    refine r_callV (args := [vi x2, vi 1]) dX1_storiesThatCanBe_22 kX1_93 ob_21 ⟨_, _, rfl⟩ (by decide) rfl rfl (Nat.le_of_ble_eq_true rfl) cap0 (Ev.mono V ?_)
    rintro r h' ⟨x25, n24, rfl, rfl, V⟩
    show Rn w mX1_storiesThatCanBe (d + 1) G Q 25 [(0, vr 1), (1, vi x1), (2, vi x2)] [vi x25, vr 1] (B0, n24)
    refine r_aload_n dX1_storiesThatCanBe_25 rfl rfl ?_
    refine r_getR (b := 21) dX1_storiesThatCanBe_26 fX1_45 ob_1 (by decide) rfl rfl ?_
    refine r_iload_n dX1_storiesThatCanBe_29 rfl rfl ?_
    refine r_iconst (x := 2) dX1_storiesThatCanBe_30 rfl (by decide) ?_
    refine r_callV (args := [vi x2, vi 2]) dX1_storiesThatCanBe_31 kX1_93 ob_21 ⟨_, _, rfl⟩ (by decide) rfl rfl (Nat.le_of_ble_eq_true rfl) cap0 (Ev.mono V ?_)
    rintro r h' ⟨x27, n26, rfl, rfl, V⟩
    show Rn w mX1_storiesThatCanBe (d + 1) G Q 34 [(0, vr 1), (1, vi x1), (2, vi x2)] [vi x27, vi x25, vr 1] (B0, n26)
    refine r_callV (args := [vi x25, vi x27]) dX1_storiesThatCanBe_34 kX1_128 ob_1 ⟨_, _, rfl⟩ (by decide) rfl rfl (Nat.le_of_ble_eq_true rfl) cap0 (Ev.mono V ?_)
    rintro r h' ⟨x29, n28, rfl, rfl, V⟩
    show Rn w mX1_storiesThatCanBe (d + 1) G Q 37 [(0, vr 1), (1, vi x1), (2, vi x2)] [vi x29] (B0, n28)
    obtain ⟨V1, V2⟩ := V
    refine r_zeq (tgt := 46) dX1_storiesThatCanBe_37 (by decide) (fun c30 => ?_) (fun c30 => ?_)
    · have V := V1 c30
      obtain ⟨s31, V⟩ := V
      refine r_iinc (y := x2 + 1) (ls' := [(0, vr 1), (1, vi x1), (2, vi (x2 + 1))]) dX1_storiesThatCanBe_46 rfl rfl s31 (by decide) rfl ?_
      refine r_goto (tgt := 4) dX1_storiesThatCanBe_49 (by decide) ?_
      exact V
    · have V := V2 c30
      refine r_iload_n dX1_storiesThatCanBe_40 rfl rfl ?_
      refine r_iconst (x := 1) dX1_storiesThatCanBe_41 rfl (by decide) ?_
      refine r_iload_n dX1_storiesThatCanBe_42 rfl rfl ?_
      obtain ⟨k32, hk32, lk32, V⟩ := V
      obtain ⟨s33, V⟩ := V
      refine r_ishl (n := k32) dX1_storiesThatCanBe_43 hk32 lk32 s33 ?_
      refine r_ior dX1_storiesThatCanBe_44 ?_
      refine r_istore_n (ls' := [(0, vr 1), (1, vi (ior x1 (1 * ((2 ^ k32 : Nat) : Int)))), (2, vi x2)]) dX1_storiesThatCanBe_45 rfl (by decide) rfl ?_
      obtain ⟨s34, V⟩ := V
      refine r_iinc (y := x2 + 1) (ls' := [(0, vr 1), (1, vi (ior x1 (1 * ((2 ^ k32 : Nat) : Int)))), (2, vi (x2 + 1))]) dX1_storiesThatCanBe_46 rfl rfl s34 (by decide) rfl ?_
      refine r_goto (tgt := 4) dX1_storiesThatCanBe_49 (by decide) ?_
      exact V

theorem gX1_canBe_0 {w : WD} {d : Nat} {G : GM} {Q : Option AV → Hp → Prop} {n : NM} {x1 x2 : Int}
    (V :
    (Ev w d 0 0 mX7_get [vr 31, vi 0, vi 0] (B0, n) (fun r h' => ∃ (x22 : Int) (n21 : NM), r = some (vi x22) ∧ h' = (B0, n21) ∧ 
      (∀ z24 : Int, z24 = (if x1 < x22 then 0 else 1) → 
      (inI (x1 * x2)) ∧
      (Ev w d 0 0 mX7_get [vr 31, vi 0, vi 2] (B0, n21) (fun r h' => ∃ (x27 : Int) (n26 : NM), r = some (vi x27) ∧ h' = (B0, n26) ∧ 
        (inI ((x1 * x2) * x27)) ∧
        (Ev w d 0 0 mX7_get [vr 31, vi 0, vi 1] (B0, n26) (fun r h' => ∃ (x30 : Int) (n29 : NM), r = some (vi x30) ∧ h' = (B0, n29) ∧ 
          (∀ z32 : Int, z32 = (if x30 < (x1 * x2) * x27 then 0 else 1) → 
          ((x1 = 0 →
            Q (some (vi 1)) (B0, n29)) ∧
          (x1 ≠ 0 →
            ((z24 = 0 →
              Q (some (vi 0)) (B0, n29)) ∧
            (z24 ≠ 0 →
              ((z32 = 0 →
                Q (some (vi 0)) (B0, n29)) ∧
              (z32 ≠ 0 →
                Q (some (vi 1)) (B0, n29)))))))))))))))) :
    Rn w mX1_canBe (d + 1) G Q 0 [(0, vr 1), (1, vi x1), (2, vi x2)] [] (B0, n) := by
  refine r_iload_n dX1_canBe_0 rfl rfl ?_
  refine r_aload_n dX1_canBe_1 rfl rfl ?_
  refine r_getR (b := 31) dX1_canBe_2 fX1_60 ob_1 (by decide) rfl rfl ?_
  refine r_iconst (x := 0) dX1_canBe_5 rfl (by decide) ?_
  refine r_iconst (x := 0) dX1_canBe_6 rfl (by decide) ?_
  refine r_callV (args := [vi 0, vi 0]) dX1_canBe_7 kX1_93 ob_31 ⟨_, _, rfl⟩ (by decide) rfl rfl (Nat.le_of_ble_eq_true rfl) cap0 (Ev.mono V ?_)
  rintro r h' ⟨x22, n21, rfl, rfl, V⟩
  show Rn w mX1_canBe (d + 1) G Q 10 [(0, vr 1), (1, vi x1), (2, vi x2)] [vi x22, vi x1] (B0, n21)
  have K : ∀ z24 : Int, z24 = (if x1 < x22 then 0 else 1) → Rn w mX1_canBe (d + 1) G Q 18 [(0, vr 1), (1, vi x1), (2, vi x2)] [vi z24] (B0, n21) := by
    intro z24 ez24
    have V := V z24 ez24
    refine r_istore_n (ls' := [(0, vr 1), (1, vi x1), (2, vi x2), (3, vi z24)]) dX1_canBe_18 rfl (by decide) rfl ?_
    refine r_iload_n dX1_canBe_19 rfl rfl ?_
    refine r_iload_n dX1_canBe_20 rfl rfl ?_
    obtain ⟨s25, V⟩ := V
    refine r_imul dX1_canBe_21 s25 ?_
    refine r_aload_n dX1_canBe_22 rfl rfl ?_
    refine r_getR (b := 31) dX1_canBe_23 fX1_60 ob_1 (by decide) rfl rfl ?_
    refine r_iconst (x := 0) dX1_canBe_26 rfl (by decide) ?_
    refine r_iconst (x := 2) dX1_canBe_27 rfl (by decide) ?_
    refine r_callV (args := [vi 0, vi 2]) dX1_canBe_28 kX1_93 ob_31 ⟨_, _, rfl⟩ (by decide) rfl rfl (Nat.le_of_ble_eq_true rfl) cap0 (Ev.mono V ?_)
    rintro r h' ⟨x27, n26, rfl, rfl, V⟩
    show Rn w mX1_canBe (d + 1) G Q 31 [(0, vr 1), (1, vi x1), (2, vi x2), (3, vi z24)] [vi x27, vi (x1 * x2)] (B0, n26)
    obtain ⟨s28, V⟩ := V
    refine r_imul dX1_canBe_31 s28 ?_
    refine r_aload_n dX1_canBe_32 rfl rfl ?_
    refine r_getR (b := 31) dX1_canBe_33 fX1_60 ob_1 (by decide) rfl rfl ?_
    refine r_iconst (x := 0) dX1_canBe_36 rfl (by decide) ?_
    refine r_iconst (x := 1) dX1_canBe_37 rfl (by decide) ?_
    refine r_callV (args := [vi 0, vi 1]) dX1_canBe_38 kX1_93 ob_31 ⟨_, _, rfl⟩ (by decide) rfl rfl (Nat.le_of_ble_eq_true rfl) cap0 (Ev.mono V ?_)
    rintro r h' ⟨x30, n29, rfl, rfl, V⟩
    show Rn w mX1_canBe (d + 1) G Q 41 [(0, vr 1), (1, vi x1), (2, vi x2), (3, vi z24)] [vi x30, vi ((x1 * x2) * x27)] (B0, n29)
    have K : ∀ z32 : Int, z32 = (if x30 < (x1 * x2) * x27 then 0 else 1) → Rn w mX1_canBe (d + 1) G Q 49 [(1, vi x1), (3, vi z24)] [vi z32] (B0, n29) := by
      intro z32 ez32
      have V := V z32 ez32
      refine r_istore (ls' := [(1, vi x1), (3, vi z24), (4, vi z32)]) dX1_canBe_49 (by decide) rfl ?_
      refine r_iload_n dX1_canBe_51 rfl rfl ?_
      obtain ⟨V1, V2⟩ := V
      refine r_zeq (tgt := 64) dX1_canBe_52 (by decide) (fun c33 => ?_) (fun c33 => ?_)
      · have V := V1 c33
        refine r_iconst (x := 1) dX1_canBe_64 rfl (by decide) ?_
        refine r_goto (tgt := 69) dX1_canBe_65 (by decide) ?_
        exact r_zret dX1_canBe_69 rfl (by decide) V
      · have V := V2 c33
        refine r_iload_n dX1_canBe_55 rfl rfl ?_
        obtain ⟨V1, V2⟩ := V
        refine r_zeq (tgt := 68) dX1_canBe_56 (by decide) (fun c34 => ?_) (fun c34 => ?_)
        · have V := V1 c34
          refine r_iconst (x := 0) dX1_canBe_68 rfl (by decide) ?_
          exact r_zret dX1_canBe_69 rfl (by decide) V
        · have V := V2 c34
          refine r_iload dX1_canBe_59 rfl ?_
          obtain ⟨V1, V2⟩ := V
          refine r_zeq (tgt := 68) dX1_canBe_61 (by decide) (fun c35 => ?_) (fun c35 => ?_)
          · have V := V1 c35
            refine r_iconst (x := 0) dX1_canBe_68 rfl (by decide) ?_
            exact r_zret dX1_canBe_69 rfl (by decide) V
          · have V := V2 c35
            refine r_iconst (x := 1) dX1_canBe_64 rfl (by decide) ?_
            refine r_goto (tgt := 69) dX1_canBe_65 (by decide) ?_
            exact r_zret dX1_canBe_69 rfl (by decide) V
    refine r_jgt (tgt := 48) dX1_canBe_41 (by decide) (fun c31 => ?_) (fun c31 => ?_)
    · refine r_iconst (x := 0) dX1_canBe_48 rfl (by decide) ?_
      refine r_pick [1, 3] (ls' := [(1, vi x1), (3, vi z24)]) rfl ?_
      exact K 0 (by first | rfl | (simp only [if_pos c31]))
    · refine r_iconst (x := 1) dX1_canBe_44 rfl (by decide) ?_
      refine r_goto (tgt := 49) dX1_canBe_45 (by decide) ?_
      refine r_pick [1, 3] (ls' := [(1, vi x1), (3, vi z24)]) rfl ?_
      exact K 1 (by first | rfl | (simp only [if_neg (Int.not_lt.mpr c31)]))
  refine r_jlt (tgt := 17) dX1_canBe_10 (by decide) (fun c23 => ?_) (fun c23 => ?_)
  · refine r_iconst (x := 0) dX1_canBe_17 rfl (by decide) ?_
    exact K 0 (by first | rfl | (simp only [if_pos c23]))
  · refine r_iconst (x := 1) dX1_canBe_13 rfl (by decide) ?_
    refine r_goto (tgt := 18) dX1_canBe_14 (by decide) ?_
    exact K 1 (by first | rfl | (simp only [if_neg (Int.not_lt.mpr c23)]))

theorem gX1_greatestNumberOf_0 {w : WD} {d : Nat} {G : GM} {Q : Option AV → Hp → Prop} {n : NM} {x1 : Int}
    (V :
    (Ev w d 0 0 mX7_get [vr 31, vi 0, vi 2] (B0, n) (fun r h' => ∃ (x22 : Int) (n21 : NM), r = some (vi x22) ∧ h' = (B0, n21) ∧ 
      (inI (x1 * x22)) ∧
      ((x1 * x22 ≠ 0 →
        (Ev w d 0 0 mX7_get [vr 31, vi 0, vi 1] (B0, n21) (fun r h' => ∃ (x26 : Int) (n25 : NM), r = some (vi x26) ∧ h' = (B0, n25) ∧ 
          (0 ≤ x26) ∧
          (0 < x1 * x22) ∧
          Q (some (vi (x26 / (x1 * x22)))) (B0, n25)))) ∧
      (x1 * x22 = 0 →
        Q (some (vi (-1))) (B0, n21)))))) :
    Rn w mX1_greatestNumberOf (d + 1) G Q 0 [(0, vr 1), (1, vi x1)] [] (B0, n) := by
  refine r_iload_n dX1_greatestNumberOf_0 rfl rfl ?_
  refine r_aload_n dX1_greatestNumberOf_1 rfl rfl ?_
  refine r_getR (b := 31) dX1_greatestNumberOf_2 fX1_60 ob_1 (by decide) rfl rfl ?_
  refine r_iconst (x := 0) dX1_greatestNumberOf_5 rfl (by decide) ?_
  refine r_iconst (x := 2) dX1_greatestNumberOf_6 rfl (by decide) ?_
  refine r_callV (args := [vi 0, vi 2]) dX1_greatestNumberOf_7 kX1_93 ob_31 ⟨_, _, rfl⟩ (by decide) rfl rfl (Nat.le_of_ble_eq_true rfl) cap0 (Ev.mono V ?_)
  rintro r h' ⟨x22, n21, rfl, rfl, V⟩
  show Rn w mX1_greatestNumberOf (d + 1) G Q 10 [(0, vr 1), (1, vi x1)] [vi x22, vi x1] (B0, n21)
  obtain ⟨s23, V⟩ := V
  refine r_imul dX1_greatestNumberOf_10 s23 ?_
  refine r_istore_n (ls' := [(0, vr 1), (1, vi x1), (2, vi (x1 * x22))]) dX1_greatestNumberOf_11 rfl (by decide) rfl ?_
  refine r_iload_n dX1_greatestNumberOf_12 rfl rfl ?_
  obtain ⟨V1, V2⟩ := V
  refine r_zne (tgt := 20) dX1_greatestNumberOf_13 (by decide) (fun c24 => ?_) (fun c24 => ?_)
  · have V := V1 c24
    refine r_aload_n dX1_greatestNumberOf_20 rfl rfl ?_
    refine r_getR (b := 31) dX1_greatestNumberOf_21 fX1_60 ob_1 (by decide) rfl rfl ?_
    refine r_iconst (x := 0) dX1_greatestNumberOf_24 rfl (by decide) ?_
    refine r_iconst (x := 1) dX1_greatestNumberOf_25 rfl (by decide) ?_
    refine r_callV (args := [vi 0, vi 1]) dX1_greatestNumberOf_26 kX1_93 ob_31 ⟨_, _, rfl⟩ (by decide) rfl rfl (Nat.le_of_ble_eq_true rfl) cap0 (Ev.mono V ?_)
    rintro r h' ⟨x26, n25, rfl, rfl, V⟩
    show Rn w mX1_greatestNumberOf (d + 1) G Q 29 [(0, vr 1), (1, vi x1), (2, vi (x1 * x22))] [vi x26] (B0, n25)
    refine r_iload_n dX1_greatestNumberOf_29 rfl rfl ?_
    obtain ⟨s27, V⟩ := V
    obtain ⟨s28, V⟩ := V
    refine r_idiv dX1_greatestNumberOf_30 s27 s28 ?_
    exact r_iret dX1_greatestNumberOf_31 rfl V
  · have V := V2 c24
    refine r_iconst (x := -1) dX1_greatestNumberOf_16 rfl (by decide) ?_
    refine r_goto (tgt := 31) dX1_greatestNumberOf_17 (by decide) ?_
    exact r_iret dX1_greatestNumberOf_31 rfl V

theorem gX1_nothingNew_0 {w : WD} {d : Nat} {G : GM} {Q : Option AV → Hp → Prop} {n : NM} {x1 x2 : Int}
    (V :
    (Ev w d 0 0 mX7_get [vr 27, vi x1, vi 0] (B0, n) (fun r h' => ∃ (x22 : Int) (n21 : NM), r = some (vi x22) ∧ h' = (B0, n21) ∧ 
      ((x22 ≠ 0 →
        (Ev w d 0 0 mX7_get [vr 27, vi x2, vi 0] (B0, n21) (fun r h' => ∃ (x25 : Int) (n24 : NM), r = some (vi x25) ∧ h' = (B0, n24) ∧ 
          (Ev w d 0 0 mX7_get [vr 27, vi x1, vi 1] (B0, n24) (fun r h' => ∃ (x27 : Int) (n26 : NM), r = some (vi x27) ∧ h' = (B0, n26) ∧ 
            (inI (x25 * x27)) ∧
            (0 ≤ x25 * x27) ∧
            (0 < x22) ∧
            Q (some (vi ((x25 * x27) / x22))) (B0, n26)))))) ∧
      (x22 = 0 →
        Q (some (vi 0)) (B0, n21)))))) :
    Rn w mX1_nothingNew (d + 1) G Q 0 [(0, vr 1), (1, vi x1), (2, vi x2)] [] (B0, n) := by
  refine r_aload_n dX1_nothingNew_0 rfl rfl ?_
  refine r_getR (b := 27) dX1_nothingNew_1 fX1_54 ob_1 (by decide) rfl rfl ?_
  refine r_iload_n dX1_nothingNew_4 rfl rfl ?_
  refine r_iconst (x := 0) dX1_nothingNew_5 rfl (by decide) ?_
  refine r_callV (args := [vi x1, vi 0]) dX1_nothingNew_6 kX1_93 ob_27 ⟨_, _, rfl⟩ (by decide) rfl rfl (Nat.le_of_ble_eq_true rfl) cap0 (Ev.mono V ?_)
  rintro r h' ⟨x22, n21, rfl, rfl, V⟩
  show Rn w mX1_nothingNew (d + 1) G Q 9 [(0, vr 1), (1, vi x1), (2, vi x2)] [vi x22] (B0, n21)
  refine r_istore_n (ls' := [(0, vr 1), (1, vi x1), (2, vi x2), (3, vi x22)]) dX1_nothingNew_9 rfl (by decide) rfl ?_
  refine r_iload_n dX1_nothingNew_10 rfl rfl ?_
  obtain ⟨V1, V2⟩ := V
  refine r_zne (tgt := 18) dX1_nothingNew_11 (by decide) (fun c23 => ?_) (fun c23 => ?_)
  · have V := V1 c23
    refine r_aload_n dX1_nothingNew_18 rfl rfl ?_
    refine r_getR (b := 27) dX1_nothingNew_19 fX1_54 ob_1 (by decide) rfl rfl ?_
    refine r_iload_n dX1_nothingNew_22 rfl rfl ?_
    refine r_iconst (x := 0) dX1_nothingNew_23 rfl (by decide) ?_
    refine r_callV (args := [vi x2, vi 0]) dX1_nothingNew_24 kX1_93 ob_27 ⟨_, _, rfl⟩ (by decide) rfl rfl (Nat.le_of_ble_eq_true rfl) cap0 (Ev.mono V ?_)
    rintro r h' ⟨x25, n24, rfl, rfl, V⟩
    show Rn w mX1_nothingNew (d + 1) G Q 27 [(0, vr 1), (1, vi x1), (2, vi x2), (3, vi x22)] [vi x25] (B0, n24)
    refine r_aload_n dX1_nothingNew_27 rfl rfl ?_
    refine r_getR (b := 27) dX1_nothingNew_28 fX1_54 ob_1 (by decide) rfl rfl ?_
    refine r_iload_n dX1_nothingNew_31 rfl rfl ?_
    refine r_iconst (x := 1) dX1_nothingNew_32 rfl (by decide) ?_
    refine r_callV (args := [vi x1, vi 1]) dX1_nothingNew_33 kX1_93 ob_27 ⟨_, _, rfl⟩ (by decide) rfl rfl (Nat.le_of_ble_eq_true rfl) cap0 (Ev.mono V ?_)
    rintro r h' ⟨x27, n26, rfl, rfl, V⟩
    show Rn w mX1_nothingNew (d + 1) G Q 36 [(0, vr 1), (1, vi x1), (2, vi x2), (3, vi x22)] [vi x27, vi x25] (B0, n26)
    obtain ⟨s28, V⟩ := V
    refine r_imul dX1_nothingNew_36 s28 ?_
    refine r_iload_n dX1_nothingNew_37 rfl rfl ?_
    obtain ⟨s29, V⟩ := V
    obtain ⟨s30, V⟩ := V
    refine r_idiv dX1_nothingNew_38 s29 s30 ?_
    exact r_iret dX1_nothingNew_39 rfl V
  · have V := V2 c23
    refine r_iconst (x := 0) dX1_nothingNew_14 rfl (by decide) ?_
    refine r_goto (tgt := 39) dX1_nothingNew_15 (by decide) ?_
    exact r_iret dX1_nothingNew_39 rfl V

theorem gX1_moreSeen_0 {w : WD} {d : Nat} {G : GM} {Q : Option AV → Hp → Prop} {n : NM} {x1 x2 : Int}
    (V :
    (Ev w d 0 0 mX7_get [vr 27, vi x2, vi 1] (B0, n) (fun r h' => ∃ (x22 : Int) (n21 : NM), r = some (vi x22) ∧ h' = (B0, n21) ∧ 
      (Ev w d 0 0 mX1_nothingNew [vr 1, vi x1, vi x2] (B0, n21) (fun r h' => ∃ (x24 : Int) (n23 : NM), r = some (vi x24) ∧ h' = (B0, n23) ∧ 
        (inI (x22 - x24)) ∧
        Q (some (vi (x22 - x24))) (B0, n23)))))) :
    Rn w mX1_moreSeen (d + 1) G Q 0 [(0, vr 1), (1, vi x1), (2, vi x2)] [] (B0, n) := by
  refine r_aload_n dX1_moreSeen_0 rfl rfl ?_
  refine r_getR (b := 27) dX1_moreSeen_1 fX1_54 ob_1 (by decide) rfl rfl ?_
  refine r_iload_n dX1_moreSeen_4 rfl rfl ?_
  refine r_iconst (x := 1) dX1_moreSeen_5 rfl (by decide) ?_
  refine r_callV (args := [vi x2, vi 1]) dX1_moreSeen_6 kX1_93 ob_27 ⟨_, _, rfl⟩ (by decide) rfl rfl (Nat.le_of_ble_eq_true rfl) cap0 (Ev.mono V ?_)
  rintro r h' ⟨x22, n21, rfl, rfl, V⟩
  show Rn w mX1_moreSeen (d + 1) G Q 9 [(0, vr 1), (1, vi x1), (2, vi x2)] [vi x22] (B0, n21)
  refine r_aload_n dX1_moreSeen_9 rfl rfl ?_
  refine r_iload_n dX1_moreSeen_10 rfl rfl ?_
  refine r_iload_n dX1_moreSeen_11 rfl rfl ?_
  refine r_callV (args := [vi x1, vi x2]) dX1_moreSeen_12 kX1_132 ob_1 ⟨_, _, rfl⟩ (by decide) rfl rfl (Nat.le_of_ble_eq_true rfl) cap0 (Ev.mono V ?_)
  rintro r h' ⟨x24, n23, rfl, rfl, V⟩
  show Rn w mX1_moreSeen (d + 1) G Q 15 [(0, vr 1), (1, vi x1), (2, vi x2)] [vi x24, vi x22] (B0, n23)
  obtain ⟨s25, V⟩ := V
  refine r_isub dX1_moreSeen_15 s25 ?_
  exact r_iret dX1_moreSeen_16 rfl V
theorem gX6_weigh_0 {w : WD} {d : Nat} {G : GM} {Q : Option AV → Hp → Prop} {n : NM} {x2 : Int}
    (V :
    (Ev w d 0 0 mX4_become [vr 53, vi 0] (B0, n) (fun r h' => ∃ n21 : NM, r = none ∧ h' = (B0, n21) ∧ 
      Rn w mX6_weigh (d + 1) G Q 10 [(0, vr 51), (1, vr 1), (2, vi x2), (3, vi 0)] [] (B0, n21)))) :
    Rn w mX6_weigh (d + 1) G Q 0 [(0, vr 51), (1, vr 1), (2, vi x2)] [] (B0, n) := by
  refine r_aload_n dX6_weigh_0 rfl rfl ?_
  refine r_getR (b := 53) dX6_weigh_1 fX6_18 ob_51 (by decide) rfl rfl ?_
  refine r_iconst (x := 0) dX6_weigh_4 rfl (by decide) ?_
  refine r_callV (args := [vi 0]) dX6_weigh_5 kX6_31 ob_53 ⟨_, _, rfl⟩ (by decide) rfl rfl (Nat.le_of_ble_eq_true rfl) cap0 (Ev.mono V ?_)
  rintro r h' ⟨n21, rfl, rfl, V⟩
  show Rn w mX6_weigh (d + 1) G Q 8 [(0, vr 51), (1, vr 1), (2, vi x2)] [] (B0, n21)
  refine r_iconst (x := 0) dX6_weigh_8 rfl (by decide) ?_
  refine r_istore_n (ls' := [(0, vr 51), (1, vr 1), (2, vi x2), (3, vi 0)]) dX6_weigh_9 rfl (by decide) rfl ?_
  exact V

theorem gX6_weigh_10 {w : WD} {d : Nat} {G : GM} {Q : Option AV → Hp → Prop} {n : NM} {x2 x3 : Int}
    (V :
    ((6 ≤ x3 →
      Q none (B0, n)) ∧
    (x3 < 6 →
      (Ev w d 0 0 mX7_size [vr 21] (B0, n) (fun r h' => ∃ (x23 : Int) (n22 : NM), r = some (vi x23) ∧ h' = (B0, n22) ∧ 
        ((x23 ≤ x3 →
          Q none (B0, n22)) ∧
        (x3 < x23 →
          (0 ≤ x3) ∧
          (x3 < 6) ∧
          (Ev w d 0 0 mX7_get [vr 21, vi x3, vi 0] (B0, n22) (fun r h' => ∃ (x28 : Int) (n27 : NM), r = some (vi x28) ∧ h' = (B0, n27) ∧ 
            (Ev w d 0 0 mX4_become [vr (natA x3), vi x28] (B0, n27) (fun r h' => ∃ n29 : NM, r = none ∧ h' = (B0, n29) ∧ 
              Rn w mX6_weigh (d + 1) G Q 52 [(0, vr 51), (1, vr 1), (2, vi x2), (3, vi x3), (4, vr (natA x3)), (5, vi 0)] [] (B0, n29)))))))))))) :
    Rn w mX6_weigh (d + 1) G Q 10 [(0, vr 51), (1, vr 1), (2, vi x2), (3, vi x3)] [] (B0, n) := by
  refine r_iload_n dX6_weigh_10 rfl rfl ?_
  refine r_bipush (x := 6) dX6_weigh_11 (by decide +kernel) (by decide) ?_
  obtain ⟨V1, V2⟩ := V
  refine r_jge (tgt := 101) dX6_weigh_13 (by decide) (fun c21 => ?_) (fun c21 => ?_)
  · have V := V1 c21
    exact r_ret dX6_weigh_101 rfl V
  · have V := V2 c21
    refine r_iload_n dX6_weigh_16 rfl rfl ?_
    refine r_aload_n dX6_weigh_17 rfl rfl ?_
    refine r_getR (b := 21) dX6_weigh_18 fX6_35 ob_1 (by decide) rfl rfl ?_
    refine r_callV (args := []) dX6_weigh_21 kX6_41 ob_21 ⟨_, _, rfl⟩ (by decide) rfl rfl (Nat.le_of_ble_eq_true rfl) cap0 (Ev.mono V ?_)
    rintro r h' ⟨x23, n22, rfl, rfl, V⟩
    show Rn w mX6_weigh (d + 1) G Q 24 [(0, vr 51), (1, vr 1), (2, vi x2), (3, vi x3)] [vi x23, vi x3] (B0, n22)
    obtain ⟨V1, V2⟩ := V
    refine r_jge (tgt := 101) dX6_weigh_24 (by decide) (fun c24 => ?_) (fun c24 => ?_)
    · have V := V1 c24
      exact r_ret dX6_weigh_101 rfl V
    · have V := V2 c24
      refine r_aload_n dX6_weigh_27 rfl rfl ?_
      refine r_getR (b := 52) dX6_weigh_28 fX6_11 ob_51 (by decide) rfl rfl ?_
      refine r_iload_n dX6_weigh_31 rfl rfl ?_
      obtain ⟨s25, V⟩ := V
      obtain ⟨s26, V⟩ := V
      refine r_aald (c := 1) (Cn := "LakeWatch$Natural") (b := natA x3) dX6_weigh_32 ob_52 rfl s25 s26 (rf_cnt s25 s26) ?_
      refine r_astore (ls' := [(0, vr 51), (1, vr 1), (2, vi x2), (3, vi x3), (4, vr (natA x3))]) dX6_weigh_33 (by decide) rfl ?_
      refine r_aload dX6_weigh_35 rfl ?_
      refine r_aload_n dX6_weigh_37 rfl rfl ?_
      refine r_getR (b := 21) dX6_weigh_38 fX6_35 ob_1 (by decide) rfl rfl ?_
      refine r_iload_n dX6_weigh_41 rfl rfl ?_
      refine r_iconst (x := 0) dX6_weigh_42 rfl (by decide) ?_
      refine r_callV (args := [vi x3, vi 0]) dX6_weigh_43 kX6_47 ob_21 ⟨_, _, rfl⟩ (by decide) rfl rfl (Nat.le_of_ble_eq_true rfl) cap0 (Ev.mono V ?_)
      rintro r h' ⟨x28, n27, rfl, rfl, V⟩
      show Rn w mX6_weigh (d + 1) G Q 46 [(0, vr 51), (1, vr 1), (2, vi x2), (3, vi x3), (4, vr (natA x3))] [vi x28, vr (natA x3)] (B0, n27)
      refine r_callV (args := [vi x28]) dX6_weigh_46 kX6_31 (ob_natA s25 s26) ⟨_, _, rfl⟩ (by decide) rfl rfl (Nat.le_of_ble_eq_true rfl) cap0 (Ev.mono V ?_)
      rintro r h' ⟨n29, rfl, rfl, V⟩
      show Rn w mX6_weigh (d + 1) G Q 49 [(0, vr 51), (1, vr 1), (2, vi x2), (3, vi x3), (4, vr (natA x3))] [] (B0, n29)
      refine r_iconst (x := 0) dX6_weigh_49 rfl (by decide) ?_
      refine r_istore (ls' := [(0, vr 51), (1, vr 1), (2, vi x2), (3, vi x3), (4, vr (natA x3)), (5, vi 0)]) dX6_weigh_50 (by decide) rfl ?_
      exact V

theorem gX6_weigh_52 {w : WD} {d : Nat} {G : GM} {Q : Option AV → Hp → Prop} {n : NM} {x2 x3 x5 : Int}
    (V :
    (Ev w d 0 0 mX7_size [vr 23] (B0, n) (fun r h' => ∃ (x22 : Int) (n21 : NM), r = some (vi x22) ∧ h' = (B0, n21) ∧ 
      ((x22 ≤ x5 →
        (Ev w d 0 0 mX4_increaseBy [vr 53, vr (natA x3)] (B0, n21) (fun r h' => ∃ n24 : NM, r = none ∧ h' = (B0, n24) ∧ 
          (inI (x3 + 1)) ∧
          Rn w mX6_weigh (d + 1) G Q 10 [(0, vr 51), (1, vr 1), (2, vi x2), (3, vi (x3 + 1))] [] (B0, n24)))) ∧
      (x5 < x22 →
        ((x5 = x2 →
          (inI (x5 + 1)) ∧
          Rn w mX6_weigh (d + 1) G Q 52 [(0, vr 51), (1, vr 1), (2, vi x2), (3, vi x3), (4, vr (natA x3)), (5, vi (x5 + 1))] [] (B0, n21)) ∧
        (x5 ≠ x2 →
          (Ev w d 0 0 mX6_weighSweep [vr 51, vr 1, vi x3, vi x5, vr (natA x3)] (B0, n21) (fun r h' => ∃ n28 : NM, r = none ∧ h' = (B0, n28) ∧ 
            (inI (x5 + 1)) ∧
            Rn w mX6_weigh (d + 1) G Q 52 [(0, vr 51), (1, vr 1), (2, vi x2), (3, vi x3), (4, vr (natA x3)), (5, vi (x5 + 1))] [] (B0, n28)))))))))) :
    Rn w mX6_weigh (d + 1) G Q 52 [(0, vr 51), (1, vr 1), (2, vi x2), (3, vi x3), (4, vr (natA x3)), (5, vi x5)] [] (B0, n) := by
  refine r_iload dX6_weigh_52 rfl ?_
  refine r_aload_n dX6_weigh_54 rfl rfl ?_
  refine r_getR (b := 23) dX6_weigh_55 fX6_51 ob_1 (by decide) rfl rfl ?_
  refine r_callV (args := []) dX6_weigh_58 kX6_41 ob_23 ⟨_, _, rfl⟩ (by decide) rfl rfl (Nat.le_of_ble_eq_true rfl) cap0 (Ev.mono V ?_)
  rintro r h' ⟨x22, n21, rfl, rfl, V⟩
  show Rn w mX6_weigh (d + 1) G Q 61 [(0, vr 51), (1, vr 1), (2, vi x2), (3, vi x3), (4, vr (natA x3)), (5, vi x5)] [vi x22, vi x5] (B0, n21)
  obtain ⟨V1, V2⟩ := V
  refine r_jge (tgt := 86) dX6_weigh_61 (by decide) (fun c23 => ?_) (fun c23 => ?_)
  · have V := V1 c23
    refine r_aload_n dX6_weigh_86 rfl rfl ?_
    refine r_getR (b := 53) dX6_weigh_87 fX6_18 ob_51 (by decide) rfl rfl ?_
    refine r_aload dX6_weigh_90 rfl ?_
    refine r_callV (args := [vr (natA x3)]) dX6_weigh_92 kX6_58 ob_53 ⟨_, _, rfl⟩ (by decide) rfl rfl (Nat.le_of_ble_eq_true rfl) cap0 (Ev.mono V ?_)
    rintro r h' ⟨n24, rfl, rfl, V⟩
    show Rn w mX6_weigh (d + 1) G Q 95 [(0, vr 51), (1, vr 1), (2, vi x2), (3, vi x3), (4, vr (natA x3)), (5, vi x5)] [] (B0, n24)
    obtain ⟨s25, V⟩ := V
    refine r_iinc (y := x3 + 1) (ls' := [(0, vr 51), (1, vr 1), (2, vi x2), (3, vi (x3 + 1)), (4, vr (natA x3)), (5, vi x5)]) dX6_weigh_95 rfl rfl s25 (by decide) rfl ?_
    refine r_goto (tgt := 10) dX6_weigh_98 (by decide) ?_
    refine r_pick [0, 1, 2, 3] (ls' := [(0, vr 51), (1, vr 1), (2, vi x2), (3, vi (x3 + 1))]) rfl ?_
    exact V
  · have V := V2 c23
    refine r_iload dX6_weigh_64 rfl ?_
    refine r_iload_n dX6_weigh_66 rfl rfl ?_
    obtain ⟨V1, V2⟩ := V
    refine r_jeq (tgt := 80) dX6_weigh_67 (by decide) (fun c26 => ?_) (fun c26 => ?_)
    · have V := V1 c26
      obtain ⟨s27, V⟩ := V
      refine r_iinc (y := x5 + 1) (ls' := [(0, vr 51), (1, vr 1), (2, vi x2), (3, vi x3), (4, vr (natA x3)), (5, vi (x5 + 1))]) dX6_weigh_80 rfl rfl s27 (by decide) rfl ?_
      refine r_goto (tgt := 52) dX6_weigh_83 (by decide) ?_
      exact V
    · have V := V2 c26
      refine r_aload_n dX6_weigh_70 rfl rfl ?_
      refine r_aload_n dX6_weigh_71 rfl rfl ?_
      refine r_iload_n dX6_weigh_72 rfl rfl ?_
      refine r_iload dX6_weigh_73 rfl ?_
      refine r_aload dX6_weigh_75 rfl ?_
      refine r_callV (args := [vr 1, vi x3, vi x5, vr (natA x3)]) dX6_weigh_77 kX6_54 ob_51 ⟨_, _, rfl⟩ (by decide) rfl rfl (Nat.le_of_ble_eq_true rfl) cap0 (Ev.mono V ?_)
      rintro r h' ⟨n28, rfl, rfl, V⟩
      show Rn w mX6_weigh (d + 1) G Q 80 [(0, vr 51), (1, vr 1), (2, vi x2), (3, vi x3), (4, vr (natA x3)), (5, vi x5)] [] (B0, n28)
      obtain ⟨s29, V⟩ := V
      refine r_iinc (y := x5 + 1) (ls' := [(0, vr 51), (1, vr 1), (2, vi x2), (3, vi x3), (4, vr (natA x3)), (5, vi (x5 + 1))]) dX6_weigh_80 rfl rfl s29 (by decide) rfl ?_
      refine r_goto (tgt := 52) dX6_weigh_83 (by decide) ?_
      exact V

theorem gX6_weighSweep_0 {w : WD} {d : Nat} {G : GM} {Q : Option AV → Hp → Prop} {a c : Nat} {n : NM} {x2 x3 : Int} (oa : Obj B0 a 4 2) (ra : rf B0 a 0 = some c) (oc : Obj B0 c 101 64)
    (V :
    (Ev w d 0 0 mX7_get [vr 23, vi x3, vi 1] (B0, n) (fun r h' => ∃ (x22 : Int) (n21 : NM), r = some (vi x22) ∧ h' = (B0, n21) ∧ 
      (Ev w d 0 0 mX1_heardOf [vr 1, vi x2, vi x22] (B0, n21) (fun r h' => ∃ (x24 : Int) (n23 : NM), r = some (vi x24) ∧ h' = (B0, n23) ∧ 
        (Ev w d 0 0 mX4_become_ [vr 55, vr a] (B0, n23) (fun r h' => ∃ n25 : NM, r = none ∧ h' = (B0, n25) ∧ 
          (Ev w d 0 0 mX7_get [vr 23, vi x3, vi 0] (B0, n25) (fun r h' => ∃ (x27 : Int) (n26 : NM), r = some (vi x27) ∧ h' = (B0, n26) ∧ 
            (inI (100 - x27)) ∧
            (Ev w d 0 0 mX4_multiplyOften [vr 55, vi (100 - x27), vi x24] (B0, n26) (fun r h' => ∃ n29 : NM, r = none ∧ h' = (B0, n29) ∧ 
              (inI (20 - x24)) ∧
              (Ev w d 0 0 mX4_multiplyOften [vr 55, vi 100, vi (20 - x24)] (B0, n29) (fun r h' => ∃ n31 : NM, r = none ∧ h' = (B0, n31) ∧ 
                (Ev w d 0 0 mX7_get [vr 23, vi x3, vi 2] (B0, n31) (fun r h' => ∃ (x33 : Int) (n32 : NM), r = some (vi x33) ∧ h' = (B0, n32) ∧ 
                  (inI (100 - x33)) ∧
                  (Ev w d 0 0 mX4_multiply [vr 55, vl (100 - x33)] (B0, n32) (fun r h' => ∃ n35 : NM, r = none ∧ h' = (B0, n35) ∧ 
                    (Ev w d 0 0 mX7_get [vr 23, vi x3, vi 3] (B0, n35) (fun r h' => ∃ (x37 : Int) (n36 : NM), r = some (vi x37) ∧ h' = (B0, n36) ∧ 
                      ((x37 ≠ 0 →
                        (Ev w d 0 0 mX4_multiplyOften [vr a, vi 100, vi 21] (B0, n36) (fun r h' => ∃ n39 : NM, r = none ∧ h' = (B0, n39) ∧ 
                          (Ev w d 0 0 mX4_decreaseBy [vr a, vr 55] (B0, n39) (fun r h' => ∃ n40 : NM, r = none ∧ h' = (B0, n40) ∧ 
                            Q none (B0, n40)))))) ∧
                      (x37 = 0 →
                        (Ev w d 0 0 mX4_become_ [vr a, vr 55] (B0, n36) (fun r h' => ∃ n41 : NM, r = none ∧ h' = (B0, n41) ∧ 
                          Q none (B0, n41)))))))))))))))))))))))) :
    Rn w mX6_weighSweep (d + 1) G Q 0 [(0, vr 51), (1, vr 1), (2, vi x2), (3, vi x3), (4, vr a)] [] (B0, n) := by
  refine r_aload_n dX6_weighSweep_0 rfl rfl ?_
  refine r_iload_n dX6_weighSweep_1 rfl rfl ?_
  refine r_aload_n dX6_weighSweep_2 rfl rfl ?_
  refine r_getR (b := 23) dX6_weighSweep_3 fX6_51 ob_1 (by decide) rfl rfl ?_
  refine r_iload_n dX6_weighSweep_6 rfl rfl ?_
  refine r_iconst (x := 1) dX6_weighSweep_7 rfl (by decide) ?_
  refine r_callV (args := [vi x3, vi 1]) dX6_weighSweep_8 kX6_47 ob_23 ⟨_, _, rfl⟩ (by decide) rfl rfl (Nat.le_of_ble_eq_true rfl) cap0 (Ev.mono V ?_)
  rintro r h' ⟨x22, n21, rfl, rfl, V⟩
  show Rn w mX6_weighSweep (d + 1) G Q 11 [(0, vr 51), (1, vr 1), (2, vi x2), (3, vi x3), (4, vr a)] [vi x22, vi x2, vr 1] (B0, n21)
  refine r_callV (args := [vi x2, vi x22]) dX6_weighSweep_11 kX6_62 ob_1 ⟨_, _, rfl⟩ (by decide) rfl rfl (Nat.le_of_ble_eq_true rfl) cap0 (Ev.mono V ?_)
  rintro r h' ⟨x24, n23, rfl, rfl, V⟩
  show Rn w mX6_weighSweep (d + 1) G Q 14 [(0, vr 51), (1, vr 1), (2, vi x2), (3, vi x3), (4, vr a)] [vi x24] (B0, n23)
  refine r_istore (ls' := [(0, vr 51), (1, vr 1), (2, vi x2), (3, vi x3), (4, vr a), (5, vi x24)]) dX6_weighSweep_14 (by decide) rfl ?_
  refine r_aload_n dX6_weighSweep_16 rfl rfl ?_
  refine r_getR (b := 55) dX6_weighSweep_17 fX6_22 ob_51 (by decide) rfl rfl ?_
  refine r_aload dX6_weighSweep_20 rfl ?_
  refine r_callV (args := [vr a]) dX6_weighSweep_22 kX6_65 ob_55 ⟨_, _, rfl⟩ (by decide) rfl rfl (Nat.le_of_ble_eq_true rfl) cap0 (Ev.mono V ?_)
  rintro r h' ⟨n25, rfl, rfl, V⟩
  show Rn w mX6_weighSweep (d + 1) G Q 25 [(0, vr 51), (1, vr 1), (2, vi x2), (3, vi x3), (4, vr a), (5, vi x24)] [] (B0, n25)
  refine r_aload_n dX6_weighSweep_25 rfl rfl ?_
  refine r_getR (b := 55) dX6_weighSweep_26 fX6_22 ob_51 (by decide) rfl rfl ?_
  refine r_bipush (x := 100) dX6_weighSweep_29 (by decide +kernel) (by decide) ?_
  refine r_aload_n dX6_weighSweep_31 rfl rfl ?_
  refine r_getR (b := 23) dX6_weighSweep_32 fX6_51 ob_1 (by decide) rfl rfl ?_
  refine r_iload_n dX6_weighSweep_35 rfl rfl ?_
  refine r_iconst (x := 0) dX6_weighSweep_36 rfl (by decide) ?_
  refine r_callV (args := [vi x3, vi 0]) dX6_weighSweep_37 kX6_47 ob_23 ⟨_, _, rfl⟩ (by decide) rfl rfl (Nat.le_of_ble_eq_true rfl) cap0 (Ev.mono V ?_)
  rintro r h' ⟨x27, n26, rfl, rfl, V⟩
  show Rn w mX6_weighSweep (d + 1) G Q 40 [(0, vr 51), (1, vr 1), (2, vi x2), (3, vi x3), (4, vr a), (5, vi x24)] [vi x27, vi 100, vr 55] (B0, n26)
  obtain ⟨s28, V⟩ := V
  refine r_isub dX6_weighSweep_40 s28 ?_
  refine r_iload dX6_weighSweep_41 rfl ?_
  refine r_callV (args := [vi (100 - x27), vi x24]) dX6_weighSweep_43 kX6_67 ob_55 ⟨_, _, rfl⟩ (by decide) rfl rfl (Nat.le_of_ble_eq_true rfl) cap0 (Ev.mono V ?_)
  rintro r h' ⟨n29, rfl, rfl, V⟩
  show Rn w mX6_weighSweep (d + 1) G Q 46 [(0, vr 51), (1, vr 1), (2, vi x2), (3, vi x3), (4, vr a), (5, vi x24)] [] (B0, n29)
  refine r_aload_n dX6_weighSweep_46 rfl rfl ?_
  refine r_getR (b := 55) dX6_weighSweep_47 fX6_22 ob_51 (by decide) rfl rfl ?_
  refine r_bipush (x := 100) dX6_weighSweep_50 (by decide +kernel) (by decide) ?_
  refine r_bipush (x := 20) dX6_weighSweep_52 (by decide +kernel) (by decide) ?_
  refine r_iload dX6_weighSweep_54 rfl ?_
  obtain ⟨s30, V⟩ := V
  refine r_isub dX6_weighSweep_56 s30 ?_
  refine r_callV (args := [vi 100, vi (20 - x24)]) dX6_weighSweep_57 kX6_67 ob_55 ⟨_, _, rfl⟩ (by decide) rfl rfl (Nat.le_of_ble_eq_true rfl) cap0 (Ev.mono V ?_)
  rintro r h' ⟨n31, rfl, rfl, V⟩
  show Rn w mX6_weighSweep (d + 1) G Q 60 [(0, vr 51), (1, vr 1), (2, vi x2), (3, vi x3), (4, vr a), (5, vi x24)] [] (B0, n31)
  refine r_aload_n dX6_weighSweep_60 rfl rfl ?_
  refine r_getR (b := 55) dX6_weighSweep_61 fX6_22 ob_51 (by decide) rfl rfl ?_
  refine r_bipush (x := 100) dX6_weighSweep_64 (by decide +kernel) (by decide) ?_
  refine r_aload_n dX6_weighSweep_66 rfl rfl ?_
  refine r_getR (b := 23) dX6_weighSweep_67 fX6_51 ob_1 (by decide) rfl rfl ?_
  refine r_iload_n dX6_weighSweep_70 rfl rfl ?_
  refine r_iconst (x := 2) dX6_weighSweep_71 rfl (by decide) ?_
  refine r_callV (args := [vi x3, vi 2]) dX6_weighSweep_72 kX6_47 ob_23 ⟨_, _, rfl⟩ (by decide) rfl rfl (Nat.le_of_ble_eq_true rfl) cap0 (Ev.mono V ?_)
  rintro r h' ⟨x33, n32, rfl, rfl, V⟩
  show Rn w mX6_weighSweep (d + 1) G Q 75 [(0, vr 51), (1, vr 1), (2, vi x2), (3, vi x3), (4, vr a), (5, vi x24)] [vi x33, vi 100, vr 55] (B0, n32)
  obtain ⟨s34, V⟩ := V
  refine r_isub dX6_weighSweep_75 s34 ?_
  refine r_i2l dX6_weighSweep_76 ?_
  refine r_callV (args := [vl (100 - x33)]) dX6_weighSweep_77 kX6_71 ob_55 ⟨_, _, rfl⟩ (by decide) rfl rfl (Nat.le_of_ble_eq_true rfl) cap0 (Ev.mono V ?_)
  rintro r h' ⟨n35, rfl, rfl, V⟩
  show Rn w mX6_weighSweep (d + 1) G Q 80 [(0, vr 51), (1, vr 1), (2, vi x2), (3, vi x3), (4, vr a), (5, vi x24)] [] (B0, n35)
  refine r_aload_n dX6_weighSweep_80 rfl rfl ?_
  refine r_getR (b := 23) dX6_weighSweep_81 fX6_51 ob_1 (by decide) rfl rfl ?_
  refine r_iload_n dX6_weighSweep_84 rfl rfl ?_
  refine r_iconst (x := 3) dX6_weighSweep_85 rfl (by decide) ?_
  refine r_callV (args := [vi x3, vi 3]) dX6_weighSweep_86 kX6_47 ob_23 ⟨_, _, rfl⟩ (by decide) rfl rfl (Nat.le_of_ble_eq_true rfl) cap0 (Ev.mono V ?_)
  rintro r h' ⟨x37, n36, rfl, rfl, V⟩
  show Rn w mX6_weighSweep (d + 1) G Q 89 [(0, vr 51), (1, vr 1), (2, vi x2), (3, vi x3), (4, vr a), (5, vi x24)] [vi x37] (B0, n36)
  obtain ⟨V1, V2⟩ := V
  refine r_zne (tgt := 104) dX6_weighSweep_89 (by decide) (fun c38 => ?_) (fun c38 => ?_)
  · have V := V1 c38
    refine r_aload dX6_weighSweep_104 rfl ?_
    refine r_bipush (x := 100) dX6_weighSweep_106 (by decide +kernel) (by decide) ?_
    refine r_bipush (x := 21) dX6_weighSweep_108 (by decide +kernel) (by decide) ?_
    refine r_callV (args := [vi 100, vi 21]) dX6_weighSweep_110 kX6_67 oa ⟨_, _, rfl⟩ (by decide) rfl rfl (Nat.le_of_ble_eq_true rfl) cap0 (Ev.mono V ?_)
    rintro r h' ⟨n39, rfl, rfl, V⟩
    show Rn w mX6_weighSweep (d + 1) G Q 113 [(0, vr 51), (1, vr 1), (2, vi x2), (3, vi x3), (4, vr a), (5, vi x24)] [] (B0, n39)
    refine r_aload dX6_weighSweep_113 rfl ?_
    refine r_aload_n dX6_weighSweep_115 rfl rfl ?_
    refine r_getR (b := 55) dX6_weighSweep_116 fX6_22 ob_51 (by decide) rfl rfl ?_
    refine r_callV (args := [vr 55]) dX6_weighSweep_119 kX6_75 oa ⟨_, _, rfl⟩ (by decide) rfl rfl (Nat.le_of_ble_eq_true rfl) cap0 (Ev.mono V ?_)
    rintro r h' ⟨n40, rfl, rfl, V⟩
    show Rn w mX6_weighSweep (d + 1) G Q 122 [(0, vr 51), (1, vr 1), (2, vi x2), (3, vi x3), (4, vr a), (5, vi x24)] [] (B0, n40)
    exact r_ret dX6_weighSweep_122 rfl V
  · have V := V2 c38
    refine r_aload dX6_weighSweep_92 rfl ?_
    refine r_aload_n dX6_weighSweep_94 rfl rfl ?_
    refine r_getR (b := 55) dX6_weighSweep_95 fX6_22 ob_51 (by decide) rfl rfl ?_
    refine r_callV (args := [vr 55]) dX6_weighSweep_98 kX6_65 oa ⟨_, _, rfl⟩ (by decide) rfl rfl (Nat.le_of_ble_eq_true rfl) cap0 (Ev.mono V ?_)
    rintro r h' ⟨n41, rfl, rfl, V⟩
    show Rn w mX6_weighSweep (d + 1) G Q 101 [(0, vr 51), (1, vr 1), (2, vi x2), (3, vi x3), (4, vr a), (5, vi x24)] [] (B0, n41)
    refine r_goto (tgt := 122) dX6_weighSweep_101 (by decide) ?_
    exact r_ret dX6_weighSweep_122 rfl V

theorem gX6_oddsOf_0 {w : WD} {d : Nat} {G : GM} {Q : Option AV → Hp → Prop} {n : NM} {x1 : Int}
    (V :
    ((x1 < 0 →
      Q (some (vi 0)) (B0, n)) ∧
    (0 ≤ x1 →
      ((6 ≤ x1 →
        Q (some (vi 0)) (B0, n)) ∧
      (x1 < 6 →
        (Ev w d 0 0 mX4_isZero [vr 53] (B0, n) (fun r h' => ∃ (x24 : Int) (n23 : NM), r = some (vi x24) ∧ h' = (B0, n23) ∧ 
          ((x24 = 0 →
            (0 ≤ x1) ∧
            (x1 < 6) ∧
            (Ev w d 0 0 mX4_become_ [vr 57, vr (natA x1)] (B0, n23) (fun r h' => ∃ n28 : NM, r = none ∧ h' = (B0, n28) ∧ 
              (Ev w d 0 0 mX4_multiply [vr 57, vl 1000000] (B0, n28) (fun r h' => ∃ n29 : NM, r = none ∧ h' = (B0, n29) ∧ 
                Rn w mX6_oddsOf (d + 1) G Q 53 [(0, vr 51), (2, vi 0), (3, vi 1000000), (4, vi 0)] [] (B0, n29)))))) ∧
          (x24 ≠ 0 →
            Q (some (vi 0)) (B0, n23)))))))))) :
    Rn w mX6_oddsOf (d + 1) G Q 0 [(0, vr 51), (1, vi x1)] [] (B0, n) := by
  refine r_iload_n dX6_oddsOf_0 rfl rfl ?_
  obtain ⟨V1, V2⟩ := V
  refine r_zlt (tgt := 20) dX6_oddsOf_1 (by decide) (fun c21 => ?_) (fun c21 => ?_)
  · have V := V1 c21
    refine r_iconst (x := 0) dX6_oddsOf_20 rfl (by decide) ?_
    exact r_iret dX6_oddsOf_21 rfl V
  · have V := V2 c21
    refine r_iload_n dX6_oddsOf_4 rfl rfl ?_
    refine r_bipush (x := 6) dX6_oddsOf_5 (by decide +kernel) (by decide) ?_
    obtain ⟨V1, V2⟩ := V
    refine r_jge (tgt := 20) dX6_oddsOf_7 (by decide) (fun c22 => ?_) (fun c22 => ?_)
    · have V := V1 c22
      refine r_iconst (x := 0) dX6_oddsOf_20 rfl (by decide) ?_
      exact r_iret dX6_oddsOf_21 rfl V
    · have V := V2 c22
      refine r_aload_n dX6_oddsOf_10 rfl rfl ?_
      refine r_getR (b := 53) dX6_oddsOf_11 fX6_18 ob_51 (by decide) rfl rfl ?_
      refine r_callV (args := []) dX6_oddsOf_14 kX6_78 ob_53 ⟨_, _, rfl⟩ (by decide) rfl rfl (Nat.le_of_ble_eq_true rfl) cap0 (Ev.mono V ?_)
      rintro r h' ⟨x24, n23, rfl, rfl, V⟩
      show Rn w mX6_oddsOf (d + 1) G Q 17 [(0, vr 51), (1, vi x1)] [vi x24] (B0, n23)
      obtain ⟨V1, V2⟩ := V
      refine r_zeq (tgt := 22) dX6_oddsOf_17 (by decide) (fun c25 => ?_) (fun c25 => ?_)
      · have V := V1 c25
        refine r_aload_n dX6_oddsOf_22 rfl rfl ?_
        refine r_getR (b := 57) dX6_oddsOf_23 fX6_25 ob_51 (by decide) rfl rfl ?_
        refine r_aload_n dX6_oddsOf_26 rfl rfl ?_
        refine r_getR (b := 52) dX6_oddsOf_27 fX6_11 ob_51 (by decide) rfl rfl ?_
        refine r_iload_n dX6_oddsOf_30 rfl rfl ?_
        obtain ⟨s26, V⟩ := V
        obtain ⟨s27, V⟩ := V
        refine r_aald (c := 1) (Cn := "LakeWatch$Natural") (b := natA x1) dX6_oddsOf_31 ob_52 rfl s26 s27 (rf_cnt s26 s27) ?_
        refine r_callV (args := [vr (natA x1)]) dX6_oddsOf_32 kX6_65 ob_57 ⟨_, _, rfl⟩ (by decide) rfl rfl (Nat.le_of_ble_eq_true rfl) cap0 (Ev.mono V ?_)
        rintro r h' ⟨n28, rfl, rfl, V⟩
        show Rn w mX6_oddsOf (d + 1) G Q 35 [(0, vr 51), (1, vi x1)] [] (B0, n28)
        refine r_aload_n dX6_oddsOf_35 rfl rfl ?_
        refine r_getR (b := 57) dX6_oddsOf_36 fX6_25 ob_51 (by decide) rfl rfl ?_
        refine r_ldc2 (x := 1000000) dX6_oddsOf_39 qX6_82 (by decide) ?_
        refine r_callV (args := [vl 1000000]) dX6_oddsOf_42 kX6_71 ob_57 ⟨_, _, rfl⟩ (by decide) rfl rfl (Nat.le_of_ble_eq_true rfl) cap0 (Ev.mono V ?_)
        rintro r h' ⟨n29, rfl, rfl, V⟩
        show Rn w mX6_oddsOf (d + 1) G Q 45 [(0, vr 51), (1, vi x1)] [] (B0, n29)
        refine r_iconst (x := 0) dX6_oddsOf_45 rfl (by decide) ?_
        refine r_istore_n (ls' := [(0, vr 51), (1, vi x1), (2, vi 0)]) dX6_oddsOf_46 rfl (by decide) rfl ?_
        refine r_ldc (x := 1000000) dX6_oddsOf_47 qX6_84 (by decide) ?_
        refine r_istore_n (ls' := [(0, vr 51), (1, vi x1), (2, vi 0), (3, vi 1000000)]) dX6_oddsOf_49 rfl (by decide) rfl ?_
        refine r_iconst (x := 0) dX6_oddsOf_50 rfl (by decide) ?_
        refine r_istore (ls' := [(0, vr 51), (1, vi x1), (2, vi 0), (3, vi 1000000), (4, vi 0)]) dX6_oddsOf_51 (by decide) rfl ?_
        refine r_pick [0, 2, 3, 4] (ls' := [(0, vr 51), (2, vi 0), (3, vi 1000000), (4, vi 0)]) rfl ?_
        exact V
      · have V := V2 c25
        refine r_iconst (x := 0) dX6_oddsOf_20 rfl (by decide) ?_
        exact r_iret dX6_oddsOf_21 rfl V

theorem gX6_oddsOf_53 {w : WD} {d : Nat} {G : GM} {Q : Option AV → Hp → Prop} {n : NM} {x2 x3 x4 : Int}
    (V :
    ((32 ≤ x4 →
      Q (some (vi x2)) (B0, n)) ∧
    (x4 < 32 →
      ((x3 ≤ x2 →
        Q (some (vi x2)) (B0, n)) ∧
      (x2 < x3 →
        (inI (x2 + x3)) ∧
        (inI ((x2 + x3) + 1)) ∧
        (0 ≤ (x2 + x3) + 1) ∧
        (Ev w d 0 0 mX4_become_ [vr 59, vr 53] (B0, n) (fun r h' => ∃ n26 : NM, r = none ∧ h' = (B0, n26) ∧ 
          (Ev w d 0 0 mX4_multiply [vr 59, vl (((x2 + x3) + 1) / 2)] (B0, n26) (fun r h' => ∃ n27 : NM, r = none ∧ h' = (B0, n27) ∧ 
            (Ev w d 0 0 mX4_isAbove [vr 59, vr 57] (B0, n27) (fun r h' => ∃ (x29 : Int) (n28 : NM), r = some (vi x29) ∧ h' = (B0, n28) ∧ 
              (x29 ≠ 0 → inI ((((x2 + x3) + 1) / 2) - 1)) ∧
              (∀ z32 z33 : Int, z32 = (if x29 = 0 then ((x2 + x3) + 1) / 2 else x2) → z33 = (if x29 = 0 then x3 else (((x2 + x3) + 1) / 2) - 1) → 
              (inI (x4 + 1)) ∧
              Rn w mX6_oddsOf (d + 1) G Q 53 [(0, vr 51), (2, vi z32), (3, vi z33), (4, vi (x4 + 1))] [] (B0, n28))))))))))))) :
    Rn w mX6_oddsOf (d + 1) G Q 53 [(0, vr 51), (2, vi x2), (3, vi x3), (4, vi x4)] [] (B0, n) := by
  refine r_iload dX6_oddsOf_53 rfl ?_
  refine r_bipush (x := 32) dX6_oddsOf_55 (by decide +kernel) (by decide) ?_
  obtain ⟨V1, V2⟩ := V
  refine r_jge (tgt := 126) dX6_oddsOf_57 (by decide) (fun c21 => ?_) (fun c21 => ?_)
  · have V := V1 c21
    refine r_iload_n dX6_oddsOf_126 rfl rfl ?_
    exact r_iret dX6_oddsOf_127 rfl V
  · have V := V2 c21
    refine r_iload_n dX6_oddsOf_60 rfl rfl ?_
    refine r_iload_n dX6_oddsOf_61 rfl rfl ?_
    obtain ⟨V1, V2⟩ := V
    refine r_jge (tgt := 126) dX6_oddsOf_62 (by decide) (fun c22 => ?_) (fun c22 => ?_)
    · have V := V1 c22
      refine r_iload_n dX6_oddsOf_126 rfl rfl ?_
      exact r_iret dX6_oddsOf_127 rfl V
    · have V := V2 c22
      refine r_iload_n dX6_oddsOf_65 rfl rfl ?_
      refine r_iload_n dX6_oddsOf_66 rfl rfl ?_
      obtain ⟨s23, V⟩ := V
      refine r_iadd dX6_oddsOf_67 s23 ?_
      refine r_iconst (x := 1) dX6_oddsOf_68 rfl (by decide) ?_
      obtain ⟨s24, V⟩ := V
      refine r_iadd dX6_oddsOf_69 s24 ?_
      refine r_iconst (x := 2) dX6_oddsOf_70 rfl (by decide) ?_
      obtain ⟨s25, V⟩ := V
      refine r_idiv dX6_oddsOf_71 s25 (by decide) ?_
      refine r_istore (ls' := [(0, vr 51), (2, vi x2), (3, vi x3), (4, vi x4), (5, vi (((x2 + x3) + 1) / 2))]) dX6_oddsOf_72 (by decide) rfl ?_
      refine r_aload_n dX6_oddsOf_74 rfl rfl ?_
      refine r_getR (b := 59) dX6_oddsOf_75 fX6_28 ob_51 (by decide) rfl rfl ?_
      refine r_aload_n dX6_oddsOf_78 rfl rfl ?_
      refine r_getR (b := 53) dX6_oddsOf_79 fX6_18 ob_51 (by decide) rfl rfl ?_
      refine r_callV (args := [vr 53]) dX6_oddsOf_82 kX6_65 ob_59 ⟨_, _, rfl⟩ (by decide) rfl rfl (Nat.le_of_ble_eq_true rfl) cap0 (Ev.mono V ?_)
      rintro r h' ⟨n26, rfl, rfl, V⟩
      show Rn w mX6_oddsOf (d + 1) G Q 85 [(0, vr 51), (2, vi x2), (3, vi x3), (4, vi x4), (5, vi (((x2 + x3) + 1) / 2))] [] (B0, n26)
      refine r_aload_n dX6_oddsOf_85 rfl rfl ?_
      refine r_getR (b := 59) dX6_oddsOf_86 fX6_28 ob_51 (by decide) rfl rfl ?_
      refine r_iload dX6_oddsOf_89 rfl ?_
      refine r_i2l dX6_oddsOf_91 ?_
      refine r_callV (args := [vl (((x2 + x3) + 1) / 2)]) dX6_oddsOf_92 kX6_71 ob_59 ⟨_, _, rfl⟩ (by decide) rfl rfl (Nat.le_of_ble_eq_true rfl) cap0 (Ev.mono V ?_)
      rintro r h' ⟨n27, rfl, rfl, V⟩
      show Rn w mX6_oddsOf (d + 1) G Q 95 [(0, vr 51), (2, vi x2), (3, vi x3), (4, vi x4), (5, vi (((x2 + x3) + 1) / 2))] [] (B0, n27)
      refine r_aload_n dX6_oddsOf_95 rfl rfl ?_
      refine r_getR (b := 59) dX6_oddsOf_96 fX6_28 ob_51 (by decide) rfl rfl ?_
      refine r_aload_n dX6_oddsOf_99 rfl rfl ?_
      refine r_getR (b := 57) dX6_oddsOf_100 fX6_25 ob_51 (by decide) rfl rfl ?_
      refine r_callV (args := [vr 57]) dX6_oddsOf_103 kX6_85 ob_59 ⟨_, _, rfl⟩ (by decide) rfl rfl (Nat.le_of_ble_eq_true rfl) cap0 (Ev.mono V ?_)
      rintro r h' ⟨x29, n28, rfl, rfl, V⟩
      show Rn w mX6_oddsOf (d + 1) G Q 106 [(0, vr 51), (2, vi x2), (3, vi x3), (4, vi x4), (5, vi (((x2 + x3) + 1) / 2))] [vi x29] (B0, n28)
      obtain ⟨s31, V⟩ := V
      have K : ∀ z32 z33 : Int, z32 = (if x29 = 0 then ((x2 + x3) + 1) / 2 else x2) → z33 = (if x29 = 0 then x3 else (((x2 + x3) + 1) / 2) - 1) → Rn w mX6_oddsOf (d + 1) G Q 120 [(0, vr 51), (2, vi z32), (3, vi z33), (4, vi x4)] [] (B0, n28) := by
        intro z32 z33 ez32 ez33
        have V := V z32 z33 ez32 ez33
        obtain ⟨s34, V⟩ := V
        refine r_iinc (y := x4 + 1) (ls' := [(0, vr 51), (2, vi z32), (3, vi z33), (4, vi (x4 + 1))]) dX6_oddsOf_120 rfl rfl s34 (by decide) rfl ?_
        refine r_goto (tgt := 53) dX6_oddsOf_123 (by decide) ?_
        exact V
      refine r_zeq (tgt := 117) dX6_oddsOf_106 (by decide) (fun c30 => ?_) (fun c30 => ?_)
      · refine r_iload dX6_oddsOf_117 rfl ?_
        refine r_istore_n (ls' := [(0, vr 51), (2, vi (((x2 + x3) + 1) / 2)), (3, vi x3), (4, vi x4), (5, vi (((x2 + x3) + 1) / 2))]) dX6_oddsOf_119 rfl (by decide) rfl ?_
        refine r_pick [0, 1, 2, 3] (ls' := [(0, vr 51), (2, vi (((x2 + x3) + 1) / 2)), (3, vi x3), (4, vi x4)]) rfl ?_
        exact K (((x2 + x3) + 1) / 2) x3 (by first | rfl | (simp only [if_pos c30])) (by first | rfl | (simp only [if_pos c30]))
      · refine r_iload dX6_oddsOf_109 rfl ?_
        refine r_iconst (x := 1) dX6_oddsOf_111 rfl (by decide) ?_
        refine r_isub dX6_oddsOf_112 (s31 c30) ?_
        refine r_istore_n (ls' := [(0, vr 51), (2, vi x2), (3, vi ((((x2 + x3) + 1) / 2) - 1)), (4, vi x4), (5, vi (((x2 + x3) + 1) / 2))]) dX6_oddsOf_113 rfl (by decide) rfl ?_
        refine r_goto (tgt := 120) dX6_oddsOf_114 (by decide) ?_
        refine r_pick [0, 1, 2, 3] (ls' := [(0, vr 51), (2, vi x2), (3, vi ((((x2 + x3) + 1) / 2) - 1)), (4, vi x4)]) rfl ?_
        exact K x2 ((((x2 + x3) + 1) / 2) - 1) (by first | rfl | (simp only [if_neg c30])) (by first | rfl | (simp only [if_neg c30]))
theorem gX5_saysOf_0 {w : WD} {d : Nat} {G : GM} {Q : Option AV → Hp → Prop} {n : NM} {x3 : Int}
    (V :
    Rn w mX5_saysOf d G Q 6 [(1, vr 1), (2, vr 51), (3, vi x3), (4, vi 0), (5, vi 0)] [] (B0, n)) :
    Rn w mX5_saysOf d G Q 0 [(0, vr 73), (1, vr 1), (2, vr 51), (3, vi x3)] [] (B0, n) := by
  refine r_iconst (x := 0) dX5_saysOf_0 rfl (by decide) ?_
  refine r_istore (ls' := [(0, vr 73), (1, vr 1), (2, vr 51), (3, vi x3), (4, vi 0)]) dX5_saysOf_1 (by decide) rfl ?_
  refine r_iconst (x := 0) dX5_saysOf_3 rfl (by decide) ?_
  refine r_istore (ls' := [(0, vr 73), (1, vr 1), (2, vr 51), (3, vi x3), (4, vi 0), (5, vi 0)]) dX5_saysOf_4 (by decide) rfl ?_
  refine r_pick [1, 2, 3, 4, 5] (ls' := [(1, vr 1), (2, vr 51), (3, vi x3), (4, vi 0), (5, vi 0)]) rfl ?_
  exact V

theorem gX5_saysOf_6 {w : WD} {d : Nat} {G : GM} {Q : Option AV → Hp → Prop} {n : NM} {x3 x4 x5 : Int}
    (V :
    (Ev w d 0 0 mX7_size [vr 21] (B0, n) (fun r h' => ∃ (x22 : Int) (n21 : NM), r = some (vi x22) ∧ h' = (B0, n21) ∧ 
      ((x22 ≤ x5 →
        Q (some (vi x4)) (B0, n21)) ∧
      (x5 < x22 →
        (Ev w d 0 0 mX6_oddsOf [vr 51, vi x5] (B0, n21) (fun r h' => ∃ (x25 : Int) (n24 : NM), r = some (vi x25) ∧ h' = (B0, n24) ∧ 
          (Ev w d 0 0 mX5_silentBy [vr 1, vi x3, vi x5] (B0, n24) (fun r h' => ∃ (x27 : Int) (n26 : NM), r = some (vi x27) ∧ h' = (B0, n26) ∧ 
            (Ev w d 0 0 mX5_share [vi x25, vi x27] (B0, n26) (fun r h' => ∃ (x29 : Int) (n28 : NM), r = some (vi x29) ∧ h' = (B0, n28) ∧ 
              (inI (x4 + x29)) ∧
              (inI (x5 + 1)) ∧
              Rn w mX5_saysOf (d + 1) G Q 6 [(1, vr 1), (2, vr 51), (3, vi x3), (4, vi (x4 + x29)), (5, vi (x5 + 1))] [] (B0, n28)))))))))))) :
    Rn w mX5_saysOf (d + 1) G Q 6 [(1, vr 1), (2, vr 51), (3, vi x3), (4, vi x4), (5, vi x5)] [] (B0, n) := by
  refine r_iload dX5_saysOf_6 rfl ?_
  refine r_aload_n dX5_saysOf_8 rfl rfl ?_
  refine r_getR (b := 21) dX5_saysOf_9 fX5_21 ob_1 (by decide) rfl rfl ?_
  refine r_callV (args := []) dX5_saysOf_12 kX5_27 ob_21 ⟨_, _, rfl⟩ (by decide) rfl rfl (Nat.le_of_ble_eq_true rfl) cap0 (Ev.mono V ?_)
  rintro r h' ⟨x22, n21, rfl, rfl, V⟩
  show Rn w mX5_saysOf (d + 1) G Q 15 [(1, vr 1), (2, vr 51), (3, vi x3), (4, vi x4), (5, vi x5)] [vi x22, vi x5] (B0, n21)
  obtain ⟨V1, V2⟩ := V
  refine r_jge (tgt := 45) dX5_saysOf_15 (by decide) (fun c23 => ?_) (fun c23 => ?_)
  · have V := V1 c23
    refine r_iload dX5_saysOf_45 rfl ?_
    exact r_iret dX5_saysOf_47 rfl V
  · have V := V2 c23
    refine r_iload dX5_saysOf_18 rfl ?_
    refine r_aload_n dX5_saysOf_20 rfl rfl ?_
    refine r_iload dX5_saysOf_21 rfl ?_
    refine r_callV (args := [vi x5]) dX5_saysOf_23 kX5_33 ob_51 ⟨_, _, rfl⟩ (by decide) rfl rfl (Nat.le_of_ble_eq_true rfl) cap0 (Ev.mono V ?_)
    rintro r h' ⟨x25, n24, rfl, rfl, V⟩
    show Rn w mX5_saysOf (d + 1) G Q 26 [(1, vr 1), (2, vr 51), (3, vi x3), (4, vi x4), (5, vi x5)] [vi x25, vi x4] (B0, n24)
    refine r_aload_n dX5_saysOf_26 rfl rfl ?_
    refine r_iload_n dX5_saysOf_27 rfl rfl ?_
    refine r_iload dX5_saysOf_28 rfl ?_
    refine r_callS (args := [vr 1, vi x3, vi x5]) dX5_saysOf_30 kX5_39 rfl rfl (Nat.le_of_ble_eq_true rfl) cap0 (Ev.mono V ?_)
    rintro r h' ⟨x27, n26, rfl, rfl, V⟩
    show Rn w mX5_saysOf (d + 1) G Q 33 [(1, vr 1), (2, vr 51), (3, vi x3), (4, vi x4), (5, vi x5)] [vi x27, vi x25, vi x4] (B0, n26)
    refine r_callS (args := [vi x25, vi x27]) dX5_saysOf_33 kX5_43 rfl rfl (Nat.le_of_ble_eq_true rfl) cap0 (Ev.mono V ?_)
    rintro r h' ⟨x29, n28, rfl, rfl, V⟩
    show Rn w mX5_saysOf (d + 1) G Q 36 [(1, vr 1), (2, vr 51), (3, vi x3), (4, vi x4), (5, vi x5)] [vi x29, vi x4] (B0, n28)
    obtain ⟨s30, V⟩ := V
    refine r_iadd dX5_saysOf_36 s30 ?_
    refine r_istore (ls' := [(1, vr 1), (2, vr 51), (3, vi x3), (4, vi (x4 + x29)), (5, vi x5)]) dX5_saysOf_37 (by decide) rfl ?_
    obtain ⟨s31, V⟩ := V
    refine r_iinc (y := x5 + 1) (ls' := [(1, vr 1), (2, vr 51), (3, vi x3), (4, vi (x4 + x29)), (5, vi (x5 + 1))]) dX5_saysOf_39 rfl rfl s31 (by decide) rfl ?_
    refine r_goto (tgt := 6) dX5_saysOf_42 (by decide) ?_
    exact V

theorem gX5_silentBy_0 {w : WD} {d : Nat} {G : GM} {Q : Option AV → Hp → Prop} {n : NM} {x1 x2 : Int}
    (V :
    Rn w mX5_silentBy d G Q 6 [(0, vr 1), (1, vi x1), (2, vi x2), (3, vi 1000000), (4, vi 0)] [] (B0, n)) :
    Rn w mX5_silentBy d G Q 0 [(0, vr 1), (1, vi x1), (2, vi x2)] [] (B0, n) := by
  refine r_ldc (x := 1000000) dX5_silentBy_0 qX5_47 (by decide) ?_
  refine r_istore_n (ls' := [(0, vr 1), (1, vi x1), (2, vi x2), (3, vi 1000000)]) dX5_silentBy_2 rfl (by decide) rfl ?_
  refine r_iconst (x := 0) dX5_silentBy_3 rfl (by decide) ?_
  refine r_istore (ls' := [(0, vr 1), (1, vi x1), (2, vi x2), (3, vi 1000000), (4, vi 0)]) dX5_silentBy_4 (by decide) rfl ?_
  exact V

theorem gX5_silentBy_6 {w : WD} {d : Nat} {G : GM} {Q : Option AV → Hp → Prop} {n : NM} {x1 x2 x3 x4 : Int}
    (V :
    (Ev w d 0 0 mX7_size [vr 25] (B0, n) (fun r h' => ∃ (x22 : Int) (n21 : NM), r = some (vi x22) ∧ h' = (B0, n21) ∧ 
      ((x22 ≤ x4 →
        Q (some (vi x3)) (B0, n21)) ∧
      (x4 < x22 →
        (∃ k24 : Nat, x4 = (k24 : Int) ∧ k24 < 32 ∧
        (((x1 / ((2 ^ k24 : Nat) : Int)) % 2 ≠ 1 →
          (inI (x4 + 1)) ∧
          Rn w mX5_silentBy (d + 1) G Q 6 [(0, vr 1), (1, vi x1), (2, vi x2), (3, vi x3), (4, vi (x4 + 1))] [] (B0, n21)) ∧
        ((x1 / ((2 ^ k24 : Nat) : Int)) % 2 = 1 →
          (Ev w d 0 0 mX7_get [vr 25, vi x4, vi 1] (B0, n21) (fun r h' => ∃ (x28 : Int) (n27 : NM), r = some (vi x28) ∧ h' = (B0, n27) ∧ 
            (Ev w d 0 0 mX1_heardOf [vr 1, vi x2, vi x28] (B0, n27) (fun r h' => ∃ (x30 : Int) (n29 : NM), r = some (vi x30) ∧ h' = (B0, n29) ∧ 
              (Ev w d 0 0 mX7_get [vr 25, vi x4, vi 0] (B0, n29) (fun r h' => ∃ (x32 : Int) (n31 : NM), r = some (vi x32) ∧ h' = (B0, n31) ∧ 
                (inI (100 - x32)) ∧
                (Ev w d 0 0 mX7_get [vr 25, vi x4, vi 2] (B0, n31) (fun r h' => ∃ (x35 : Int) (n34 : NM), r = some (vi x35) ∧ h' = (B0, n34) ∧ 
                  (inI (100 - x35)) ∧
                  (Ev w d 0 0 mX5_silentAfter [vi x3, vi x30, vi (100 - x32), vi (100 - x35)] (B0, n34) (fun r h' => ∃ (x38 : Int) (n37 : NM), r = some (vi x38) ∧ h' = (B0, n37) ∧ 
                    (inI (x4 + 1)) ∧
                    Rn w mX5_silentBy (d + 1) G Q 6 [(0, vr 1), (1, vi x1), (2, vi x2), (3, vi x38), (4, vi (x4 + 1))] [] (B0, n37))))))))))))))))))) :
    Rn w mX5_silentBy (d + 1) G Q 6 [(0, vr 1), (1, vi x1), (2, vi x2), (3, vi x3), (4, vi x4)] [] (B0, n) := by
  refine r_iload dX5_silentBy_6 rfl ?_
  refine r_aload_n dX5_silentBy_8 rfl rfl ?_
  refine r_getR (b := 25) dX5_silentBy_9 fX5_48 ob_1 (by decide) rfl rfl ?_
  refine r_callV (args := []) dX5_silentBy_12 kX5_27 ob_25 ⟨_, _, rfl⟩ (by decide) rfl rfl (Nat.le_of_ble_eq_true rfl) cap0 (Ev.mono V ?_)
  rintro r h' ⟨x22, n21, rfl, rfl, V⟩
  show Rn w mX5_silentBy (d + 1) G Q 15 [(0, vr 1), (1, vi x1), (2, vi x2), (3, vi x3), (4, vi x4)] [vi x22, vi x4] (B0, n21)
  obtain ⟨V1, V2⟩ := V
  refine r_jge (tgt := 88) dX5_silentBy_15 (by decide) (fun c23 => ?_) (fun c23 => ?_)
  · have V := V1 c23
    refine r_iload_n dX5_silentBy_88 rfl rfl ?_
    exact r_iret dX5_silentBy_89 rfl V
  · have V := V2 c23
    refine r_iload_n dX5_silentBy_18 rfl rfl ?_
    refine r_iload dX5_silentBy_19 rfl ?_
    obtain ⟨k24, hk24, lk24, V⟩ := V
    refine r_ishr (n := k24) dX5_silentBy_21 hk24 lk24 (fun _ => ?_)
    refine r_iconst (x := 1) dX5_silentBy_22 rfl (by decide) ?_
    refine r_iand (n := 1) dX5_silentBy_23 (by decide) (by decide) ?_
    show Rn w mX5_silentBy (d + 1) G Q 24 [(0, vr 1), (1, vi x1), (2, vi x2), (3, vi x3), (4, vi x4)] [vi ((x1 / ((2 ^ k24 : Nat) : Int)) % 2)] (B0, n21)
    refine r_iconst (x := 1) dX5_silentBy_24 rfl (by decide) ?_
    obtain ⟨V1, V2⟩ := V
    refine r_jne (tgt := 82) dX5_silentBy_25 (by decide) (fun c25 => ?_) (fun c25 => ?_)
    · have V := V1 c25
      obtain ⟨s26, V⟩ := V
      refine r_iinc (y := x4 + 1) (ls' := [(0, vr 1), (1, vi x1), (2, vi x2), (3, vi x3), (4, vi (x4 + 1))]) dX5_silentBy_82 rfl rfl s26 (by decide) rfl ?_
      refine r_goto (tgt := 6) dX5_silentBy_85 (by decide) ?_
      exact V
    · have V := V2 c25
      refine r_aload_n dX5_silentBy_28 rfl rfl ?_
      refine r_iload_n dX5_silentBy_29 rfl rfl ?_
      refine r_aload_n dX5_silentBy_30 rfl rfl ?_
      refine r_getR (b := 25) dX5_silentBy_31 fX5_48 ob_1 (by decide) rfl rfl ?_
      refine r_iload dX5_silentBy_34 rfl ?_
      refine r_iconst (x := 1) dX5_silentBy_36 rfl (by decide) ?_
      refine r_callV (args := [vi x4, vi 1]) dX5_silentBy_37 kX5_51 ob_25 ⟨_, _, rfl⟩ (by decide) rfl rfl (Nat.le_of_ble_eq_true rfl) cap0 (Ev.mono V ?_)
      rintro r h' ⟨x28, n27, rfl, rfl, V⟩
      show Rn w mX5_silentBy (d + 1) G Q 40 [(0, vr 1), (1, vi x1), (2, vi x2), (3, vi x3), (4, vi x4)] [vi x28, vi x2, vr 1] (B0, n27)
      refine r_callV (args := [vi x2, vi x28]) dX5_silentBy_40 kX5_54 ob_1 ⟨_, _, rfl⟩ (by decide) rfl rfl (Nat.le_of_ble_eq_true rfl) cap0 (Ev.mono V ?_)
      rintro r h' ⟨x30, n29, rfl, rfl, V⟩
      show Rn w mX5_silentBy (d + 1) G Q 43 [(0, vr 1), (1, vi x1), (2, vi x2), (3, vi x3), (4, vi x4)] [vi x30] (B0, n29)
      refine r_istore (ls' := [(0, vr 1), (1, vi x1), (2, vi x2), (3, vi x3), (4, vi x4), (5, vi x30)]) dX5_silentBy_43 (by decide) rfl ?_
      refine r_bipush (x := 100) dX5_silentBy_45 (by decide +kernel) (by decide) ?_
      refine r_aload_n dX5_silentBy_47 rfl rfl ?_
      refine r_getR (b := 25) dX5_silentBy_48 fX5_48 ob_1 (by decide) rfl rfl ?_
      refine r_iload dX5_silentBy_51 rfl ?_
      refine r_iconst (x := 0) dX5_silentBy_53 rfl (by decide) ?_
      refine r_callV (args := [vi x4, vi 0]) dX5_silentBy_54 kX5_51 ob_25 ⟨_, _, rfl⟩ (by decide) rfl rfl (Nat.le_of_ble_eq_true rfl) cap0 (Ev.mono V ?_)
      rintro r h' ⟨x32, n31, rfl, rfl, V⟩
      show Rn w mX5_silentBy (d + 1) G Q 57 [(0, vr 1), (1, vi x1), (2, vi x2), (3, vi x3), (4, vi x4), (5, vi x30)] [vi x32, vi 100] (B0, n31)
      obtain ⟨s33, V⟩ := V
      refine r_isub dX5_silentBy_57 s33 ?_
      refine r_istore (ls' := [(0, vr 1), (1, vi x1), (2, vi x2), (3, vi x3), (4, vi x4), (5, vi x30), (6, vi (100 - x32))]) dX5_silentBy_58 (by decide) rfl ?_
      refine r_iload_n dX5_silentBy_60 rfl rfl ?_
      refine r_iload dX5_silentBy_61 rfl ?_
      refine r_iload dX5_silentBy_63 rfl ?_
      refine r_bipush (x := 100) dX5_silentBy_65 (by decide +kernel) (by decide) ?_
      refine r_aload_n dX5_silentBy_67 rfl rfl ?_
      refine r_getR (b := 25) dX5_silentBy_68 fX5_48 ob_1 (by decide) rfl rfl ?_
      refine r_iload dX5_silentBy_71 rfl ?_
      refine r_iconst (x := 2) dX5_silentBy_73 rfl (by decide) ?_
      refine r_callV (args := [vi x4, vi 2]) dX5_silentBy_74 kX5_51 ob_25 ⟨_, _, rfl⟩ (by decide) rfl rfl (Nat.le_of_ble_eq_true rfl) cap0 (Ev.mono V ?_)
      rintro r h' ⟨x35, n34, rfl, rfl, V⟩
      show Rn w mX5_silentBy (d + 1) G Q 77 [(0, vr 1), (1, vi x1), (2, vi x2), (3, vi x3), (4, vi x4), (5, vi x30), (6, vi (100 - x32))] [vi x35, vi 100, vi (100 - x32), vi x30, vi x3] (B0, n34)
      obtain ⟨s36, V⟩ := V
      refine r_isub dX5_silentBy_77 s36 ?_
      refine r_callS (args := [vi x3, vi x30, vi (100 - x32), vi (100 - x35)]) dX5_silentBy_78 kX5_57 rfl rfl (Nat.le_of_ble_eq_true rfl) cap0 (Ev.mono V ?_)
      rintro r h' ⟨x38, n37, rfl, rfl, V⟩
      show Rn w mX5_silentBy (d + 1) G Q 81 [(0, vr 1), (1, vi x1), (2, vi x2), (3, vi x3), (4, vi x4), (5, vi x30), (6, vi (100 - x32))] [vi x38] (B0, n37)
      refine r_istore_n (ls' := [(0, vr 1), (1, vi x1), (2, vi x2), (3, vi x38), (4, vi x4), (5, vi x30), (6, vi (100 - x32))]) dX5_silentBy_81 rfl (by decide) rfl ?_
      obtain ⟨s39, V⟩ := V
      refine r_iinc (y := x4 + 1) (ls' := [(0, vr 1), (1, vi x1), (2, vi x2), (3, vi x38), (4, vi (x4 + 1)), (5, vi x30), (6, vi (100 - x32))]) dX5_silentBy_82 rfl rfl s39 (by decide) rfl ?_
      refine r_goto (tgt := 6) dX5_silentBy_85 (by decide) ?_
      refine r_pick [0, 1, 2, 3, 4] (ls' := [(0, vr 1), (1, vi x1), (2, vi x2), (3, vi x38), (4, vi (x4 + 1))]) rfl ?_
      exact V

theorem gX5_bestFor_0 {w : WD} {d : Nat} {G : GM} {Q : Option AV → Hp → Prop} {n : NM} {x3 : Int}
    (V :
    (Ev w d 0 0 mX5_sayAll [vr 73, vr 1, vr 51] (B0, n) (fun r h' => ∃ n21 : NM, r = none ∧ h' = (B0, n21) ∧ 
      (Ev w d 0 0 mX5_costAll [vr 73, vr 1] (B0, n21) (fun r h' => ∃ n22 : NM, r = none ∧ h' = (B0, n22) ∧ 
        Rn w mX5_bestFor (d + 1) G Q 17 [(0, vr 73), (1, vr 1), (3, vi x3), (4, vi 0), (5, vi 1)] [] (B0, n22)))))) :
    Rn w mX5_bestFor (d + 1) G Q 0 [(0, vr 73), (1, vr 1), (2, vr 51), (3, vi x3)] [] (B0, n) := by
  refine r_aload_n dX5_bestFor_0 rfl rfl ?_
  refine r_aload_n dX5_bestFor_1 rfl rfl ?_
  refine r_aload_n dX5_bestFor_2 rfl rfl ?_
  refine r_callV (args := [vr 1, vr 51]) dX5_bestFor_3 kX5_61 ob_73 ⟨_, _, rfl⟩ (by decide) rfl rfl (Nat.le_of_ble_eq_true rfl) cap0 (Ev.mono V ?_)
  rintro r h' ⟨n21, rfl, rfl, V⟩
  show Rn w mX5_bestFor (d + 1) G Q 6 [(0, vr 73), (1, vr 1), (2, vr 51), (3, vi x3)] [] (B0, n21)
  refine r_aload_n dX5_bestFor_6 rfl rfl ?_
  refine r_aload_n dX5_bestFor_7 rfl rfl ?_
  refine r_callV (args := [vr 1]) dX5_bestFor_8 kX5_65 ob_73 ⟨_, _, rfl⟩ (by decide) rfl rfl (Nat.le_of_ble_eq_true rfl) cap0 (Ev.mono V ?_)
  rintro r h' ⟨n22, rfl, rfl, V⟩
  show Rn w mX5_bestFor (d + 1) G Q 11 [(0, vr 73), (1, vr 1), (2, vr 51), (3, vi x3)] [] (B0, n22)
  refine r_iconst (x := 0) dX5_bestFor_11 rfl (by decide) ?_
  refine r_istore (ls' := [(0, vr 73), (1, vr 1), (2, vr 51), (3, vi x3), (4, vi 0)]) dX5_bestFor_12 (by decide) rfl ?_
  refine r_iconst (x := 1) dX5_bestFor_14 rfl (by decide) ?_
  refine r_istore (ls' := [(0, vr 73), (1, vr 1), (2, vr 51), (3, vi x3), (4, vi 0), (5, vi 1)]) dX5_bestFor_15 (by decide) rfl ?_
  refine r_pick [0, 1, 3, 4, 5] (ls' := [(0, vr 73), (1, vr 1), (3, vi x3), (4, vi 0), (5, vi 1)]) rfl ?_
  exact V

theorem gX5_bestFor_17 {w : WD} {d : Nat} {G : GM} {Q : Option AV → Hp → Prop} {n : NM} {x3 x4 x5 : Int}
    (V :
    ((1024 ≤ x5 →
      Q (some (vi x4)) (B0, n)) ∧
    (x5 < 1024 →
      (Ev w d 0 0 mX7_size [vr 25] (B0, n) (fun r h' => ∃ (x23 : Int) (n22 : NM), r = some (vi x23) ∧ h' = (B0, n22) ∧ 
        (∃ k24 : Nat, x23 = (k24 : Int) ∧ k24 < 32 ∧
        (inI (1 * ((2 ^ k24 : Nat) : Int))) ∧
        ((1 * ((2 ^ k24 : Nat) : Int) ≤ x5 →
          Q (some (vi x4)) (B0, n22)) ∧
        (x5 < 1 * ((2 ^ k24 : Nat) : Int) →
          (0 ≤ x5) ∧
          (x5 < 1024) ∧
          (0 ≤ x4) ∧
          (x4 < 1024) ∧
          (n22 75 x5 ≤ n22 75 x4 → 0 ≤ x5) ∧
          (n22 75 x5 ≤ n22 75 x4 → x5 < 1024) ∧
          (n22 75 x5 ≤ n22 75 x4 → 0 ≤ x4) ∧
          (n22 75 x5 ≤ n22 75 x4 → x4 < 1024) ∧
          (n22 75 x5 ≤ n22 75 x4 → n22 75 x5 = n22 75 x4 → 0 ≤ x5) ∧
          (n22 75 x5 ≤ n22 75 x4 → n22 75 x5 = n22 75 x4 → x5 < 1024) ∧
          (n22 75 x5 ≤ n22 75 x4 → n22 75 x5 = n22 75 x4 → 0 ≤ x4) ∧
          (n22 75 x5 ≤ n22 75 x4 → n22 75 x5 = n22 75 x4 → x4 < 1024) ∧
          (∀ z42 : Int, z42 = (if n22 75 x4 < n22 75 x5 then 1 else (if n22 75 x5 ≠ n22 75 x4 then 0 else (if n22 76 x4 ≤ n22 76 x5 then 0 else 1))) → 
          (0 ≤ x5) ∧
          (x5 < 1024) ∧
          (∀ z47 : Int, z47 = (if x3 < n22 76 x5 then x4 else (if z42 = 0 then x4 else x5)) → 
          (inI (x5 + 1)) ∧
          Rn w mX5_bestFor (d + 1) G Q 17 [(0, vr 73), (1, vr 1), (3, vi x3), (4, vi z47), (5, vi (x5 + 1))] [] (B0, n22))))))))))) :
    Rn w mX5_bestFor (d + 1) G Q 17 [(0, vr 73), (1, vr 1), (3, vi x3), (4, vi x4), (5, vi x5)] [] (B0, n) := by
  refine r_iload dX5_bestFor_17 rfl ?_
  refine r_sipush (x := 1024) dX5_bestFor_19 (by decide +kernel) (by decide) ?_
  obtain ⟨V1, V2⟩ := V
  refine r_jge (tgt := 123) dX5_bestFor_22 (by decide) (fun c21 => ?_) (fun c21 => ?_)
  · have V := V1 c21
    refine r_iload dX5_bestFor_123 rfl ?_
    exact r_iret dX5_bestFor_125 rfl V
  · have V := V2 c21
    refine r_iload dX5_bestFor_25 rfl ?_
    refine r_iconst (x := 1) dX5_bestFor_27 rfl (by decide) ?_
    refine r_aload_n dX5_bestFor_28 rfl rfl ?_
    refine r_getR (b := 25) dX5_bestFor_29 fX5_48 ob_1 (by decide) rfl rfl ?_
    refine r_callV (args := []) dX5_bestFor_32 kX5_27 ob_25 ⟨_, _, rfl⟩ (by decide) rfl rfl (Nat.le_of_ble_eq_true rfl) cap0 (Ev.mono V ?_)
    rintro r h' ⟨x23, n22, rfl, rfl, V⟩
    show Rn w mX5_bestFor (d + 1) G Q 35 [(0, vr 73), (1, vr 1), (3, vi x3), (4, vi x4), (5, vi x5)] [vi x23, vi 1, vi x5] (B0, n22)
    obtain ⟨k24, hk24, lk24, V⟩ := V
    obtain ⟨s25, V⟩ := V
    refine r_ishl (n := k24) dX5_bestFor_35 hk24 lk24 s25 ?_
    obtain ⟨V1, V2⟩ := V
    refine r_jge (tgt := 123) dX5_bestFor_36 (by decide) (fun c26 => ?_) (fun c26 => ?_)
    · have V := V1 c26
      refine r_iload dX5_bestFor_123 rfl ?_
      exact r_iret dX5_bestFor_125 rfl V
    · have V := V2 c26
      refine r_aload_n dX5_bestFor_39 rfl rfl ?_
      refine r_getR (b := 75) dX5_bestFor_40 fX5_15 ob_73 (by decide) rfl rfl ?_
      refine r_iload dX5_bestFor_43 rfl ?_
      obtain ⟨s27, V⟩ := V
      obtain ⟨s28, V⟩ := V
      refine r_iald dX5_bestFor_45 ob_75 s27 s28 ?_
      refine r_aload_n dX5_bestFor_46 rfl rfl ?_
      refine r_getR (b := 75) dX5_bestFor_47 fX5_15 ob_73 (by decide) rfl rfl ?_
      refine r_iload dX5_bestFor_50 rfl ?_
      obtain ⟨s29, V⟩ := V
      obtain ⟨s30, V⟩ := V
      refine r_iald dX5_bestFor_52 ob_75 s29 s30 ?_
      obtain ⟨s32, V⟩ := V
      obtain ⟨s33, V⟩ := V
      obtain ⟨s34, V⟩ := V
      obtain ⟨s35, V⟩ := V
      obtain ⟨s37, V⟩ := V
      obtain ⟨s38, V⟩ := V
      obtain ⟨s39, V⟩ := V
      obtain ⟨s40, V⟩ := V
      have K : ∀ z42 : Int, z42 = (if n22 75 x4 < n22 75 x5 then 1 else (if n22 75 x5 ≠ n22 75 x4 then 0 else (if n22 76 x4 ≤ n22 76 x5 then 0 else 1))) → Rn w mX5_bestFor (d + 1) G Q 95 [(0, vr 73), (1, vr 1), (3, vi x3), (4, vi x4), (5, vi x5)] [vi z42] (B0, n22) := by
        intro z42 ez42
        have V := V z42 ez42
        refine r_istore (ls' := [(0, vr 73), (1, vr 1), (3, vi x3), (4, vi x4), (5, vi x5), (6, vi z42)]) dX5_bestFor_95 (by decide) rfl ?_
        refine r_aload_n dX5_bestFor_97 rfl rfl ?_
        refine r_getR (b := 76) dX5_bestFor_98 fX5_18 ob_73 (by decide) rfl rfl ?_
        refine r_iload dX5_bestFor_101 rfl ?_
        obtain ⟨s43, V⟩ := V
        obtain ⟨s44, V⟩ := V
        refine r_iald dX5_bestFor_103 ob_76 s43 s44 ?_
        refine r_iload_n dX5_bestFor_104 rfl rfl ?_
        have K : ∀ z47 : Int, z47 = (if x3 < n22 76 x5 then x4 else (if z42 = 0 then x4 else x5)) → Rn w mX5_bestFor (d + 1) G Q 117 [(0, vr 73), (1, vr 1), (3, vi x3), (4, vi z47), (5, vi x5)] [] (B0, n22) := by
          intro z47 ez47
          have V := V z47 ez47
          obtain ⟨s48, V⟩ := V
          refine r_iinc (y := x5 + 1) (ls' := [(0, vr 73), (1, vr 1), (3, vi x3), (4, vi z47), (5, vi (x5 + 1))]) dX5_bestFor_117 rfl rfl s48 (by decide) rfl ?_
          refine r_goto (tgt := 17) dX5_bestFor_120 (by decide) ?_
          exact V
        refine r_jgt (tgt := 117) dX5_bestFor_105 (by decide) (fun c45 => ?_) (fun c45 => ?_)
        · refine r_pick [0, 1, 2, 3, 4] (ls' := [(0, vr 73), (1, vr 1), (3, vi x3), (4, vi x4), (5, vi x5)]) rfl ?_
          exact K x4 (by first | rfl | (simp only [if_pos c45]))
        · refine r_iload dX5_bestFor_108 rfl ?_
          refine r_zeq (tgt := 117) dX5_bestFor_110 (by decide) (fun c46 => ?_) (fun c46 => ?_)
          · refine r_pick [0, 1, 2, 3, 4] (ls' := [(0, vr 73), (1, vr 1), (3, vi x3), (4, vi x4), (5, vi x5)]) rfl ?_
            exact K x4 (by first | rfl | (simp only [if_neg (Int.not_lt.mpr c45), if_pos c46]))
          · refine r_iload dX5_bestFor_113 rfl ?_
            refine r_istore (ls' := [(0, vr 73), (1, vr 1), (3, vi x3), (4, vi x5), (5, vi x5), (6, vi z42)]) dX5_bestFor_115 (by decide) rfl ?_
            refine r_pick [0, 1, 2, 3, 4] (ls' := [(0, vr 73), (1, vr 1), (3, vi x3), (4, vi x5), (5, vi x5)]) rfl ?_
            exact K x5 (by first | rfl | (simp only [if_neg (Int.not_lt.mpr c45), if_neg c46]))
      refine r_jgt (tgt := 90) dX5_bestFor_53 (by decide) (fun c31 => ?_) (fun c31 => ?_)
      · refine r_iconst (x := 1) dX5_bestFor_90 rfl (by decide) ?_
        refine r_goto (tgt := 95) dX5_bestFor_91 (by decide) ?_
        exact K 1 (by first | rfl | (simp only [if_pos c31]))
      · refine r_aload_n dX5_bestFor_56 rfl rfl ?_
        refine r_getR (b := 75) dX5_bestFor_57 fX5_15 ob_73 (by decide) rfl rfl ?_
        refine r_iload dX5_bestFor_60 rfl ?_
        refine r_iald dX5_bestFor_62 ob_75 (s32 c31) (s33 c31) ?_
        refine r_aload_n dX5_bestFor_63 rfl rfl ?_
        refine r_getR (b := 75) dX5_bestFor_64 fX5_15 ob_73 (by decide) rfl rfl ?_
        refine r_iload dX5_bestFor_67 rfl ?_
        refine r_iald dX5_bestFor_69 ob_75 (s34 c31) (s35 c31) ?_
        refine r_jne (tgt := 94) dX5_bestFor_70 (by decide) (fun c36 => ?_) (fun c36 => ?_)
        · refine r_iconst (x := 0) dX5_bestFor_94 rfl (by decide) ?_
          exact K 0 (by first | rfl | (simp only [if_neg (Int.not_lt.mpr c31), if_pos c36]))
        · refine r_aload_n dX5_bestFor_73 rfl rfl ?_
          refine r_getR (b := 76) dX5_bestFor_74 fX5_18 ob_73 (by decide) rfl rfl ?_
          refine r_iload dX5_bestFor_77 rfl ?_
          refine r_iald dX5_bestFor_79 ob_76 (s37 c31 c36) (s38 c31 c36) ?_
          refine r_aload_n dX5_bestFor_80 rfl rfl ?_
          refine r_getR (b := 76) dX5_bestFor_81 fX5_18 ob_73 (by decide) rfl rfl ?_
          refine r_iload dX5_bestFor_84 rfl ?_
          refine r_iald dX5_bestFor_86 ob_76 (s39 c31 c36) (s40 c31 c36) ?_
          refine r_jge (tgt := 94) dX5_bestFor_87 (by decide) (fun c41 => ?_) (fun c41 => ?_)
          · refine r_iconst (x := 0) dX5_bestFor_94 rfl (by decide) ?_
            exact K 0 (by first | rfl | (simp only [if_neg (Int.not_lt.mpr c31), if_neg (show ¬ (n22 75 x5 ≠ n22 75 x4) from not_not_intro c36), if_pos c41]))
          · refine r_iconst (x := 1) dX5_bestFor_90 rfl (by decide) ?_
            refine r_goto (tgt := 95) dX5_bestFor_91 (by decide) ?_
            exact K 1 (by first | rfl | (simp only [if_neg (Int.not_lt.mpr c31), if_neg (show ¬ (n22 75 x5 ≠ n22 75 x4) from not_not_intro c36), if_neg (Int.not_le.mpr c41)]))

theorem gX5_sayAll_0 {w : WD} {d : Nat} {G : GM} {Q : Option AV → Hp → Prop} {n : NM}
    (V :
    (Ev w d 0 0 mJ7_fill_53178 [vr 75, vi 0] (B0, n) (fun r h' => ∃ n21 : NM, r = none ∧ h' = (B0, n21) ∧ 
      Rn w mX5_sayAll (d + 1) G Q 18 [(0, vr 73), (1, vr 1), (2, vr 51), (3, vi 0)] [] (B0, upn n21 74 0 1000000)))) :
    Rn w mX5_sayAll (d + 1) G Q 0 [(0, vr 73), (1, vr 1), (2, vr 51)] [] (B0, n) := by
  refine r_aload_n dX5_sayAll_0 rfl rfl ?_
  refine r_getR (b := 75) dX5_sayAll_1 fX5_15 ob_73 (by decide) rfl rfl ?_
  refine r_iconst (x := 0) dX5_sayAll_4 rfl (by decide) ?_
  refine r_callS (args := [vr 75, vi 0]) dX5_sayAll_5 kX5_69 rfl rfl (Nat.le_of_ble_eq_true rfl) cap0 (Ev.mono V ?_)
  rintro r h' ⟨n21, rfl, rfl, V⟩
  show Rn w mX5_sayAll (d + 1) G Q 8 [(0, vr 73), (1, vr 1), (2, vr 51)] [] (B0, n21)
  refine r_aload_n dX5_sayAll_8 rfl rfl ?_
  refine r_getR (b := 74) dX5_sayAll_9 fX5_11 ob_73 (by decide) rfl rfl ?_
  refine r_iconst (x := 0) dX5_sayAll_12 rfl (by decide) ?_
  refine r_ldc (x := 1000000) dX5_sayAll_13 qX5_47 (by decide) ?_
  refine r_iast (h' := (B0, upn n21 74 0 1000000)) dX5_sayAll_15 ob_74 (by decide) (by decide) rfl ?_
  refine r_iconst (x := 0) dX5_sayAll_16 rfl (by decide) ?_
  refine r_istore_n (ls' := [(0, vr 73), (1, vr 1), (2, vr 51), (3, vi 0)]) dX5_sayAll_17 rfl (by decide) rfl ?_
  exact V

theorem gX5_sayAll_18 {w : WD} {d : Nat} {G : GM} {Q : Option AV → Hp → Prop} {n : NM} {x3 : Int}
    (V :
    (Ev w d 0 0 mX7_size [vr 21] (B0, n) (fun r h' => ∃ (x22 : Int) (n21 : NM), r = some (vi x22) ∧ h' = (B0, n21) ∧ 
      ((x22 ≤ x3 →
        Q none (B0, n21)) ∧
      (x3 < x22 →
        (Ev w d 0 0 mX6_oddsOf [vr 51, vi x3] (B0, n21) (fun r h' => ∃ (x25 : Int) (n24 : NM), r = some (vi x25) ∧ h' = (B0, n24) ∧ 
          Rn w mX5_sayAll (d + 1) G Q 39 [(0, vr 73), (1, vr 1), (2, vr 51), (3, vi x3), (4, vi x25), (5, vi 0)] [] (B0, n24)))))))) :
    Rn w mX5_sayAll (d + 1) G Q 18 [(0, vr 73), (1, vr 1), (2, vr 51), (3, vi x3)] [] (B0, n) := by
  refine r_iload_n dX5_sayAll_18 rfl rfl ?_
  refine r_aload_n dX5_sayAll_19 rfl rfl ?_
  refine r_getR (b := 21) dX5_sayAll_20 fX5_21 ob_1 (by decide) rfl rfl ?_
  refine r_callV (args := []) dX5_sayAll_23 kX5_27 ob_21 ⟨_, _, rfl⟩ (by decide) rfl rfl (Nat.le_of_ble_eq_true rfl) cap0 (Ev.mono V ?_)
  rintro r h' ⟨x22, n21, rfl, rfl, V⟩
  show Rn w mX5_sayAll (d + 1) G Q 26 [(0, vr 73), (1, vr 1), (2, vr 51), (3, vi x3)] [vi x22, vi x3] (B0, n21)
  obtain ⟨V1, V2⟩ := V
  refine r_jge (tgt := 73) dX5_sayAll_26 (by decide) (fun c23 => ?_) (fun c23 => ?_)
  · have V := V1 c23
    exact r_ret dX5_sayAll_73 rfl V
  · have V := V2 c23
    refine r_aload_n dX5_sayAll_29 rfl rfl ?_
    refine r_iload_n dX5_sayAll_30 rfl rfl ?_
    refine r_callV (args := [vi x3]) dX5_sayAll_31 kX5_33 ob_51 ⟨_, _, rfl⟩ (by decide) rfl rfl (Nat.le_of_ble_eq_true rfl) cap0 (Ev.mono V ?_)
    rintro r h' ⟨x25, n24, rfl, rfl, V⟩
    show Rn w mX5_sayAll (d + 1) G Q 34 [(0, vr 73), (1, vr 1), (2, vr 51), (3, vi x3)] [vi x25] (B0, n24)
    refine r_istore (ls' := [(0, vr 73), (1, vr 1), (2, vr 51), (3, vi x3), (4, vi x25)]) dX5_sayAll_34 (by decide) rfl ?_
    refine r_iconst (x := 0) dX5_sayAll_36 rfl (by decide) ?_
    refine r_istore (ls' := [(0, vr 73), (1, vr 1), (2, vr 51), (3, vi x3), (4, vi x25), (5, vi 0)]) dX5_sayAll_37 (by decide) rfl ?_
    exact V

theorem gX5_sayAll_39 {w : WD} {d : Nat} {G : GM} {Q : Option AV → Hp → Prop} {n : NM} {x3 x4 x5 : Int}
    (V :
    (Ev w d 0 0 mX7_size [vr 25] (B0, n) (fun r h' => ∃ (x22 : Int) (n21 : NM), r = some (vi x22) ∧ h' = (B0, n21) ∧ 
      ((x22 ≤ x5 →
        (inI (x3 + 1)) ∧
        Rn w mX5_sayAll (d + 1) G Q 18 [(0, vr 73), (1, vr 1), (2, vr 51), (3, vi (x3 + 1))] [] (B0, n21)) ∧
      (x5 < x22 →
        (Ev w d 0 0 mX5_sayWith [vr 73, vr 1, vi x5, vi x3, vi x4] (B0, n21) (fun r h' => ∃ n25 : NM, r = none ∧ h' = (B0, n25) ∧ 
          (inI (x5 + 1)) ∧
          Rn w mX5_sayAll (d + 1) G Q 39 [(0, vr 73), (1, vr 1), (2, vr 51), (3, vi x3), (4, vi x4), (5, vi (x5 + 1))] [] (B0, n25)))))))) :
    Rn w mX5_sayAll (d + 1) G Q 39 [(0, vr 73), (1, vr 1), (2, vr 51), (3, vi x3), (4, vi x4), (5, vi x5)] [] (B0, n) := by
  refine r_iload dX5_sayAll_39 rfl ?_
  refine r_aload_n dX5_sayAll_41 rfl rfl ?_
  refine r_getR (b := 25) dX5_sayAll_42 fX5_48 ob_1 (by decide) rfl rfl ?_
  refine r_callV (args := []) dX5_sayAll_45 kX5_27 ob_25 ⟨_, _, rfl⟩ (by decide) rfl rfl (Nat.le_of_ble_eq_true rfl) cap0 (Ev.mono V ?_)
  rintro r h' ⟨x22, n21, rfl, rfl, V⟩
  show Rn w mX5_sayAll (d + 1) G Q 48 [(0, vr 73), (1, vr 1), (2, vr 51), (3, vi x3), (4, vi x4), (5, vi x5)] [vi x22, vi x5] (B0, n21)
  obtain ⟨V1, V2⟩ := V
  refine r_jge (tgt := 67) dX5_sayAll_48 (by decide) (fun c23 => ?_) (fun c23 => ?_)
  · have V := V1 c23
    obtain ⟨s24, V⟩ := V
    refine r_iinc (y := x3 + 1) (ls' := [(0, vr 73), (1, vr 1), (2, vr 51), (3, vi (x3 + 1)), (4, vi x4), (5, vi x5)]) dX5_sayAll_67 rfl rfl s24 (by decide) rfl ?_
    refine r_goto (tgt := 18) dX5_sayAll_70 (by decide) ?_
    refine r_pick [0, 1, 2, 3] (ls' := [(0, vr 73), (1, vr 1), (2, vr 51), (3, vi (x3 + 1))]) rfl ?_
    exact V
  · have V := V2 c23
    refine r_aload_n dX5_sayAll_51 rfl rfl ?_
    refine r_aload_n dX5_sayAll_52 rfl rfl ?_
    refine r_iload dX5_sayAll_53 rfl ?_
    refine r_iload_n dX5_sayAll_55 rfl rfl ?_
    refine r_iload dX5_sayAll_56 rfl ?_
    refine r_callV (args := [vr 1, vi x5, vi x3, vi x4]) dX5_sayAll_58 kX5_75 ob_73 ⟨_, _, rfl⟩ (by decide) rfl rfl (Nat.le_of_ble_eq_true rfl) cap0 (Ev.mono V ?_)
    rintro r h' ⟨n25, rfl, rfl, V⟩
    show Rn w mX5_sayAll (d + 1) G Q 61 [(0, vr 73), (1, vr 1), (2, vr 51), (3, vi x3), (4, vi x4), (5, vi x5)] [] (B0, n25)
    obtain ⟨s26, V⟩ := V
    refine r_iinc (y := x5 + 1) (ls' := [(0, vr 73), (1, vr 1), (2, vr 51), (3, vi x3), (4, vi x4), (5, vi (x5 + 1))]) dX5_sayAll_61 rfl rfl s26 (by decide) rfl ?_
    refine r_goto (tgt := 39) dX5_sayAll_64 (by decide) ?_
    exact V

theorem gX5_sayWith_0 {w : WD} {d : Nat} {G : GM} {Q : Option AV → Hp → Prop} {n : NM} {x2 x3 x4 : Int}
    (V :
    (∃ k21 : Nat, x2 = (k21 : Int) ∧ k21 < 32 ∧
    (inI (1 * ((2 ^ k21 : Nat) : Int))) ∧
    (Ev w d 0 0 mX7_get [vr 25, vi x2, vi 1] (B0, n) (fun r h' => ∃ (x24 : Int) (n23 : NM), r = some (vi x24) ∧ h' = (B0, n23) ∧ 
      (Ev w d 0 0 mX1_heardOf [vr 1, vi x3, vi x24] (B0, n23) (fun r h' => ∃ (x26 : Int) (n25 : NM), r = some (vi x26) ∧ h' = (B0, n25) ∧ 
        (Ev w d 0 0 mX7_get [vr 25, vi x2, vi 0] (B0, n25) (fun r h' => ∃ (x28 : Int) (n27 : NM), r = some (vi x28) ∧ h' = (B0, n27) ∧ 
          (inI (100 - x28)) ∧
          (Ev w d 0 0 mX7_get [vr 25, vi x2, vi 2] (B0, n27) (fun r h' => ∃ (x31 : Int) (n30 : NM), r = some (vi x31) ∧ h' = (B0, n30) ∧ 
            (inI (100 - x31)) ∧
            Rn w mX5_sayWith (d + 1) G Q 52 [(0, vr 73), (4, vi x4), (5, vi (1 * ((2 ^ k21 : Nat) : Int))), (6, vi x26), (7, vi (100 - x28)), (8, vi (100 - x31)), (9, vi 0)] [] (B0, n30))))))))))) :
    Rn w mX5_sayWith (d + 1) G Q 0 [(0, vr 73), (1, vr 1), (2, vi x2), (3, vi x3), (4, vi x4)] [] (B0, n) := by
  refine r_iconst (x := 1) dX5_sayWith_0 rfl (by decide) ?_
  refine r_iload_n dX5_sayWith_1 rfl rfl ?_
  obtain ⟨k21, hk21, lk21, V⟩ := V
  obtain ⟨s22, V⟩ := V
  refine r_ishl (n := k21) dX5_sayWith_2 hk21 lk21 s22 ?_
  refine r_istore (ls' := [(0, vr 73), (1, vr 1), (2, vi x2), (3, vi x3), (4, vi x4), (5, vi (1 * ((2 ^ k21 : Nat) : Int)))]) dX5_sayWith_3 (by decide) rfl ?_
  refine r_aload_n dX5_sayWith_5 rfl rfl ?_
  refine r_iload_n dX5_sayWith_6 rfl rfl ?_
  refine r_aload_n dX5_sayWith_7 rfl rfl ?_
  refine r_getR (b := 25) dX5_sayWith_8 fX5_48 ob_1 (by decide) rfl rfl ?_
  refine r_iload_n dX5_sayWith_11 rfl rfl ?_
  refine r_iconst (x := 1) dX5_sayWith_12 rfl (by decide) ?_
  refine r_callV (args := [vi x2, vi 1]) dX5_sayWith_13 kX5_51 ob_25 ⟨_, _, rfl⟩ (by decide) rfl rfl (Nat.le_of_ble_eq_true rfl) cap0 (Ev.mono V ?_)
  rintro r h' ⟨x24, n23, rfl, rfl, V⟩
  show Rn w mX5_sayWith (d + 1) G Q 16 [(0, vr 73), (1, vr 1), (2, vi x2), (3, vi x3), (4, vi x4), (5, vi (1 * ((2 ^ k21 : Nat) : Int)))] [vi x24, vi x3, vr 1] (B0, n23)
  refine r_callV (args := [vi x3, vi x24]) dX5_sayWith_16 kX5_54 ob_1 ⟨_, _, rfl⟩ (by decide) rfl rfl (Nat.le_of_ble_eq_true rfl) cap0 (Ev.mono V ?_)
  rintro r h' ⟨x26, n25, rfl, rfl, V⟩
  show Rn w mX5_sayWith (d + 1) G Q 19 [(0, vr 73), (1, vr 1), (2, vi x2), (3, vi x3), (4, vi x4), (5, vi (1 * ((2 ^ k21 : Nat) : Int)))] [vi x26] (B0, n25)
  refine r_istore (ls' := [(0, vr 73), (1, vr 1), (2, vi x2), (3, vi x3), (4, vi x4), (5, vi (1 * ((2 ^ k21 : Nat) : Int))), (6, vi x26)]) dX5_sayWith_19 (by decide) rfl ?_
  refine r_bipush (x := 100) dX5_sayWith_21 (by decide +kernel) (by decide) ?_
  refine r_aload_n dX5_sayWith_23 rfl rfl ?_
  refine r_getR (b := 25) dX5_sayWith_24 fX5_48 ob_1 (by decide) rfl rfl ?_
  refine r_iload_n dX5_sayWith_27 rfl rfl ?_
  refine r_iconst (x := 0) dX5_sayWith_28 rfl (by decide) ?_
  refine r_callV (args := [vi x2, vi 0]) dX5_sayWith_29 kX5_51 ob_25 ⟨_, _, rfl⟩ (by decide) rfl rfl (Nat.le_of_ble_eq_true rfl) cap0 (Ev.mono V ?_)
  rintro r h' ⟨x28, n27, rfl, rfl, V⟩
  show Rn w mX5_sayWith (d + 1) G Q 32 [(0, vr 73), (1, vr 1), (2, vi x2), (3, vi x3), (4, vi x4), (5, vi (1 * ((2 ^ k21 : Nat) : Int))), (6, vi x26)] [vi x28, vi 100] (B0, n27)
  obtain ⟨s29, V⟩ := V
  refine r_isub dX5_sayWith_32 s29 ?_
  refine r_istore (ls' := [(0, vr 73), (1, vr 1), (2, vi x2), (3, vi x3), (4, vi x4), (5, vi (1 * ((2 ^ k21 : Nat) : Int))), (6, vi x26), (7, vi (100 - x28))]) dX5_sayWith_33 (by decide) rfl ?_
  refine r_bipush (x := 100) dX5_sayWith_35 (by decide +kernel) (by decide) ?_
  refine r_aload_n dX5_sayWith_37 rfl rfl ?_
  refine r_getR (b := 25) dX5_sayWith_38 fX5_48 ob_1 (by decide) rfl rfl ?_
  refine r_iload_n dX5_sayWith_41 rfl rfl ?_
  refine r_iconst (x := 2) dX5_sayWith_42 rfl (by decide) ?_
  refine r_callV (args := [vi x2, vi 2]) dX5_sayWith_43 kX5_51 ob_25 ⟨_, _, rfl⟩ (by decide) rfl rfl (Nat.le_of_ble_eq_true rfl) cap0 (Ev.mono V ?_)
  rintro r h' ⟨x31, n30, rfl, rfl, V⟩
  show Rn w mX5_sayWith (d + 1) G Q 46 [(0, vr 73), (1, vr 1), (2, vi x2), (3, vi x3), (4, vi x4), (5, vi (1 * ((2 ^ k21 : Nat) : Int))), (6, vi x26), (7, vi (100 - x28))] [vi x31, vi 100] (B0, n30)
  obtain ⟨s32, V⟩ := V
  refine r_isub dX5_sayWith_46 s32 ?_
  refine r_istore (ls' := [(0, vr 73), (1, vr 1), (2, vi x2), (3, vi x3), (4, vi x4), (5, vi (1 * ((2 ^ k21 : Nat) : Int))), (6, vi x26), (7, vi (100 - x28)), (8, vi (100 - x31))]) dX5_sayWith_47 (by decide) rfl ?_
  refine r_iconst (x := 0) dX5_sayWith_49 rfl (by decide) ?_
  refine r_istore (ls' := [(0, vr 73), (1, vr 1), (2, vi x2), (3, vi x3), (4, vi x4), (5, vi (1 * ((2 ^ k21 : Nat) : Int))), (6, vi x26), (7, vi (100 - x28)), (8, vi (100 - x31)), (9, vi 0)]) dX5_sayWith_50 (by decide) rfl ?_
  refine r_pick [0, 4, 5, 6, 7, 8, 9] (ls' := [(0, vr 73), (4, vi x4), (5, vi (1 * ((2 ^ k21 : Nat) : Int))), (6, vi x26), (7, vi (100 - x28)), (8, vi (100 - x31)), (9, vi 0)]) rfl ?_
  exact V

theorem gX5_sayWith_52 {w : WD} {d : Nat} {G : GM} {Q : Option AV → Hp → Prop} {n : NM} {x4 x5 x6 x7 x8 x9 : Int}
    (V :
    ((x5 ≤ x9 →
      Q none (B0, n)) ∧
    (x9 < x5 →
      (inI (x9 + x5)) ∧
      ((1024 ≤ x9 + x5 →
        Q none (B0, n)) ∧
      (x9 + x5 < 1024 →
        (0 ≤ x9) ∧
        (x9 < 1024) ∧
        (Ev w d 0 0 mX5_silentAfter [vi (n 74 x9), vi x6, vi x7, vi x8] (B0, n) (fun r h' => ∃ (x27 : Int) (n26 : NM), r = some (vi x27) ∧ h' = (B0, n26) ∧ 
          (inI (x9 + x5)) ∧
          (0 ≤ x9 + x5) ∧
          (x9 + x5 < 1024) ∧
          (inI (x9 + x5)) ∧
          (0 ≤ x9 + x5) ∧
          (x9 + x5 < 1024) ∧
          (Ev w d 0 0 mX5_share [vi x4, vi x27] (B0, upn n26 74 (x9 + x5) x27) (fun r h' => ∃ (x35 : Int) (n34 : NM), r = some (vi x35) ∧ h' = (B0, n34) ∧ 
            (inI ((n26 75 (x9 + x5)) + x35)) ∧
            (0 ≤ x9 + x5) ∧
            (x9 + x5 < 1024) ∧
            (inI (x9 + 1)) ∧
            Rn w mX5_sayWith (d + 1) G Q 52 [(0, vr 73), (4, vi x4), (5, vi x5), (6, vi x6), (7, vi x7), (8, vi x8), (9, vi (x9 + 1))] [] (B0, upn n34 75 (x9 + x5) ((n26 75 (x9 + x5)) + x35))))))))))) :
    Rn w mX5_sayWith (d + 1) G Q 52 [(0, vr 73), (4, vi x4), (5, vi x5), (6, vi x6), (7, vi x7), (8, vi x8), (9, vi x9)] [] (B0, n) := by
  refine r_iload dX5_sayWith_52 rfl ?_
  refine r_iload dX5_sayWith_54 rfl ?_
  obtain ⟨V1, V2⟩ := V
  refine r_jge (tgt := 126) dX5_sayWith_56 (by decide) (fun c21 => ?_) (fun c21 => ?_)
  · have V := V1 c21
    exact r_ret dX5_sayWith_126 rfl V
  · have V := V2 c21
    refine r_iload dX5_sayWith_59 rfl ?_
    refine r_iload dX5_sayWith_61 rfl ?_
    obtain ⟨s22, V⟩ := V
    refine r_iadd dX5_sayWith_63 s22 ?_
    refine r_sipush (x := 1024) dX5_sayWith_64 (by decide +kernel) (by decide) ?_
    obtain ⟨V1, V2⟩ := V
    refine r_jge (tgt := 126) dX5_sayWith_67 (by decide) (fun c23 => ?_) (fun c23 => ?_)
    · have V := V1 c23
      exact r_ret dX5_sayWith_126 rfl V
    · have V := V2 c23
      refine r_aload_n dX5_sayWith_70 rfl rfl ?_
      refine r_getR (b := 74) dX5_sayWith_71 fX5_11 ob_73 (by decide) rfl rfl ?_
      refine r_iload dX5_sayWith_74 rfl ?_
      obtain ⟨s24, V⟩ := V
      obtain ⟨s25, V⟩ := V
      refine r_iald dX5_sayWith_76 ob_74 s24 s25 ?_
      refine r_iload dX5_sayWith_77 rfl ?_
      refine r_iload dX5_sayWith_79 rfl ?_
      refine r_iload dX5_sayWith_81 rfl ?_
      refine r_callS (args := [vi (n 74 x9), vi x6, vi x7, vi x8]) dX5_sayWith_83 kX5_57 rfl rfl (Nat.le_of_ble_eq_true rfl) cap0 (Ev.mono V ?_)
      rintro r h' ⟨x27, n26, rfl, rfl, V⟩
      show Rn w mX5_sayWith (d + 1) G Q 86 [(0, vr 73), (4, vi x4), (5, vi x5), (6, vi x6), (7, vi x7), (8, vi x8), (9, vi x9)] [vi x27] (B0, n26)
      refine r_istore (ls' := [(0, vr 73), (4, vi x4), (5, vi x5), (6, vi x6), (7, vi x7), (8, vi x8), (9, vi x9), (10, vi x27)]) dX5_sayWith_86 (by decide) rfl ?_
      refine r_aload_n dX5_sayWith_88 rfl rfl ?_
      refine r_getR (b := 74) dX5_sayWith_89 fX5_11 ob_73 (by decide) rfl rfl ?_
      refine r_iload dX5_sayWith_92 rfl ?_
      refine r_iload dX5_sayWith_94 rfl ?_
      obtain ⟨s28, V⟩ := V
      refine r_iadd dX5_sayWith_96 s28 ?_
      refine r_iload dX5_sayWith_97 rfl ?_
      obtain ⟨s29, V⟩ := V
      obtain ⟨s30, V⟩ := V
      refine r_iast (h' := (B0, upn n26 74 (x9 + x5) x27)) dX5_sayWith_99 ob_74 s29 s30 rfl ?_
      refine r_aload_n dX5_sayWith_100 rfl rfl ?_
      refine r_getR (b := 75) dX5_sayWith_101 fX5_15 ob_73 (by decide) rfl rfl ?_
      refine r_iload dX5_sayWith_104 rfl ?_
      refine r_iload dX5_sayWith_106 rfl ?_
      obtain ⟨s31, V⟩ := V
      refine r_iadd dX5_sayWith_108 s31 ?_
      refine r_dup2 dX5_sayWith_109 rfl rfl ?_
      obtain ⟨s32, V⟩ := V
      obtain ⟨s33, V⟩ := V
      refine r_iald dX5_sayWith_110 ob_75 s32 s33 ?_
      show Rn w mX5_sayWith (d + 1) G Q 111 [(0, vr 73), (4, vi x4), (5, vi x5), (6, vi x6), (7, vi x7), (8, vi x8), (9, vi x9), (10, vi x27)] [vi (n26 75 (x9 + x5)), vi (x9 + x5), vr 75] (B0, upn n26 74 (x9 + x5) x27)
      refine r_iload dX5_sayWith_111 rfl ?_
      refine r_iload dX5_sayWith_113 rfl ?_
      refine r_callS (args := [vi x4, vi x27]) dX5_sayWith_115 kX5_43 rfl rfl (Nat.le_of_ble_eq_true rfl) cap0 (Ev.mono V ?_)
      rintro r h' ⟨x35, n34, rfl, rfl, V⟩
      show Rn w mX5_sayWith (d + 1) G Q 118 [(0, vr 73), (4, vi x4), (5, vi x5), (6, vi x6), (7, vi x7), (8, vi x8), (9, vi x9), (10, vi x27)] [vi x35, vi (n26 75 (x9 + x5)), vi (x9 + x5), vr 75] (B0, n34)
      obtain ⟨s36, V⟩ := V
      refine r_iadd dX5_sayWith_118 s36 ?_
      obtain ⟨s37, V⟩ := V
      obtain ⟨s38, V⟩ := V
      refine r_iast (h' := (B0, upn n34 75 (x9 + x5) ((n26 75 (x9 + x5)) + x35))) dX5_sayWith_119 ob_75 s37 s38 rfl ?_
      obtain ⟨s39, V⟩ := V
      refine r_iinc (y := x9 + 1) (ls' := [(0, vr 73), (4, vi x4), (5, vi x5), (6, vi x6), (7, vi x7), (8, vi x8), (9, vi (x9 + 1)), (10, vi x27)]) dX5_sayWith_120 rfl rfl s39 (by decide) rfl ?_
      refine r_goto (tgt := 52) dX5_sayWith_123 (by decide) ?_
      refine r_pick [0, 1, 2, 3, 4, 5, 6] (ls' := [(0, vr 73), (4, vi x4), (5, vi x5), (6, vi x6), (7, vi x7), (8, vi x8), (9, vi (x9 + 1))]) rfl ?_
      exact V

theorem gX5_costAll_0 {w : WD} {d : Nat} {G : GM} {Q : Option AV → Hp → Prop} {n : NM}
    (V :
    Rn w mX5_costAll d G Q 9 [(0, vr 73), (1, vr 1), (2, vi 0)] [] (B0, upn n 76 0 0)) :
    Rn w mX5_costAll d G Q 0 [(0, vr 73), (1, vr 1)] [] (B0, n) := by
  refine r_aload_n dX5_costAll_0 rfl rfl ?_
  refine r_getR (b := 76) dX5_costAll_1 fX5_18 ob_73 (by decide) rfl rfl ?_
  refine r_iconst (x := 0) dX5_costAll_4 rfl (by decide) ?_
  refine r_iconst (x := 0) dX5_costAll_5 rfl (by decide) ?_
  refine r_iast (h' := (B0, upn n 76 0 0)) dX5_costAll_6 ob_76 (by decide) (by decide) rfl ?_
  refine r_iconst (x := 0) dX5_costAll_7 rfl (by decide) ?_
  refine r_istore_n (ls' := [(0, vr 73), (1, vr 1), (2, vi 0)]) dX5_costAll_8 rfl (by decide) rfl ?_
  exact V

theorem gX5_costAll_9 {w : WD} {d : Nat} {G : GM} {Q : Option AV → Hp → Prop} {n : NM} {x2 : Int}
    (V :
    (Ev w d 0 0 mX7_size [vr 25] (B0, n) (fun r h' => ∃ (x22 : Int) (n21 : NM), r = some (vi x22) ∧ h' = (B0, n21) ∧ 
      ((x22 ≤ x2 →
        Q none (B0, n21)) ∧
      (x2 < x22 →
        (∃ k24 : Nat, x2 = (k24 : Int) ∧ k24 < 32 ∧
        (inI (1 * ((2 ^ k24 : Nat) : Int))) ∧
        Rn w mX5_costAll (d + 1) G Q 27 [(0, vr 73), (1, vr 1), (2, vi x2), (3, vi (1 * ((2 ^ k24 : Nat) : Int))), (4, vi 0)] [] (B0, n21))))))) :
    Rn w mX5_costAll (d + 1) G Q 9 [(0, vr 73), (1, vr 1), (2, vi x2)] [] (B0, n) := by
  refine r_iload_n dX5_costAll_9 rfl rfl ?_
  refine r_aload_n dX5_costAll_10 rfl rfl ?_
  refine r_getR (b := 25) dX5_costAll_11 fX5_48 ob_1 (by decide) rfl rfl ?_
  refine r_callV (args := []) dX5_costAll_14 kX5_27 ob_25 ⟨_, _, rfl⟩ (by decide) rfl rfl (Nat.le_of_ble_eq_true rfl) cap0 (Ev.mono V ?_)
  rintro r h' ⟨x22, n21, rfl, rfl, V⟩
  show Rn w mX5_costAll (d + 1) G Q 17 [(0, vr 73), (1, vr 1), (2, vi x2)] [vi x22, vi x2] (B0, n21)
  obtain ⟨V1, V2⟩ := V
  refine r_jge (tgt := 81) dX5_costAll_17 (by decide) (fun c23 => ?_) (fun c23 => ?_)
  · have V := V1 c23
    exact r_ret dX5_costAll_81 rfl V
  · have V := V2 c23
    refine r_iconst (x := 1) dX5_costAll_20 rfl (by decide) ?_
    refine r_iload_n dX5_costAll_21 rfl rfl ?_
    obtain ⟨k24, hk24, lk24, V⟩ := V
    obtain ⟨s25, V⟩ := V
    refine r_ishl (n := k24) dX5_costAll_22 hk24 lk24 s25 ?_
    refine r_istore_n (ls' := [(0, vr 73), (1, vr 1), (2, vi x2), (3, vi (1 * ((2 ^ k24 : Nat) : Int)))]) dX5_costAll_23 rfl (by decide) rfl ?_
    refine r_iconst (x := 0) dX5_costAll_24 rfl (by decide) ?_
    refine r_istore (ls' := [(0, vr 73), (1, vr 1), (2, vi x2), (3, vi (1 * ((2 ^ k24 : Nat) : Int))), (4, vi 0)]) dX5_costAll_25 (by decide) rfl ?_
    exact V

theorem gX5_costAll_27 {w : WD} {d : Nat} {G : GM} {Q : Option AV → Hp → Prop} {n : NM} {x2 x3 x4 : Int}
    (V :
    ((x3 ≤ x4 →
      (inI (x2 + 1)) ∧
      Rn w mX5_costAll (d + 1) G Q 9 [(0, vr 73), (1, vr 1), (2, vi (x2 + 1))] [] (B0, n)) ∧
    (x4 < x3 →
      (inI (x4 + x3)) ∧
      ((1024 ≤ x4 + x3 →
        (inI (x2 + 1)) ∧
        Rn w mX5_costAll (d + 1) G Q 9 [(0, vr 73), (1, vr 1), (2, vi (x2 + 1))] [] (B0, n)) ∧
      (x4 + x3 < 1024 →
        (inI (x4 + x3)) ∧
        (0 ≤ x4) ∧
        (x4 < 1024) ∧
        (Ev w d 0 0 mX7_get [vr 25, vi x2, vi 3] (B0, n) (fun r h' => ∃ (x30 : Int) (n29 : NM), r = some (vi x30) ∧ h' = (B0, n29) ∧ 
          (inI ((n 76 x4) + x30)) ∧
          (0 ≤ x4 + x3) ∧
          (x4 + x3 < 1024) ∧
          (inI (x4 + 1)) ∧
          Rn w mX5_costAll (d + 1) G Q 27 [(0, vr 73), (1, vr 1), (2, vi x2), (3, vi x3), (4, vi (x4 + 1))] [] (B0, upn n29 76 (x4 + x3) ((n 76 x4) + x30))))))))) :
    Rn w mX5_costAll (d + 1) G Q 27 [(0, vr 73), (1, vr 1), (2, vi x2), (3, vi x3), (4, vi x4)] [] (B0, n) := by
  refine r_iload dX5_costAll_27 rfl ?_
  refine r_iload_n dX5_costAll_29 rfl rfl ?_
  obtain ⟨V1, V2⟩ := V
  refine r_jge (tgt := 75) dX5_costAll_30 (by decide) (fun c21 => ?_) (fun c21 => ?_)
  · have V := V1 c21
    obtain ⟨s22, V⟩ := V
    refine r_iinc (y := x2 + 1) (ls' := [(0, vr 73), (1, vr 1), (2, vi (x2 + 1)), (3, vi x3), (4, vi x4)]) dX5_costAll_75 rfl rfl s22 (by decide) rfl ?_
    refine r_goto (tgt := 9) dX5_costAll_78 (by decide) ?_
    refine r_pick [0, 1, 2] (ls' := [(0, vr 73), (1, vr 1), (2, vi (x2 + 1))]) rfl ?_
    exact V
  · have V := V2 c21
    refine r_iload dX5_costAll_33 rfl ?_
    refine r_iload_n dX5_costAll_35 rfl rfl ?_
    obtain ⟨s23, V⟩ := V
    refine r_iadd dX5_costAll_36 s23 ?_
    refine r_sipush (x := 1024) dX5_costAll_37 (by decide +kernel) (by decide) ?_
    obtain ⟨V1, V2⟩ := V
    refine r_jge (tgt := 75) dX5_costAll_40 (by decide) (fun c24 => ?_) (fun c24 => ?_)
    · have V := V1 c24
      obtain ⟨s25, V⟩ := V
      refine r_iinc (y := x2 + 1) (ls' := [(0, vr 73), (1, vr 1), (2, vi (x2 + 1)), (3, vi x3), (4, vi x4)]) dX5_costAll_75 rfl rfl s25 (by decide) rfl ?_
      refine r_goto (tgt := 9) dX5_costAll_78 (by decide) ?_
      refine r_pick [0, 1, 2] (ls' := [(0, vr 73), (1, vr 1), (2, vi (x2 + 1))]) rfl ?_
      exact V
    · have V := V2 c24
      refine r_aload_n dX5_costAll_43 rfl rfl ?_
      refine r_getR (b := 76) dX5_costAll_44 fX5_18 ob_73 (by decide) rfl rfl ?_
      refine r_iload dX5_costAll_47 rfl ?_
      refine r_iload_n dX5_costAll_49 rfl rfl ?_
      obtain ⟨s26, V⟩ := V
      refine r_iadd dX5_costAll_50 s26 ?_
      refine r_aload_n dX5_costAll_51 rfl rfl ?_
      refine r_getR (b := 76) dX5_costAll_52 fX5_18 ob_73 (by decide) rfl rfl ?_
      refine r_iload dX5_costAll_55 rfl ?_
      obtain ⟨s27, V⟩ := V
      obtain ⟨s28, V⟩ := V
      refine r_iald dX5_costAll_57 ob_76 s27 s28 ?_
      refine r_aload_n dX5_costAll_58 rfl rfl ?_
      refine r_getR (b := 25) dX5_costAll_59 fX5_48 ob_1 (by decide) rfl rfl ?_
      refine r_iload_n dX5_costAll_62 rfl rfl ?_
      refine r_iconst (x := 3) dX5_costAll_63 rfl (by decide) ?_
      refine r_callV (args := [vi x2, vi 3]) dX5_costAll_64 kX5_51 ob_25 ⟨_, _, rfl⟩ (by decide) rfl rfl (Nat.le_of_ble_eq_true rfl) cap0 (Ev.mono V ?_)
      rintro r h' ⟨x30, n29, rfl, rfl, V⟩
      show Rn w mX5_costAll (d + 1) G Q 67 [(0, vr 73), (1, vr 1), (2, vi x2), (3, vi x3), (4, vi x4)] [vi x30, vi (n 76 x4), vi (x4 + x3), vr 76] (B0, n29)
      obtain ⟨s31, V⟩ := V
      refine r_iadd dX5_costAll_67 s31 ?_
      obtain ⟨s32, V⟩ := V
      obtain ⟨s33, V⟩ := V
      refine r_iast (h' := (B0, upn n29 76 (x4 + x3) ((n 76 x4) + x30))) dX5_costAll_68 ob_76 s32 s33 rfl ?_
      obtain ⟨s34, V⟩ := V
      refine r_iinc (y := x4 + 1) (ls' := [(0, vr 73), (1, vr 1), (2, vi x2), (3, vi x3), (4, vi (x4 + 1))]) dX5_costAll_69 rfl rfl s34 (by decide) rfl ?_
      refine r_goto (tgt := 27) dX5_costAll_72 (by decide) ?_
      exact V

theorem gX5_silentAfter_0 {w : WD} {d : Nat} {G : GM} {Q : Option AV → Hp → Prop} {n : NM} {x0 x1 x2 x3 : Int}
    (V :
    Rn w mX5_silentAfter d G Q 6 [(1, vi x1), (2, vi x2), (3, vi x3), (4, vi x0), (5, vi 0)] [] (B0, n)) :
    Rn w mX5_silentAfter d G Q 0 [(0, vi x0), (1, vi x1), (2, vi x2), (3, vi x3)] [] (B0, n) := by
  refine r_iload_n dX5_silentAfter_0 rfl rfl ?_
  refine r_istore (ls' := [(0, vi x0), (1, vi x1), (2, vi x2), (3, vi x3), (4, vi x0)]) dX5_silentAfter_1 (by decide) rfl ?_
  refine r_iconst (x := 0) dX5_silentAfter_3 rfl (by decide) ?_
  refine r_istore (ls' := [(0, vi x0), (1, vi x1), (2, vi x2), (3, vi x3), (4, vi x0), (5, vi 0)]) dX5_silentAfter_4 (by decide) rfl ?_
  refine r_pick [1, 2, 3, 4, 5] (ls' := [(1, vi x1), (2, vi x2), (3, vi x3), (4, vi x0), (5, vi 0)]) rfl ?_
  exact V

theorem gX5_silentAfter_6 {w : WD} {d : Nat} {G : GM} {Q : Option AV → Hp → Prop} {n : NM} {x1 x2 x3 x4 x5 : Int}
    (V :
    ((x1 ≤ x5 →
      (inI (x4 * x3)) ∧
      (0 ≤ x4 * x3) ∧
      Q (some (vi ((x4 * x3) / 100))) (B0, n)) ∧
    (x5 < x1 →
      ((x4 ≤ 0 →
        (inI (x4 * x3)) ∧
        (0 ≤ x4 * x3) ∧
        Q (some (vi ((x4 * x3) / 100))) (B0, n)) ∧
      (0 < x4 →
        (inI (x4 * x2)) ∧
        (0 ≤ x4 * x2) ∧
        (inI (x5 + 1)) ∧
        Rn w mX5_silentAfter d G Q 6 [(1, vi x1), (2, vi x2), (3, vi x3), (4, vi ((x4 * x2) / 100)), (5, vi (x5 + 1))] [] (B0, n)))))) :
    Rn w mX5_silentAfter d G Q 6 [(1, vi x1), (2, vi x2), (3, vi x3), (4, vi x4), (5, vi x5)] [] (B0, n) := by
  refine r_iload dX5_silentAfter_6 rfl ?_
  refine r_iload_n dX5_silentAfter_8 rfl rfl ?_
  obtain ⟨V1, V2⟩ := V
  refine r_jge (tgt := 32) dX5_silentAfter_9 (by decide) (fun c21 => ?_) (fun c21 => ?_)
  · have V := V1 c21
    refine r_iload dX5_silentAfter_32 rfl ?_
    refine r_iload_n dX5_silentAfter_34 rfl rfl ?_
    obtain ⟨s22, V⟩ := V
    refine r_imul dX5_silentAfter_35 s22 ?_
    refine r_bipush (x := 100) dX5_silentAfter_36 (by decide +kernel) (by decide) ?_
    obtain ⟨s23, V⟩ := V
    refine r_idiv dX5_silentAfter_38 s23 (by decide) ?_
    exact r_iret dX5_silentAfter_39 rfl V
  · have V := V2 c21
    refine r_iload dX5_silentAfter_12 rfl ?_
    obtain ⟨V1, V2⟩ := V
    refine r_zle (tgt := 32) dX5_silentAfter_14 (by decide) (fun c24 => ?_) (fun c24 => ?_)
    · have V := V1 c24
      refine r_iload dX5_silentAfter_32 rfl ?_
      refine r_iload_n dX5_silentAfter_34 rfl rfl ?_
      obtain ⟨s25, V⟩ := V
      refine r_imul dX5_silentAfter_35 s25 ?_
      refine r_bipush (x := 100) dX5_silentAfter_36 (by decide +kernel) (by decide) ?_
      obtain ⟨s26, V⟩ := V
      refine r_idiv dX5_silentAfter_38 s26 (by decide) ?_
      exact r_iret dX5_silentAfter_39 rfl V
    · have V := V2 c24
      refine r_iload dX5_silentAfter_17 rfl ?_
      refine r_iload_n dX5_silentAfter_19 rfl rfl ?_
      obtain ⟨s27, V⟩ := V
      refine r_imul dX5_silentAfter_20 s27 ?_
      refine r_bipush (x := 100) dX5_silentAfter_21 (by decide +kernel) (by decide) ?_
      obtain ⟨s28, V⟩ := V
      refine r_idiv dX5_silentAfter_23 s28 (by decide) ?_
      refine r_istore (ls' := [(1, vi x1), (2, vi x2), (3, vi x3), (4, vi ((x4 * x2) / 100)), (5, vi x5)]) dX5_silentAfter_24 (by decide) rfl ?_
      obtain ⟨s29, V⟩ := V
      refine r_iinc (y := x5 + 1) (ls' := [(1, vi x1), (2, vi x2), (3, vi x3), (4, vi ((x4 * x2) / 100)), (5, vi (x5 + 1))]) dX5_silentAfter_26 rfl rfl s29 (by decide) rfl ?_
      refine r_goto (tgt := 6) dX5_silentAfter_29 (by decide) ?_
      exact V

theorem gX5_share_0 {w : WD} {d : Nat} {G : GM} {Q : Option AV → Hp → Prop} {n : NM} {x0 x1 : Int}
    (V :
    (inI (1000000 - x1)) ∧
    (inJ (x0 * (1000000 - x1))) ∧
    (0 ≤ x0 * (1000000 - x1)) ∧
    (inI ((x0 * (1000000 - x1)) / 1000000)) ∧
    Q (some (vi ((x0 * (1000000 - x1)) / 1000000))) (B0, n)) :
    Rn w mX5_share d G Q 0 [(0, vi x0), (1, vi x1)] [] (B0, n) := by
  refine r_iload_n dX5_share_0 rfl rfl ?_
  refine r_i2l dX5_share_1 ?_
  refine r_ldc (x := 1000000) dX5_share_2 qX5_47 (by decide) ?_
  refine r_iload_n dX5_share_4 rfl rfl ?_
  obtain ⟨s21, V⟩ := V
  refine r_isub dX5_share_5 s21 ?_
  refine r_i2l dX5_share_6 ?_
  obtain ⟨s22, V⟩ := V
  refine r_lmul dX5_share_7 s22 ?_
  refine r_ldc2 (x := 1000000) dX5_share_8 qX5_79 (by decide) ?_
  obtain ⟨s23, V⟩ := V
  refine r_ldiv dX5_share_11 s23 (by decide) ?_
  obtain ⟨s24, V⟩ := V
  refine r_l2i dX5_share_12 s24 ?_
  exact r_iret dX5_share_13 rfl V
theorem gX10_make_0 {w : WD} {d : Nat} {G : GM} {Q : Option AV → Hp → Prop} {n : NM} {x2 x3 x4 : Int}
    (V :
    (Ev w d 0 0 mX7_size [vr 10] (B0, n) (fun r h' => ∃ (x22 : Int) (n21 : NM), r = some (vi x22) ∧ h' = (B0, n21) ∧ 
      (Ev w d 0 0 mX7_fill [vr 78, vi x22, vi 0] (B0, n21) (fun r h' => ∃ n23 : NM, r = none ∧ h' = (B0, n23) ∧ 
        Rn w mX10_make (d + 1) G Q 32 [(0, vr 77), (1, vr 1), (2, vi x2), (3, vi x3), (5, vi 0), (6, vi 0)] [] (B0, upn (upn n23 77 1 1) 77 2 x4)))))) :
    Rn w mX10_make (d + 1) G Q 0 [(0, vr 77), (1, vr 1), (2, vi x2), (3, vi x3), (4, vi x4)] [] (B0, n) := by
  refine r_aload_n dX10_make_0 rfl rfl ?_
  refine r_getR (b := 78) dX10_make_1 fX10_14 ob_77 (by decide) rfl rfl ?_
  refine r_aload_n dX10_make_4 rfl rfl ?_
  refine r_getR (b := 10) dX10_make_5 fX10_28 ob_1 (by decide) rfl rfl ?_
  refine r_callV (args := []) dX10_make_8 kX10_33 ob_10 ⟨_, _, rfl⟩ (by decide) rfl rfl (Nat.le_of_ble_eq_true rfl) cap0 (Ev.mono V ?_)
  rintro r h' ⟨x22, n21, rfl, rfl, V⟩
  show Rn w mX10_make (d + 1) G Q 11 [(0, vr 77), (1, vr 1), (2, vi x2), (3, vi x3), (4, vi x4)] [vi x22, vr 78] (B0, n21)
  refine r_iconst (x := 0) dX10_make_11 rfl (by decide) ?_
  refine r_callV (args := [vi x22, vi 0]) dX10_make_12 kX10_37 ob_78 ⟨_, _, rfl⟩ (by decide) rfl rfl (Nat.le_of_ble_eq_true rfl) cap0 (Ev.mono V ?_)
  rintro r h' ⟨n23, rfl, rfl, V⟩
  show Rn w mX10_make (d + 1) G Q 15 [(0, vr 77), (1, vr 1), (2, vi x2), (3, vi x3), (4, vi x4)] [] (B0, n23)
  refine r_aload_n dX10_make_15 rfl rfl ?_
  refine r_iconst (x := 1) dX10_make_16 rfl (by decide) ?_
  refine r_putZ (fi := 1) (h' := (B0, upn n23 77 1 1)) dX10_make_17 pX10_20 ob_77 (by decide) rfl rfl (by decide) rfl ?_
  refine r_aload_n dX10_make_20 rfl rfl ?_
  refine r_iload dX10_make_21 rfl ?_
  refine r_putI (fi := 2) (h' := (B0, upn (upn n23 77 1 1) 77 2 x4)) dX10_make_23 pX10_24 ob_77 (by decide) rfl rfl rfl ?_
  refine r_iconst (x := 0) dX10_make_26 rfl (by decide) ?_
  refine r_istore (ls' := [(0, vr 77), (1, vr 1), (2, vi x2), (3, vi x3), (4, vi x4), (5, vi 0)]) dX10_make_27 (by decide) rfl ?_
  refine r_iconst (x := 0) dX10_make_29 rfl (by decide) ?_
  refine r_istore (ls' := [(0, vr 77), (1, vr 1), (2, vi x2), (3, vi x3), (4, vi x4), (5, vi 0), (6, vi 0)]) dX10_make_30 (by decide) rfl ?_
  refine r_pick [0, 1, 2, 3, 5, 6] (ls' := [(0, vr 77), (1, vr 1), (2, vi x2), (3, vi x3), (5, vi 0), (6, vi 0)]) rfl ?_
  exact V

theorem gX10_make_32 {w : WD} {d : Nat} {G : GM} {Q : Option AV → Hp → Prop} {n : NM} {x2 x3 x5 x6 : Int}
    (V :
    ((x3 ≤ x6 →
      Q (some (vi x5)) (B0, n)) ∧
    (x6 < x3 →
      Rn w mX10_make d G Q 41 [(0, vr 77), (1, vr 1), (2, vi x2), (3, vi x3), (5, vi x5), (6, vi x6), (7, vi 0)] [] (B0, n)))) :
    Rn w mX10_make d G Q 32 [(0, vr 77), (1, vr 1), (2, vi x2), (3, vi x3), (5, vi x5), (6, vi x6)] [] (B0, n) := by
  refine r_iload dX10_make_32 rfl ?_
  refine r_iload_n dX10_make_34 rfl rfl ?_
  obtain ⟨V1, V2⟩ := V
  refine r_jge (tgt := 136) dX10_make_35 (by decide) (fun c21 => ?_) (fun c21 => ?_)
  · have V := V1 c21
    refine r_iload dX10_make_136 rfl ?_
    exact r_iret dX10_make_138 rfl V
  · have V := V2 c21
    refine r_iconst (x := 0) dX10_make_38 rfl (by decide) ?_
    refine r_istore (ls' := [(0, vr 77), (1, vr 1), (2, vi x2), (3, vi x3), (5, vi x5), (6, vi x6), (7, vi 0)]) dX10_make_39 (by decide) rfl ?_
    exact V

theorem gX10_make_41 {w : WD} {d : Nat} {G : GM} {Q : Option AV → Hp → Prop} {n : NM} {x2 x3 x5 x6 x7 : Int}
    (V :
    (Ev w d 0 0 mX7_size [vr 10] (B0, n) (fun r h' => ∃ (x22 : Int) (n21 : NM), r = some (vi x22) ∧ h' = (B0, n21) ∧ 
      ((x22 ≤ x7 →
        (inI (x6 + 1)) ∧
        Rn w mX10_make (d + 1) G Q 32 [(0, vr 77), (1, vr 1), (2, vi x2), (3, vi x3), (5, vi x5), (6, vi (x6 + 1))] [] (B0, n21)) ∧
      (x7 < x22 →
        (Ev w d 0 0 mX7_get [vr 10, vi x7, vi 0] (B0, n21) (fun r h' => ∃ (x26 : Int) (n25 : NM), r = some (vi x26) ∧ h' = (B0, n25) ∧ 
          (Ev w d 0 0 mX10_draw [vr 77, vi 100] (B0, n25) (fun r h' => ∃ (x28 : Int) (n27 : NM), r = some (vi x28) ∧ h' = (B0, n27) ∧ 
            (Ev w d 0 0 mX7_get [vr 2, vi x6, vi 2] (B0, n27) (fun r h' => ∃ (x30 : Int) (n29 : NM), r = some (vi x30) ∧ h' = (B0, n29) ∧ 
              (inI (x26 + x30)) ∧
              ((x26 + x30 ≤ x28 →
                (inI (x7 + 1)) ∧
                Rn w mX10_make (d + 1) G Q 41 [(0, vr 77), (1, vr 1), (2, vi x2), (3, vi x3), (5, vi x5), (6, vi x6), (7, vi (x7 + 1))] [] (B0, n29)) ∧
              (x28 < x26 + x30 →
                (inI (x5 + 1)) ∧
                (Ev w d 0 0 mX10_look [vr 77, vr 1, vi x2, vi x6] (B0, n29) (fun r h' => ∃ (x36 : Int) (n35 : NM), r = some (vi x36) ∧ h' = (B0, n35) ∧ 
                  (Ev w d 0 0 mX7_get [vr 78, vi x7, vi x36] (B0, n35) (fun r h' => ∃ (x38 : Int) (n37 : NM), r = some (vi x38) ∧ h' = (B0, n37) ∧ 
                    (inI (x38 + 1)) ∧
                    (Ev w d 0 0 mX7_set [vr 78, vi x7, vi x36, vi (x38 + 1)] (B0, n37) (fun r h' => ∃ n40 : NM, r = none ∧ h' = (B0, n40) ∧ 
                      (inI (x7 + 1)) ∧
                      Rn w mX10_make (d + 1) G Q 41 [(0, vr 77), (1, vr 1), (2, vi x2), (3, vi x3), (5, vi (x5 + 1)), (6, vi x6), (7, vi (x7 + 1))] [] (B0, n40)))))))))))))))))))) :
    Rn w mX10_make (d + 1) G Q 41 [(0, vr 77), (1, vr 1), (2, vi x2), (3, vi x3), (5, vi x5), (6, vi x6), (7, vi x7)] [] (B0, n) := by
  refine r_iload dX10_make_41 rfl ?_
  refine r_aload_n dX10_make_43 rfl rfl ?_
  refine r_getR (b := 10) dX10_make_44 fX10_28 ob_1 (by decide) rfl rfl ?_
  refine r_callV (args := []) dX10_make_47 kX10_33 ob_10 ⟨_, _, rfl⟩ (by decide) rfl rfl (Nat.le_of_ble_eq_true rfl) cap0 (Ev.mono V ?_)
  rintro r h' ⟨x22, n21, rfl, rfl, V⟩
  show Rn w mX10_make (d + 1) G Q 50 [(0, vr 77), (1, vr 1), (2, vi x2), (3, vi x3), (5, vi x5), (6, vi x6), (7, vi x7)] [vi x22, vi x7] (B0, n21)
  obtain ⟨V1, V2⟩ := V
  refine r_jge (tgt := 130) dX10_make_50 (by decide) (fun c23 => ?_) (fun c23 => ?_)
  · have V := V1 c23
    obtain ⟨s24, V⟩ := V
    refine r_iinc (y := x6 + 1) (ls' := [(0, vr 77), (1, vr 1), (2, vi x2), (3, vi x3), (5, vi x5), (6, vi (x6 + 1)), (7, vi x7)]) dX10_make_130 rfl rfl s24 (by decide) rfl ?_
    refine r_goto (tgt := 32) dX10_make_133 (by decide) ?_
    refine r_pick [0, 1, 2, 3, 4, 5] (ls' := [(0, vr 77), (1, vr 1), (2, vi x2), (3, vi x3), (5, vi x5), (6, vi (x6 + 1))]) rfl ?_
    exact V
  · have V := V2 c23
    refine r_aload_n dX10_make_53 rfl rfl ?_
    refine r_getR (b := 10) dX10_make_54 fX10_28 ob_1 (by decide) rfl rfl ?_
    refine r_iload dX10_make_57 rfl ?_
    refine r_iconst (x := 0) dX10_make_59 rfl (by decide) ?_
    refine r_callV (args := [vi x7, vi 0]) dX10_make_60 kX10_40 ob_10 ⟨_, _, rfl⟩ (by decide) rfl rfl (Nat.le_of_ble_eq_true rfl) cap0 (Ev.mono V ?_)
    rintro r h' ⟨x26, n25, rfl, rfl, V⟩
    show Rn w mX10_make (d + 1) G Q 63 [(0, vr 77), (1, vr 1), (2, vi x2), (3, vi x3), (5, vi x5), (6, vi x6), (7, vi x7)] [vi x26] (B0, n25)
    refine r_istore (ls' := [(0, vr 77), (1, vr 1), (2, vi x2), (3, vi x3), (5, vi x5), (6, vi x6), (7, vi x7), (8, vi x26)]) dX10_make_63 (by decide) rfl ?_
    refine r_aload_n dX10_make_65 rfl rfl ?_
    refine r_bipush (x := 100) dX10_make_66 (by decide +kernel) (by decide) ?_
    refine r_callV (args := [vi 100]) dX10_make_68 kX10_44 ob_77 ⟨_, _, rfl⟩ (by decide) rfl rfl (Nat.le_of_ble_eq_true rfl) cap0 (Ev.mono V ?_)
    rintro r h' ⟨x28, n27, rfl, rfl, V⟩
    show Rn w mX10_make (d + 1) G Q 71 [(0, vr 77), (1, vr 1), (2, vi x2), (3, vi x3), (5, vi x5), (6, vi x6), (7, vi x7), (8, vi x26)] [vi x28] (B0, n27)
    refine r_iload dX10_make_71 rfl ?_
    refine r_aload_n dX10_make_73 rfl rfl ?_
    refine r_getR (b := 2) dX10_make_74 fX10_48 ob_1 (by decide) rfl rfl ?_
    refine r_iload dX10_make_77 rfl ?_
    refine r_iconst (x := 2) dX10_make_79 rfl (by decide) ?_
    refine r_callV (args := [vi x6, vi 2]) dX10_make_80 kX10_40 ob_2 ⟨_, _, rfl⟩ (by decide) rfl rfl (Nat.le_of_ble_eq_true rfl) cap0 (Ev.mono V ?_)
    rintro r h' ⟨x30, n29, rfl, rfl, V⟩
    show Rn w mX10_make (d + 1) G Q 83 [(0, vr 77), (1, vr 1), (2, vi x2), (3, vi x3), (5, vi x5), (6, vi x6), (7, vi x7), (8, vi x26)] [vi x30, vi x26, vi x28] (B0, n29)
    obtain ⟨s31, V⟩ := V
    refine r_iadd dX10_make_83 s31 ?_
    obtain ⟨V1, V2⟩ := V
    refine r_jge (tgt := 124) dX10_make_84 (by decide) (fun c32 => ?_) (fun c32 => ?_)
    · have V := V1 c32
      obtain ⟨s33, V⟩ := V
      refine r_iinc (y := x7 + 1) (ls' := [(0, vr 77), (1, vr 1), (2, vi x2), (3, vi x3), (5, vi x5), (6, vi x6), (7, vi (x7 + 1)), (8, vi x26)]) dX10_make_124 rfl rfl s33 (by decide) rfl ?_
      refine r_goto (tgt := 41) dX10_make_127 (by decide) ?_
      refine r_pick [0, 1, 2, 3, 4, 5, 6] (ls' := [(0, vr 77), (1, vr 1), (2, vi x2), (3, vi x3), (5, vi x5), (6, vi x6), (7, vi (x7 + 1))]) rfl ?_
      exact V
    · have V := V2 c32
      obtain ⟨s34, V⟩ := V
      refine r_iinc (y := x5 + 1) (ls' := [(0, vr 77), (1, vr 1), (2, vi x2), (3, vi x3), (5, vi (x5 + 1)), (6, vi x6), (7, vi x7), (8, vi x26)]) dX10_make_87 rfl rfl s34 (by decide) rfl ?_
      refine r_aload_n dX10_make_90 rfl rfl ?_
      refine r_aload_n dX10_make_91 rfl rfl ?_
      refine r_iload_n dX10_make_92 rfl rfl ?_
      refine r_iload dX10_make_93 rfl ?_
      refine r_callV (args := [vr 1, vi x2, vi x6]) dX10_make_95 kX10_51 ob_77 ⟨_, _, rfl⟩ (by decide) rfl rfl (Nat.le_of_ble_eq_true rfl) cap0 (Ev.mono V ?_)
      rintro r h' ⟨x36, n35, rfl, rfl, V⟩
      show Rn w mX10_make (d + 1) G Q 98 [(0, vr 77), (1, vr 1), (2, vi x2), (3, vi x3), (5, vi (x5 + 1)), (6, vi x6), (7, vi x7), (8, vi x26)] [vi x36] (B0, n35)
      refine r_istore (ls' := [(0, vr 77), (1, vr 1), (2, vi x2), (3, vi x3), (5, vi (x5 + 1)), (6, vi x6), (7, vi x7), (8, vi x26), (9, vi x36)]) dX10_make_98 (by decide) rfl ?_
      refine r_aload_n dX10_make_100 rfl rfl ?_
      refine r_getR (b := 78) dX10_make_101 fX10_14 ob_77 (by decide) rfl rfl ?_
      refine r_iload dX10_make_104 rfl ?_
      refine r_iload dX10_make_106 rfl ?_
      refine r_aload_n dX10_make_108 rfl rfl ?_
      refine r_getR (b := 78) dX10_make_109 fX10_14 ob_77 (by decide) rfl rfl ?_
      refine r_iload dX10_make_112 rfl ?_
      refine r_iload dX10_make_114 rfl ?_
      refine r_callV (args := [vi x7, vi x36]) dX10_make_116 kX10_40 ob_78 ⟨_, _, rfl⟩ (by decide) rfl rfl (Nat.le_of_ble_eq_true rfl) cap0 (Ev.mono V ?_)
      rintro r h' ⟨x38, n37, rfl, rfl, V⟩
      show Rn w mX10_make (d + 1) G Q 119 [(0, vr 77), (1, vr 1), (2, vi x2), (3, vi x3), (5, vi (x5 + 1)), (6, vi x6), (7, vi x7), (8, vi x26), (9, vi x36)] [vi x38, vi x36, vi x7, vr 78] (B0, n37)
      refine r_iconst (x := 1) dX10_make_119 rfl (by decide) ?_
      obtain ⟨s39, V⟩ := V
      refine r_iadd dX10_make_120 s39 ?_
      refine r_callV (args := [vi x7, vi x36, vi (x38 + 1)]) dX10_make_121 kX10_55 ob_78 ⟨_, _, rfl⟩ (by decide) rfl rfl (Nat.le_of_ble_eq_true rfl) cap0 (Ev.mono V ?_)
      rintro r h' ⟨n40, rfl, rfl, V⟩
      show Rn w mX10_make (d + 1) G Q 124 [(0, vr 77), (1, vr 1), (2, vi x2), (3, vi x3), (5, vi (x5 + 1)), (6, vi x6), (7, vi x7), (8, vi x26), (9, vi x36)] [] (B0, n40)
      obtain ⟨s41, V⟩ := V
      refine r_iinc (y := x7 + 1) (ls' := [(0, vr 77), (1, vr 1), (2, vi x2), (3, vi x3), (5, vi (x5 + 1)), (6, vi x6), (7, vi (x7 + 1)), (8, vi x26), (9, vi x36)]) dX10_make_124 rfl rfl s41 (by decide) rfl ?_
      refine r_goto (tgt := 41) dX10_make_127 (by decide) ?_
      refine r_pick [0, 1, 2, 3, 4, 5, 6] (ls' := [(0, vr 77), (1, vr 1), (2, vi x2), (3, vi x3), (5, vi (x5 + 1)), (6, vi x6), (7, vi (x7 + 1))]) rfl ?_
      exact V

theorem gX10_seenBy_0 {w : WD} {d : Nat} {G : GM} {Q : Option AV → Hp → Prop} {n : NM} {x1 x2 : Int}
    (V :
    (Ev w d 0 0 mX7_holds [vr 78, vi x1] (B0, n) (fun r h' => ∃ (x22 : Int) (n21 : NM), r = some (vi x22) ∧ h' = (B0, n21) ∧ 
      ((x22 = 0 →
        Q (some (vi (-1))) (B0, n21)) ∧
      (x22 ≠ 0 →
        (Ev w d 0 0 mX7_get [vr 78, vi x1, vi x2] (B0, n21) (fun r h' => ∃ (x25 : Int) (n24 : NM), r = some (vi x25) ∧ h' = (B0, n24) ∧ 
          Q (some (vi x25)) (B0, n24)))))))) :
    Rn w mX10_seenBy (d + 1) G Q 0 [(0, vr 77), (1, vi x1), (2, vi x2)] [] (B0, n) := by
  refine r_aload_n dX10_seenBy_0 rfl rfl ?_
  refine r_getR (b := 78) dX10_seenBy_1 fX10_14 ob_77 (by decide) rfl rfl ?_
  refine r_iload_n dX10_seenBy_4 rfl rfl ?_
  refine r_callV (args := [vi x1]) dX10_seenBy_5 kX10_59 ob_78 ⟨_, _, rfl⟩ (by decide) rfl rfl (Nat.le_of_ble_eq_true rfl) cap0 (Ev.mono V ?_)
  rintro r h' ⟨x22, n21, rfl, rfl, V⟩
  show Rn w mX10_seenBy (d + 1) G Q 8 [(0, vr 77), (1, vi x1), (2, vi x2)] [vi x22] (B0, n21)
  obtain ⟨V1, V2⟩ := V
  refine r_zeq (tgt := 23) dX10_seenBy_8 (by decide) (fun c23 => ?_) (fun c23 => ?_)
  · have V := V1 c23
    refine r_iconst (x := -1) dX10_seenBy_23 rfl (by decide) ?_
    exact r_iret dX10_seenBy_24 rfl V
  · have V := V2 c23
    refine r_aload_n dX10_seenBy_11 rfl rfl ?_
    refine r_getR (b := 78) dX10_seenBy_12 fX10_14 ob_77 (by decide) rfl rfl ?_
    refine r_iload_n dX10_seenBy_15 rfl rfl ?_
    refine r_iload_n dX10_seenBy_16 rfl rfl ?_
    refine r_callV (args := [vi x1, vi x2]) dX10_seenBy_17 kX10_40 ob_78 ⟨_, _, rfl⟩ (by decide) rfl rfl (Nat.le_of_ble_eq_true rfl) cap0 (Ev.mono V ?_)
    rintro r h' ⟨x25, n24, rfl, rfl, V⟩
    show Rn w mX10_seenBy (d + 1) G Q 20 [(0, vr 77), (1, vi x1), (2, vi x2)] [vi x25] (B0, n24)
    refine r_goto (tgt := 24) dX10_seenBy_20 (by decide) ?_
    exact r_iret dX10_seenBy_24 rfl V

theorem gX10_seenByAll_0 {w : WD} {d : Nat} {G : GM} {Q : Option AV → Hp → Prop} {n : NM} {x1 : Int}
    (V :
    Rn w mX10_seenByAll d G Q 4 [(0, vr 77), (1, vi x1), (2, vi 0), (3, vi 0)] [] (B0, n)) :
    Rn w mX10_seenByAll d G Q 0 [(0, vr 77), (1, vi x1)] [] (B0, n) := by
  refine r_iconst (x := 0) dX10_seenByAll_0 rfl (by decide) ?_
  refine r_istore_n (ls' := [(0, vr 77), (1, vi x1), (2, vi 0)]) dX10_seenByAll_1 rfl (by decide) rfl ?_
  refine r_iconst (x := 0) dX10_seenByAll_2 rfl (by decide) ?_
  refine r_istore_n (ls' := [(0, vr 77), (1, vi x1), (2, vi 0), (3, vi 0)]) dX10_seenByAll_3 rfl (by decide) rfl ?_
  exact V

theorem gX10_seenByAll_4 {w : WD} {d : Nat} {G : GM} {Q : Option AV → Hp → Prop} {n : NM} {x1 x2 x3 : Int}
    (V :
    (Ev w d 0 0 mX7_size [vr 78] (B0, n) (fun r h' => ∃ (x22 : Int) (n21 : NM), r = some (vi x22) ∧ h' = (B0, n21) ∧ 
      ((x22 ≤ x3 →
        ((n21 77 1 = 0 →
          Q (some (vi (-1))) (B0, n21)) ∧
        (n21 77 1 ≠ 0 →
          Q (some (vi x2)) (B0, n21)))) ∧
      (x3 < x22 →
        (Ev w d 0 0 mX7_get [vr 78, vi x3, vi x1] (B0, n21) (fun r h' => ∃ (x26 : Int) (n25 : NM), r = some (vi x26) ∧ h' = (B0, n25) ∧ 
          (inI (x2 + x26)) ∧
          (inI (x3 + 1)) ∧
          Rn w mX10_seenByAll (d + 1) G Q 4 [(0, vr 77), (1, vi x1), (2, vi (x2 + x26)), (3, vi (x3 + 1))] [] (B0, n25)))))))) :
    Rn w mX10_seenByAll (d + 1) G Q 4 [(0, vr 77), (1, vi x1), (2, vi x2), (3, vi x3)] [] (B0, n) := by
  refine r_iload_n dX10_seenByAll_4 rfl rfl ?_
  refine r_aload_n dX10_seenByAll_5 rfl rfl ?_
  refine r_getR (b := 78) dX10_seenByAll_6 fX10_14 ob_77 (by decide) rfl rfl ?_
  refine r_callV (args := []) dX10_seenByAll_9 kX10_33 ob_78 ⟨_, _, rfl⟩ (by decide) rfl rfl (Nat.le_of_ble_eq_true rfl) cap0 (Ev.mono V ?_)
  rintro r h' ⟨x22, n21, rfl, rfl, V⟩
  show Rn w mX10_seenByAll (d + 1) G Q 12 [(0, vr 77), (1, vi x1), (2, vi x2), (3, vi x3)] [vi x22, vi x3] (B0, n21)
  obtain ⟨V1, V2⟩ := V
  refine r_jge (tgt := 33) dX10_seenByAll_12 (by decide) (fun c23 => ?_) (fun c23 => ?_)
  · have V := V1 c23
    refine r_aload_n dX10_seenByAll_33 rfl rfl ?_
    refine r_getI (fi := 1) dX10_seenByAll_34 fX10_20 ob_77 (by decide) (by decide) rfl ?_
    obtain ⟨V1, V2⟩ := V
    refine r_zeq (tgt := 44) dX10_seenByAll_37 (by decide) (fun c24 => ?_) (fun c24 => ?_)
    · have V := V1 c24
      refine r_iconst (x := -1) dX10_seenByAll_44 rfl (by decide) ?_
      exact r_iret dX10_seenByAll_45 rfl V
    · have V := V2 c24
      refine r_iload_n dX10_seenByAll_40 rfl rfl ?_
      refine r_goto (tgt := 45) dX10_seenByAll_41 (by decide) ?_
      exact r_iret dX10_seenByAll_45 rfl V
  · have V := V2 c23
    refine r_iload_n dX10_seenByAll_15 rfl rfl ?_
    refine r_aload_n dX10_seenByAll_16 rfl rfl ?_
    refine r_getR (b := 78) dX10_seenByAll_17 fX10_14 ob_77 (by decide) rfl rfl ?_
    refine r_iload_n dX10_seenByAll_20 rfl rfl ?_
    refine r_iload_n dX10_seenByAll_21 rfl rfl ?_
    refine r_callV (args := [vi x3, vi x1]) dX10_seenByAll_22 kX10_40 ob_78 ⟨_, _, rfl⟩ (by decide) rfl rfl (Nat.le_of_ble_eq_true rfl) cap0 (Ev.mono V ?_)
    rintro r h' ⟨x26, n25, rfl, rfl, V⟩
    show Rn w mX10_seenByAll (d + 1) G Q 25 [(0, vr 77), (1, vi x1), (2, vi x2), (3, vi x3)] [vi x26, vi x2] (B0, n25)
    obtain ⟨s27, V⟩ := V
    refine r_iadd dX10_seenByAll_25 s27 ?_
    refine r_istore_n (ls' := [(0, vr 77), (1, vi x1), (2, vi (x2 + x26)), (3, vi x3)]) dX10_seenByAll_26 rfl (by decide) rfl ?_
    obtain ⟨s28, V⟩ := V
    refine r_iinc (y := x3 + 1) (ls' := [(0, vr 77), (1, vi x1), (2, vi (x2 + x26)), (3, vi (x3 + 1))]) dX10_seenByAll_27 rfl rfl s28 (by decide) rfl ?_
    refine r_goto (tgt := 4) dX10_seenByAll_30 (by decide) ?_
    exact V

theorem gX10_look_0 {w : WD} {d : Nat} {G : GM} {Q : Option AV → Hp → Prop} {n : NM} {x2 x3 : Int}
    (V :
    (Ev w d 0 0 mX10_draw [vr 77, vi 1000] (B0, n) (fun r h' => ∃ (x22 : Int) (n21 : NM), r = some (vi x22) ∧ h' = (B0, n21) ∧ 
      (Ev w d 0 0 mX7_get [vr 21, vi x2, vi 1] (B0, n21) (fun r h' => ∃ (x24 : Int) (n23 : NM), r = some (vi x24) ∧ h' = (B0, n23) ∧ 
        (Ev w d 0 0 mX7_get [vr 21, vi x2, vi 2] (B0, n23) (fun r h' => ∃ (x26 : Int) (n25 : NM), r = some (vi x26) ∧ h' = (B0, n25) ∧ 
          (inI (x24 * x26)) ∧
          ((x24 * x26 ≤ x22 →
            (Ev w d 0 0 mX1_hasBoatOn [vr 1, vi x3] (B0, n25) (fun r h' => ∃ (x30 : Int) (n29 : NM), r = some (vi x30) ∧ h' = (B0, n29) ∧ 
              ((x30 = 0 →
                Q (some (vi 2)) (B0, n29)) ∧
              (x30 ≠ 0 →
                (Ev w d 0 0 mX10_draw [vr 77, vi 10] (B0, n29) (fun r h' => ∃ (x33 : Int) (n32 : NM), r = some (vi x33) ∧ h' = (B0, n32) ∧ 
                  (Ev w d 0 0 mX7_get [vr 2, vi x3, vi 0] (B0, n32) (fun r h' => ∃ (x35 : Int) (n34 : NM), r = some (vi x35) ∧ h' = (B0, n34) ∧ 
                    ((x33 ≤ x35 →
                      Q (some (vi 2)) (B0, n34)) ∧
                    (x35 < x33 →
                      Q (some (vi 1)) (B0, n34)))))))))))) ∧
          (x22 < x24 * x26 →
            Q (some (vi 0)) (B0, n25)))))))))) :
    Rn w mX10_look (d + 1) G Q 0 [(0, vr 77), (1, vr 1), (2, vi x2), (3, vi x3)] [] (B0, n) := by
  refine r_aload_n dX10_look_0 rfl rfl ?_
  refine r_sipush (x := 1000) dX10_look_1 (by decide +kernel) (by decide) ?_
  refine r_callV (args := [vi 1000]) dX10_look_4 kX10_44 ob_77 ⟨_, _, rfl⟩ (by decide) rfl rfl (Nat.le_of_ble_eq_true rfl) cap0 (Ev.mono V ?_)
  rintro r h' ⟨x22, n21, rfl, rfl, V⟩
  show Rn w mX10_look (d + 1) G Q 7 [(0, vr 77), (1, vr 1), (2, vi x2), (3, vi x3)] [vi x22] (B0, n21)
  refine r_aload_n dX10_look_7 rfl rfl ?_
  refine r_getR (b := 21) dX10_look_8 fX10_63 ob_1 (by decide) rfl rfl ?_
  refine r_iload_n dX10_look_11 rfl rfl ?_
  refine r_iconst (x := 1) dX10_look_12 rfl (by decide) ?_
  refine r_callV (args := [vi x2, vi 1]) dX10_look_13 kX10_40 ob_21 ⟨_, _, rfl⟩ (by decide) rfl rfl (Nat.le_of_ble_eq_true rfl) cap0 (Ev.mono V ?_)
  rintro r h' ⟨x24, n23, rfl, rfl, V⟩
  show Rn w mX10_look (d + 1) G Q 16 [(0, vr 77), (1, vr 1), (2, vi x2), (3, vi x3)] [vi x24, vi x22] (B0, n23)
  refine r_aload_n dX10_look_16 rfl rfl ?_
  refine r_getR (b := 21) dX10_look_17 fX10_63 ob_1 (by decide) rfl rfl ?_
  refine r_iload_n dX10_look_20 rfl rfl ?_
  refine r_iconst (x := 2) dX10_look_21 rfl (by decide) ?_
  refine r_callV (args := [vi x2, vi 2]) dX10_look_22 kX10_40 ob_21 ⟨_, _, rfl⟩ (by decide) rfl rfl (Nat.le_of_ble_eq_true rfl) cap0 (Ev.mono V ?_)
  rintro r h' ⟨x26, n25, rfl, rfl, V⟩
  show Rn w mX10_look (d + 1) G Q 25 [(0, vr 77), (1, vr 1), (2, vi x2), (3, vi x3)] [vi x26, vi x24, vi x22] (B0, n25)
  obtain ⟨s27, V⟩ := V
  refine r_imul dX10_look_25 s27 ?_
  obtain ⟨V1, V2⟩ := V
  refine r_jge (tgt := 31) dX10_look_26 (by decide) (fun c28 => ?_) (fun c28 => ?_)
  · have V := V1 c28
    refine r_aload_n dX10_look_31 rfl rfl ?_
    refine r_iload_n dX10_look_32 rfl rfl ?_
    refine r_callV (args := [vi x3]) dX10_look_33 kX10_66 ob_1 ⟨_, _, rfl⟩ (by decide) rfl rfl (Nat.le_of_ble_eq_true rfl) cap0 (Ev.mono V ?_)
    rintro r h' ⟨x30, n29, rfl, rfl, V⟩
    show Rn w mX10_look (d + 1) G Q 36 [(0, vr 77), (1, vr 1), (2, vi x2), (3, vi x3)] [vi x30] (B0, n29)
    obtain ⟨V1, V2⟩ := V
    refine r_zeq (tgt := 59) dX10_look_36 (by decide) (fun c31 => ?_) (fun c31 => ?_)
    · have V := V1 c31
      refine r_iconst (x := 2) dX10_look_59 rfl (by decide) ?_
      exact r_iret dX10_look_60 rfl V
    · have V := V2 c31
      refine r_aload_n dX10_look_39 rfl rfl ?_
      refine r_bipush (x := 10) dX10_look_40 (by decide +kernel) (by decide) ?_
      refine r_callV (args := [vi 10]) dX10_look_42 kX10_44 ob_77 ⟨_, _, rfl⟩ (by decide) rfl rfl (Nat.le_of_ble_eq_true rfl) cap0 (Ev.mono V ?_)
      rintro r h' ⟨x33, n32, rfl, rfl, V⟩
      show Rn w mX10_look (d + 1) G Q 45 [(0, vr 77), (1, vr 1), (2, vi x2), (3, vi x3)] [vi x33] (B0, n32)
      refine r_aload_n dX10_look_45 rfl rfl ?_
      refine r_getR (b := 2) dX10_look_46 fX10_48 ob_1 (by decide) rfl rfl ?_
      refine r_iload_n dX10_look_49 rfl rfl ?_
      refine r_iconst (x := 0) dX10_look_50 rfl (by decide) ?_
      refine r_callV (args := [vi x3, vi 0]) dX10_look_51 kX10_40 ob_2 ⟨_, _, rfl⟩ (by decide) rfl rfl (Nat.le_of_ble_eq_true rfl) cap0 (Ev.mono V ?_)
      rintro r h' ⟨x35, n34, rfl, rfl, V⟩
      show Rn w mX10_look (d + 1) G Q 54 [(0, vr 77), (1, vr 1), (2, vi x2), (3, vi x3)] [vi x35, vi x33] (B0, n34)
      obtain ⟨V1, V2⟩ := V
      refine r_jle (tgt := 59) dX10_look_54 (by decide) (fun c36 => ?_) (fun c36 => ?_)
      · have V := V1 c36
        refine r_iconst (x := 2) dX10_look_59 rfl (by decide) ?_
        exact r_iret dX10_look_60 rfl V
      · have V := V2 c36
        refine r_iconst (x := 1) dX10_look_57 rfl (by decide) ?_
        exact r_iret dX10_look_58 rfl V
  · have V := V2 c28
    refine r_iconst (x := 0) dX10_look_29 rfl (by decide) ?_
    exact r_iret dX10_look_30 rfl V

theorem gX10_draw_0 {w : WD} {d : Nat} {G : GM} {Q : Option AV → Hp → Prop} {n : NM} {x1 : Int}
    (V :
    (inI ((n 77 2) * 1103)) ∧
    (inI (((n 77 2) * 1103) + 12345)) ∧
    (0 ≤ ((n 77 2) * 1103) + 12345) ∧
    ((x1 ≤ 0 →
      Q (some (vi 0)) (B0, upn n 77 2 ((((n 77 2) * 1103) + 12345) % 1000003))) ∧
    (0 < x1 →
      (0 ≤ (((n 77 2) * 1103) + 12345) % 1000003) ∧
      (0 < x1) ∧
      Q (some (vi (((((n 77 2) * 1103) + 12345) % 1000003) % x1))) (B0, upn n 77 2 ((((n 77 2) * 1103) + 12345) % 1000003))))) :
    Rn w mX10_draw d G Q 0 [(0, vr 77), (1, vi x1)] [] (B0, n) := by
  refine r_aload_n dX10_draw_0 rfl rfl ?_
  refine r_aload_n dX10_draw_1 rfl rfl ?_
  refine r_getI (fi := 2) dX10_draw_2 fX10_24 ob_77 (by decide) (by decide) rfl ?_
  refine r_sipush (x := 1103) dX10_draw_5 (by decide +kernel) (by decide) ?_
  obtain ⟨s21, V⟩ := V
  refine r_imul dX10_draw_8 s21 ?_
  refine r_sipush (x := 12345) dX10_draw_9 (by decide +kernel) (by decide) ?_
  obtain ⟨s22, V⟩ := V
  refine r_iadd dX10_draw_12 s22 ?_
  refine r_ldc (x := 1000003) dX10_draw_13 qX10_69 (by decide) ?_
  obtain ⟨s23, V⟩ := V
  refine r_irem dX10_draw_15 s23 (by decide) ?_
  refine r_putI (fi := 2) (h' := (B0, upn n 77 2 ((((n 77 2) * 1103) + 12345) % 1000003))) dX10_draw_16 pX10_24 ob_77 (by decide) rfl rfl rfl ?_
  refine r_iload_n dX10_draw_19 rfl rfl ?_
  obtain ⟨V1, V2⟩ := V
  refine r_zle (tgt := 32) dX10_draw_20 (by decide) (fun c24 => ?_) (fun c24 => ?_)
  · have V := V1 c24
    refine r_iconst (x := 0) dX10_draw_32 rfl (by decide) ?_
    exact r_iret dX10_draw_33 rfl V
  · have V := V2 c24
    refine r_aload_n dX10_draw_23 rfl rfl ?_
    refine r_getI (fi := 2) dX10_draw_24 fX10_24 ob_77 (by decide) (by decide) rfl ?_
    show Rn w mX10_draw d G Q 27 [(0, vr 77), (1, vi x1)] [vi ((((n 77 2) * 1103) + 12345) % 1000003)] (B0, upn n 77 2 ((((n 77 2) * 1103) + 12345) % 1000003))
    refine r_iload_n dX10_draw_27 rfl rfl ?_
    obtain ⟨s25, V⟩ := V
    obtain ⟨s26, V⟩ := V
    refine r_irem dX10_draw_28 s25 s26 ?_
    refine r_goto (tgt := 33) dX10_draw_29 (by decide) ?_
    exact r_iret dX10_draw_33 rfl V
theorem gX11_day_0 {w : WD} {d : Nat} {G : GM} {Q : Option AV → Hp → Prop} {n : NM} {x1 x2 x3 : Int}
    (V :
    (Ev w d 0 0 mX11_within [vi x1, vi 0, vi 59] (B0, n) (fun r h' => ∃ (x22 : Int) (n21 : NM), r = some (vi x22) ∧ h' = (B0, n21) ∧ 
      ((x22 = 0 →
        (Ev w d 0 0 mX11_refuse [vr 0, vi (-1)] (B0, n21) (fun r h' => ∃ (x25 : Int) (n24 : NM), r = some (vi x25) ∧ h' = (B0, n24) ∧ 
          Q (some (vi x25)) (B0, n24)))) ∧
      (x22 ≠ 0 →
        (Ev w d 0 0 mX11_within [vi x2, vi 0, vi 2] (B0, n21) (fun r h' => ∃ (x27 : Int) (n26 : NM), r = some (vi x27) ∧ h' = (B0, n26) ∧ 
          ((x27 = 0 →
            (Ev w d 0 0 mX11_refuse [vr 0, vi (-1)] (B0, n26) (fun r h' => ∃ (x30 : Int) (n29 : NM), r = some (vi x30) ∧ h' = (B0, n29) ∧ 
              Q (some (vi x30)) (B0, n29)))) ∧
          (x27 ≠ 0 →
            (Ev w d 0 0 mX11_within [vi x3, vi 0, vi 9] (B0, n26) (fun r h' => ∃ (x32 : Int) (n31 : NM), r = some (vi x32) ∧ h' = (B0, n31) ∧ 
              ((x32 ≠ 0 →
                (Ev w d 0 0 mX7_exchange [vr 2, vi x1, vi x2, vi x3] (B0, n31) (fun r h' => ∃ (x35 : Int) (n34 : NM), r = some (vi x35) ∧ h' = (B0, n34) ∧ 
                  (Ev w d 0 0 mX11_accept [vr 0, vi x35] (B0, n34) (fun r h' => ∃ (x37 : Int) (n36 : NM), r = some (vi x37) ∧ h' = (B0, n36) ∧ 
                    Q (some (vi x37)) (B0, n36)))))) ∧
              (x32 = 0 →
                (Ev w d 0 0 mX11_refuse [vr 0, vi (-1)] (B0, n31) (fun r h' => ∃ (x39 : Int) (n38 : NM), r = some (vi x39) ∧ h' = (B0, n38) ∧ 
                  Q (some (vi x39)) (B0, n38)))))))))))))))) :
    Rn w mX11_day (d + 1) G Q 0 [(0, vr 0), (1, vi x1), (2, vi x2), (3, vi x3)] [] (B0, n) := by
  refine r_iload_n dX11_day_0 rfl rfl ?_
  refine r_iconst (x := 0) dX11_day_1 rfl (by decide) ?_
  refine r_bipush (x := 59) dX11_day_2 (by decide +kernel) (by decide) ?_
  refine r_callS (args := [vi x1, vi 0, vi 59]) dX11_day_4 kX11_80 rfl rfl (Nat.le_of_ble_eq_true rfl) cap0 (Ev.mono V ?_)
  rintro r h' ⟨x22, n21, rfl, rfl, V⟩
  show Rn w mX11_day (d + 1) G Q 7 [(0, vr 0), (1, vi x1), (2, vi x2), (3, vi x3)] [vi x22] (B0, n21)
  obtain ⟨V1, V2⟩ := V
  refine r_zeq (tgt := 29) dX11_day_7 (by decide) (fun c23 => ?_) (fun c23 => ?_)
  · have V := V1 c23
    refine r_aload_n dX11_day_29 rfl rfl ?_
    refine r_iconst (x := -1) dX11_day_30 rfl (by decide) ?_
    refine r_callV (args := [vi (-1)]) dX11_day_31 kX11_84 ob_0 ⟨_, _, rfl⟩ (by decide) rfl rfl (Nat.le_of_ble_eq_true rfl) cap0 (Ev.mono V ?_)
    rintro r h' ⟨x25, n24, rfl, rfl, V⟩
    show Rn w mX11_day (d + 1) G Q 34 [(0, vr 0), (1, vi x1), (2, vi x2), (3, vi x3)] [vi x25] (B0, n24)
    exact r_iret dX11_day_34 rfl V
  · have V := V2 c23
    refine r_iload_n dX11_day_10 rfl rfl ?_
    refine r_iconst (x := 0) dX11_day_11 rfl (by decide) ?_
    refine r_iconst (x := 2) dX11_day_12 rfl (by decide) ?_
    refine r_callS (args := [vi x2, vi 0, vi 2]) dX11_day_13 kX11_80 rfl rfl (Nat.le_of_ble_eq_true rfl) cap0 (Ev.mono V ?_)
    rintro r h' ⟨x27, n26, rfl, rfl, V⟩
    show Rn w mX11_day (d + 1) G Q 16 [(0, vr 0), (1, vi x1), (2, vi x2), (3, vi x3)] [vi x27] (B0, n26)
    obtain ⟨V1, V2⟩ := V
    refine r_zeq (tgt := 29) dX11_day_16 (by decide) (fun c28 => ?_) (fun c28 => ?_)
    · have V := V1 c28
      refine r_aload_n dX11_day_29 rfl rfl ?_
      refine r_iconst (x := -1) dX11_day_30 rfl (by decide) ?_
      refine r_callV (args := [vi (-1)]) dX11_day_31 kX11_84 ob_0 ⟨_, _, rfl⟩ (by decide) rfl rfl (Nat.le_of_ble_eq_true rfl) cap0 (Ev.mono V ?_)
      rintro r h' ⟨x30, n29, rfl, rfl, V⟩
      show Rn w mX11_day (d + 1) G Q 34 [(0, vr 0), (1, vi x1), (2, vi x2), (3, vi x3)] [vi x30] (B0, n29)
      exact r_iret dX11_day_34 rfl V
    · have V := V2 c28
      refine r_iload_n dX11_day_19 rfl rfl ?_
      refine r_iconst (x := 0) dX11_day_20 rfl (by decide) ?_
      refine r_bipush (x := 9) dX11_day_21 (by decide +kernel) (by decide) ?_
      refine r_callS (args := [vi x3, vi 0, vi 9]) dX11_day_23 kX11_80 rfl rfl (Nat.le_of_ble_eq_true rfl) cap0 (Ev.mono V ?_)
      rintro r h' ⟨x32, n31, rfl, rfl, V⟩
      show Rn w mX11_day (d + 1) G Q 26 [(0, vr 0), (1, vi x1), (2, vi x2), (3, vi x3)] [vi x32] (B0, n31)
      obtain ⟨V1, V2⟩ := V
      refine r_zne (tgt := 35) dX11_day_26 (by decide) (fun c33 => ?_) (fun c33 => ?_)
      · have V := V1 c33
        refine r_aload_n dX11_day_35 rfl rfl ?_
        refine r_aload_n dX11_day_36 rfl rfl ?_
        refine r_getR (b := 1) dX11_day_37 fX11_10 ob_0 (by decide) rfl rfl ?_
        refine r_getR (b := 2) dX11_day_40 fX11_88 ob_1 (by decide) rfl rfl ?_
        refine r_iload_n dX11_day_43 rfl rfl ?_
        refine r_iload_n dX11_day_44 rfl rfl ?_
        refine r_iload_n dX11_day_45 rfl rfl ?_
        refine r_callV (args := [vi x1, vi x2, vi x3]) dX11_day_46 kX11_92 ob_2 ⟨_, _, rfl⟩ (by decide) rfl rfl (Nat.le_of_ble_eq_true rfl) cap0 (Ev.mono V ?_)
        rintro r h' ⟨x35, n34, rfl, rfl, V⟩
        show Rn w mX11_day (d + 1) G Q 49 [(0, vr 0), (1, vi x1), (2, vi x2), (3, vi x3)] [vi x35, vr 0] (B0, n34)
        refine r_callV (args := [vi x35]) dX11_day_49 kX11_98 ob_0 ⟨_, _, rfl⟩ (by decide) rfl rfl (Nat.le_of_ble_eq_true rfl) cap0 (Ev.mono V ?_)
        rintro r h' ⟨x37, n36, rfl, rfl, V⟩
        show Rn w mX11_day (d + 1) G Q 52 [(0, vr 0), (1, vi x1), (2, vi x2), (3, vi x3)] [vi x37] (B0, n36)
        exact r_iret dX11_day_52 rfl V
      · have V := V2 c33
        refine r_aload_n dX11_day_29 rfl rfl ?_
        refine r_iconst (x := -1) dX11_day_30 rfl (by decide) ?_
        refine r_callV (args := [vi (-1)]) dX11_day_31 kX11_84 ob_0 ⟨_, _, rfl⟩ (by decide) rfl rfl (Nat.le_of_ble_eq_true rfl) cap0 (Ev.mono V ?_)
        rintro r h' ⟨x39, n38, rfl, rfl, V⟩
        show Rn w mX11_day (d + 1) G Q 34 [(0, vr 0), (1, vi x1), (2, vi x2), (3, vi x3)] [vi x39] (B0, n38)
        exact r_iret dX11_day_34 rfl V

theorem gX11_boat_0 {w : WD} {d : Nat} {G : GM} {Q : Option AV → Hp → Prop} {n : NM} {x1 x2 x3 x4 : Int}
    (V :
    (Ev w d 0 0 mX11_within [vi x1, vi 0, vi 59] (B0, n) (fun r h' => ∃ (x22 : Int) (n21 : NM), r = some (vi x22) ∧ h' = (B0, n21) ∧ 
      ((x22 = 0 →
        (Ev w d 0 0 mX11_refuse [vr 0, vi (-1)] (B0, n21) (fun r h' => ∃ (x25 : Int) (n24 : NM), r = some (vi x25) ∧ h' = (B0, n24) ∧ 
          Q (some (vi x25)) (B0, n24)))) ∧
      (x22 ≠ 0 →
        (Ev w d 0 0 mX11_within [vi x2, vi 0, vi 1] (B0, n21) (fun r h' => ∃ (x27 : Int) (n26 : NM), r = some (vi x27) ∧ h' = (B0, n26) ∧ 
          ((x27 = 0 →
            (Ev w d 0 0 mX11_refuse [vr 0, vi (-1)] (B0, n26) (fun r h' => ∃ (x30 : Int) (n29 : NM), r = some (vi x30) ∧ h' = (B0, n29) ∧ 
              Q (some (vi x30)) (B0, n29)))) ∧
          (x27 ≠ 0 →
            (Ev w d 0 0 mX11_within [vi x3, vi 0, vi 1439] (B0, n26) (fun r h' => ∃ (x32 : Int) (n31 : NM), r = some (vi x32) ∧ h' = (B0, n31) ∧ 
              ((x32 = 0 →
                (Ev w d 0 0 mX11_refuse [vr 0, vi (-1)] (B0, n31) (fun r h' => ∃ (x35 : Int) (n34 : NM), r = some (vi x35) ∧ h' = (B0, n34) ∧ 
                  Q (some (vi x35)) (B0, n34)))) ∧
              (x32 ≠ 0 →
                (Ev w d 0 0 mX11_within [vi x4, vi 1, vi 24] (B0, n31) (fun r h' => ∃ (x37 : Int) (n36 : NM), r = some (vi x37) ∧ h' = (B0, n36) ∧ 
                  ((x37 ≠ 0 →
                    (Ev w d 0 0 mX11_addTo [vr 0, vr 4, vi x1, vi x2, vi x3, vi x4] (B0, n36) (fun r h' => ∃ (x40 : Int) (n39 : NM), r = some (vi x40) ∧ h' = (B0, n39) ∧ 
                      Q (some (vi x40)) (B0, n39)))) ∧
                  (x37 = 0 →
                    (Ev w d 0 0 mX11_refuse [vr 0, vi (-1)] (B0, n36) (fun r h' => ∃ (x42 : Int) (n41 : NM), r = some (vi x42) ∧ h' = (B0, n41) ∧ 
                      Q (some (vi x42)) (B0, n41)))))))))))))))))))) :
    Rn w mX11_boat (d + 1) G Q 0 [(0, vr 0), (1, vi x1), (2, vi x2), (3, vi x3), (4, vi x4)] [] (B0, n) := by
  refine r_iload_n dX11_boat_0 rfl rfl ?_
  refine r_iconst (x := 0) dX11_boat_1 rfl (by decide) ?_
  refine r_bipush (x := 59) dX11_boat_2 (by decide +kernel) (by decide) ?_
  refine r_callS (args := [vi x1, vi 0, vi 59]) dX11_boat_4 kX11_80 rfl rfl (Nat.le_of_ble_eq_true rfl) cap0 (Ev.mono V ?_)
  rintro r h' ⟨x22, n21, rfl, rfl, V⟩
  show Rn w mX11_boat (d + 1) G Q 7 [(0, vr 0), (1, vi x1), (2, vi x2), (3, vi x3), (4, vi x4)] [vi x22] (B0, n21)
  obtain ⟨V1, V2⟩ := V
  refine r_zeq (tgt := 41) dX11_boat_7 (by decide) (fun c23 => ?_) (fun c23 => ?_)
  · have V := V1 c23
    refine r_aload_n dX11_boat_41 rfl rfl ?_
    refine r_iconst (x := -1) dX11_boat_42 rfl (by decide) ?_
    refine r_callV (args := [vi (-1)]) dX11_boat_43 kX11_84 ob_0 ⟨_, _, rfl⟩ (by decide) rfl rfl (Nat.le_of_ble_eq_true rfl) cap0 (Ev.mono V ?_)
    rintro r h' ⟨x25, n24, rfl, rfl, V⟩
    show Rn w mX11_boat (d + 1) G Q 46 [(0, vr 0), (1, vi x1), (2, vi x2), (3, vi x3), (4, vi x4)] [vi x25] (B0, n24)
    exact r_iret dX11_boat_46 rfl V
  · have V := V2 c23
    refine r_iload_n dX11_boat_10 rfl rfl ?_
    refine r_iconst (x := 0) dX11_boat_11 rfl (by decide) ?_
    refine r_iconst (x := 1) dX11_boat_12 rfl (by decide) ?_
    refine r_callS (args := [vi x2, vi 0, vi 1]) dX11_boat_13 kX11_80 rfl rfl (Nat.le_of_ble_eq_true rfl) cap0 (Ev.mono V ?_)
    rintro r h' ⟨x27, n26, rfl, rfl, V⟩
    show Rn w mX11_boat (d + 1) G Q 16 [(0, vr 0), (1, vi x1), (2, vi x2), (3, vi x3), (4, vi x4)] [vi x27] (B0, n26)
    obtain ⟨V1, V2⟩ := V
    refine r_zeq (tgt := 41) dX11_boat_16 (by decide) (fun c28 => ?_) (fun c28 => ?_)
    · have V := V1 c28
      refine r_aload_n dX11_boat_41 rfl rfl ?_
      refine r_iconst (x := -1) dX11_boat_42 rfl (by decide) ?_
      refine r_callV (args := [vi (-1)]) dX11_boat_43 kX11_84 ob_0 ⟨_, _, rfl⟩ (by decide) rfl rfl (Nat.le_of_ble_eq_true rfl) cap0 (Ev.mono V ?_)
      rintro r h' ⟨x30, n29, rfl, rfl, V⟩
      show Rn w mX11_boat (d + 1) G Q 46 [(0, vr 0), (1, vi x1), (2, vi x2), (3, vi x3), (4, vi x4)] [vi x30] (B0, n29)
      exact r_iret dX11_boat_46 rfl V
    · have V := V2 c28
      refine r_iload_n dX11_boat_19 rfl rfl ?_
      refine r_iconst (x := 0) dX11_boat_20 rfl (by decide) ?_
      refine r_sipush (x := 1439) dX11_boat_21 (by decide +kernel) (by decide) ?_
      refine r_callS (args := [vi x3, vi 0, vi 1439]) dX11_boat_24 kX11_80 rfl rfl (Nat.le_of_ble_eq_true rfl) cap0 (Ev.mono V ?_)
      rintro r h' ⟨x32, n31, rfl, rfl, V⟩
      show Rn w mX11_boat (d + 1) G Q 27 [(0, vr 0), (1, vi x1), (2, vi x2), (3, vi x3), (4, vi x4)] [vi x32] (B0, n31)
      obtain ⟨V1, V2⟩ := V
      refine r_zeq (tgt := 41) dX11_boat_27 (by decide) (fun c33 => ?_) (fun c33 => ?_)
      · have V := V1 c33
        refine r_aload_n dX11_boat_41 rfl rfl ?_
        refine r_iconst (x := -1) dX11_boat_42 rfl (by decide) ?_
        refine r_callV (args := [vi (-1)]) dX11_boat_43 kX11_84 ob_0 ⟨_, _, rfl⟩ (by decide) rfl rfl (Nat.le_of_ble_eq_true rfl) cap0 (Ev.mono V ?_)
        rintro r h' ⟨x35, n34, rfl, rfl, V⟩
        show Rn w mX11_boat (d + 1) G Q 46 [(0, vr 0), (1, vi x1), (2, vi x2), (3, vi x3), (4, vi x4)] [vi x35] (B0, n34)
        exact r_iret dX11_boat_46 rfl V
      · have V := V2 c33
        refine r_iload dX11_boat_30 rfl ?_
        refine r_iconst (x := 1) dX11_boat_32 rfl (by decide) ?_
        refine r_bipush (x := 24) dX11_boat_33 (by decide +kernel) (by decide) ?_
        refine r_callS (args := [vi x4, vi 1, vi 24]) dX11_boat_35 kX11_80 rfl rfl (Nat.le_of_ble_eq_true rfl) cap0 (Ev.mono V ?_)
        rintro r h' ⟨x37, n36, rfl, rfl, V⟩
        show Rn w mX11_boat (d + 1) G Q 38 [(0, vr 0), (1, vi x1), (2, vi x2), (3, vi x3), (4, vi x4)] [vi x37] (B0, n36)
        obtain ⟨V1, V2⟩ := V
        refine r_zne (tgt := 47) dX11_boat_38 (by decide) (fun c38 => ?_) (fun c38 => ?_)
        · have V := V1 c38
          refine r_aload_n dX11_boat_47 rfl rfl ?_
          refine r_aload_n dX11_boat_48 rfl rfl ?_
          refine r_getR (b := 1) dX11_boat_49 fX11_10 ob_0 (by decide) rfl rfl ?_
          refine r_getR (b := 4) dX11_boat_52 fX11_101 ob_1 (by decide) rfl rfl ?_
          refine r_iload_n dX11_boat_55 rfl rfl ?_
          refine r_iload_n dX11_boat_56 rfl rfl ?_
          refine r_iload_n dX11_boat_57 rfl rfl ?_
          refine r_iload dX11_boat_58 rfl ?_
          refine r_callV (args := [vr 4, vi x1, vi x2, vi x3, vi x4]) dX11_boat_60 kX11_104 ob_0 ⟨_, _, rfl⟩ (by decide) rfl rfl (Nat.le_of_ble_eq_true rfl) cap0 (Ev.mono V ?_)
          rintro r h' ⟨x40, n39, rfl, rfl, V⟩
          show Rn w mX11_boat (d + 1) G Q 63 [(0, vr 0), (1, vi x1), (2, vi x2), (3, vi x3), (4, vi x4)] [vi x40] (B0, n39)
          exact r_iret dX11_boat_63 rfl V
        · have V := V2 c38
          refine r_aload_n dX11_boat_41 rfl rfl ?_
          refine r_iconst (x := -1) dX11_boat_42 rfl (by decide) ?_
          refine r_callV (args := [vi (-1)]) dX11_boat_43 kX11_84 ob_0 ⟨_, _, rfl⟩ (by decide) rfl rfl (Nat.le_of_ble_eq_true rfl) cap0 (Ev.mono V ?_)
          rintro r h' ⟨x42, n41, rfl, rfl, V⟩
          show Rn w mX11_boat (d + 1) G Q 46 [(0, vr 0), (1, vi x1), (2, vi x2), (3, vi x3), (4, vi x4)] [vi x42] (B0, n41)
          exact r_iret dX11_boat_46 rfl V

theorem gX11_beast_0 {w : WD} {d : Nat} {G : GM} {Q : Option AV → Hp → Prop} {n : NM} {x1 x2 x3 x4 : Int}
    (V :
    (Ev w d 0 0 mX11_within [vi x1, vi 0, vi 59] (B0, n) (fun r h' => ∃ (x22 : Int) (n21 : NM), r = some (vi x22) ∧ h' = (B0, n21) ∧ 
      ((x22 = 0 →
        (Ev w d 0 0 mX11_refuse [vr 0, vi (-1)] (B0, n21) (fun r h' => ∃ (x25 : Int) (n24 : NM), r = some (vi x25) ∧ h' = (B0, n24) ∧ 
          Q (some (vi x25)) (B0, n24)))) ∧
      (x22 ≠ 0 →
        (Ev w d 0 0 mX11_within [vi x2, vi 0, vi 23] (B0, n21) (fun r h' => ∃ (x27 : Int) (n26 : NM), r = some (vi x27) ∧ h' = (B0, n26) ∧ 
          ((x27 = 0 →
            (Ev w d 0 0 mX11_refuse [vr 0, vi (-1)] (B0, n26) (fun r h' => ∃ (x30 : Int) (n29 : NM), r = some (vi x30) ∧ h' = (B0, n29) ∧ 
              Q (some (vi x30)) (B0, n29)))) ∧
          (x27 ≠ 0 →
            (Ev w d 0 0 mX11_within [vi x3, vi 0, vi 1439] (B0, n26) (fun r h' => ∃ (x32 : Int) (n31 : NM), r = some (vi x32) ∧ h' = (B0, n31) ∧ 
              ((x32 = 0 →
                (Ev w d 0 0 mX11_refuse [vr 0, vi (-1)] (B0, n31) (fun r h' => ∃ (x35 : Int) (n34 : NM), r = some (vi x35) ∧ h' = (B0, n34) ∧ 
                  Q (some (vi x35)) (B0, n34)))) ∧
              (x32 ≠ 0 →
                (Ev w d 0 0 mX11_within [vi x4, vi x3, vi 1439] (B0, n31) (fun r h' => ∃ (x37 : Int) (n36 : NM), r = some (vi x37) ∧ h' = (B0, n36) ∧ 
                  ((x37 ≠ 0 →
                    (Ev w d 0 0 mX11_addTo [vr 0, vr 6, vi x1, vi x2, vi x3, vi x4] (B0, n36) (fun r h' => ∃ (x40 : Int) (n39 : NM), r = some (vi x40) ∧ h' = (B0, n39) ∧ 
                      Q (some (vi x40)) (B0, n39)))) ∧
                  (x37 = 0 →
                    (Ev w d 0 0 mX11_refuse [vr 0, vi (-1)] (B0, n36) (fun r h' => ∃ (x42 : Int) (n41 : NM), r = some (vi x42) ∧ h' = (B0, n41) ∧ 
                      Q (some (vi x42)) (B0, n41)))))))))))))))))))) :
    Rn w mX11_beast (d + 1) G Q 0 [(0, vr 0), (1, vi x1), (2, vi x2), (3, vi x3), (4, vi x4)] [] (B0, n) := by
  refine r_iload_n dX11_beast_0 rfl rfl ?_
  refine r_iconst (x := 0) dX11_beast_1 rfl (by decide) ?_
  refine r_bipush (x := 59) dX11_beast_2 (by decide +kernel) (by decide) ?_
  refine r_callS (args := [vi x1, vi 0, vi 59]) dX11_beast_4 kX11_80 rfl rfl (Nat.le_of_ble_eq_true rfl) cap0 (Ev.mono V ?_)
  rintro r h' ⟨x22, n21, rfl, rfl, V⟩
  show Rn w mX11_beast (d + 1) G Q 7 [(0, vr 0), (1, vi x1), (2, vi x2), (3, vi x3), (4, vi x4)] [vi x22] (B0, n21)
  obtain ⟨V1, V2⟩ := V
  refine r_zeq (tgt := 43) dX11_beast_7 (by decide) (fun c23 => ?_) (fun c23 => ?_)
  · have V := V1 c23
    refine r_aload_n dX11_beast_43 rfl rfl ?_
    refine r_iconst (x := -1) dX11_beast_44 rfl (by decide) ?_
    refine r_callV (args := [vi (-1)]) dX11_beast_45 kX11_84 ob_0 ⟨_, _, rfl⟩ (by decide) rfl rfl (Nat.le_of_ble_eq_true rfl) cap0 (Ev.mono V ?_)
    rintro r h' ⟨x25, n24, rfl, rfl, V⟩
    show Rn w mX11_beast (d + 1) G Q 48 [(0, vr 0), (1, vi x1), (2, vi x2), (3, vi x3), (4, vi x4)] [vi x25] (B0, n24)
    exact r_iret dX11_beast_48 rfl V
  · have V := V2 c23
    refine r_iload_n dX11_beast_10 rfl rfl ?_
    refine r_iconst (x := 0) dX11_beast_11 rfl (by decide) ?_
    refine r_bipush (x := 23) dX11_beast_12 (by decide +kernel) (by decide) ?_
    refine r_callS (args := [vi x2, vi 0, vi 23]) dX11_beast_14 kX11_80 rfl rfl (Nat.le_of_ble_eq_true rfl) cap0 (Ev.mono V ?_)
    rintro r h' ⟨x27, n26, rfl, rfl, V⟩
    show Rn w mX11_beast (d + 1) G Q 17 [(0, vr 0), (1, vi x1), (2, vi x2), (3, vi x3), (4, vi x4)] [vi x27] (B0, n26)
    obtain ⟨V1, V2⟩ := V
    refine r_zeq (tgt := 43) dX11_beast_17 (by decide) (fun c28 => ?_) (fun c28 => ?_)
    · have V := V1 c28
      refine r_aload_n dX11_beast_43 rfl rfl ?_
      refine r_iconst (x := -1) dX11_beast_44 rfl (by decide) ?_
      refine r_callV (args := [vi (-1)]) dX11_beast_45 kX11_84 ob_0 ⟨_, _, rfl⟩ (by decide) rfl rfl (Nat.le_of_ble_eq_true rfl) cap0 (Ev.mono V ?_)
      rintro r h' ⟨x30, n29, rfl, rfl, V⟩
      show Rn w mX11_beast (d + 1) G Q 48 [(0, vr 0), (1, vi x1), (2, vi x2), (3, vi x3), (4, vi x4)] [vi x30] (B0, n29)
      exact r_iret dX11_beast_48 rfl V
    · have V := V2 c28
      refine r_iload_n dX11_beast_20 rfl rfl ?_
      refine r_iconst (x := 0) dX11_beast_21 rfl (by decide) ?_
      refine r_sipush (x := 1439) dX11_beast_22 (by decide +kernel) (by decide) ?_
      refine r_callS (args := [vi x3, vi 0, vi 1439]) dX11_beast_25 kX11_80 rfl rfl (Nat.le_of_ble_eq_true rfl) cap0 (Ev.mono V ?_)
      rintro r h' ⟨x32, n31, rfl, rfl, V⟩
      show Rn w mX11_beast (d + 1) G Q 28 [(0, vr 0), (1, vi x1), (2, vi x2), (3, vi x3), (4, vi x4)] [vi x32] (B0, n31)
      obtain ⟨V1, V2⟩ := V
      refine r_zeq (tgt := 43) dX11_beast_28 (by decide) (fun c33 => ?_) (fun c33 => ?_)
      · have V := V1 c33
        refine r_aload_n dX11_beast_43 rfl rfl ?_
        refine r_iconst (x := -1) dX11_beast_44 rfl (by decide) ?_
        refine r_callV (args := [vi (-1)]) dX11_beast_45 kX11_84 ob_0 ⟨_, _, rfl⟩ (by decide) rfl rfl (Nat.le_of_ble_eq_true rfl) cap0 (Ev.mono V ?_)
        rintro r h' ⟨x35, n34, rfl, rfl, V⟩
        show Rn w mX11_beast (d + 1) G Q 48 [(0, vr 0), (1, vi x1), (2, vi x2), (3, vi x3), (4, vi x4)] [vi x35] (B0, n34)
        exact r_iret dX11_beast_48 rfl V
      · have V := V2 c33
        refine r_iload dX11_beast_31 rfl ?_
        refine r_iload_n dX11_beast_33 rfl rfl ?_
        refine r_sipush (x := 1439) dX11_beast_34 (by decide +kernel) (by decide) ?_
        refine r_callS (args := [vi x4, vi x3, vi 1439]) dX11_beast_37 kX11_80 rfl rfl (Nat.le_of_ble_eq_true rfl) cap0 (Ev.mono V ?_)
        rintro r h' ⟨x37, n36, rfl, rfl, V⟩
        show Rn w mX11_beast (d + 1) G Q 40 [(0, vr 0), (1, vi x1), (2, vi x2), (3, vi x3), (4, vi x4)] [vi x37] (B0, n36)
        obtain ⟨V1, V2⟩ := V
        refine r_zne (tgt := 49) dX11_beast_40 (by decide) (fun c38 => ?_) (fun c38 => ?_)
        · have V := V1 c38
          refine r_aload_n dX11_beast_49 rfl rfl ?_
          refine r_aload_n dX11_beast_50 rfl rfl ?_
          refine r_getR (b := 1) dX11_beast_51 fX11_10 ob_0 (by decide) rfl rfl ?_
          refine r_getR (b := 6) dX11_beast_54 fX11_108 ob_1 (by decide) rfl rfl ?_
          refine r_iload_n dX11_beast_57 rfl rfl ?_
          refine r_iload_n dX11_beast_58 rfl rfl ?_
          refine r_iload_n dX11_beast_59 rfl rfl ?_
          refine r_iload dX11_beast_60 rfl ?_
          refine r_callV (args := [vr 6, vi x1, vi x2, vi x3, vi x4]) dX11_beast_62 kX11_104 ob_0 ⟨_, _, rfl⟩ (by decide) rfl rfl (Nat.le_of_ble_eq_true rfl) cap0 (Ev.mono V ?_)
          rintro r h' ⟨x40, n39, rfl, rfl, V⟩
          show Rn w mX11_beast (d + 1) G Q 65 [(0, vr 0), (1, vi x1), (2, vi x2), (3, vi x3), (4, vi x4)] [vi x40] (B0, n39)
          exact r_iret dX11_beast_65 rfl V
        · have V := V2 c38
          refine r_aload_n dX11_beast_43 rfl rfl ?_
          refine r_iconst (x := -1) dX11_beast_44 rfl (by decide) ?_
          refine r_callV (args := [vi (-1)]) dX11_beast_45 kX11_84 ob_0 ⟨_, _, rfl⟩ (by decide) rfl rfl (Nat.le_of_ble_eq_true rfl) cap0 (Ev.mono V ?_)
          rintro r h' ⟨x42, n41, rfl, rfl, V⟩
          show Rn w mX11_beast (d + 1) G Q 48 [(0, vr 0), (1, vi x1), (2, vi x2), (3, vi x3), (4, vi x4)] [vi x42] (B0, n41)
          exact r_iret dX11_beast_48 rfl V

theorem gX11_log_0 {w : WD} {d : Nat} {G : GM} {Q : Option AV → Hp → Prop} {n : NM} {x1 x2 : Int}
    (V :
    (Ev w d 0 0 mX11_within [vi x1, vi 0, vi 59] (B0, n) (fun r h' => ∃ (x22 : Int) (n21 : NM), r = some (vi x22) ∧ h' = (B0, n21) ∧ 
      ((x22 = 0 →
        (Ev w d 0 0 mX11_refuse [vr 0, vi (-1)] (B0, n21) (fun r h' => ∃ (x25 : Int) (n24 : NM), r = some (vi x25) ∧ h' = (B0, n24) ∧ 
          Q (some (vi x25)) (B0, n24)))) ∧
      (x22 ≠ 0 →
        (Ev w d 0 0 mX11_within [vi x2, vi 0, vi 23] (B0, n21) (fun r h' => ∃ (x27 : Int) (n26 : NM), r = some (vi x27) ∧ h' = (B0, n26) ∧ 
          ((x27 ≠ 0 →
            (Ev w d 0 0 mX11_addTo [vr 0, vr 8, vi x1, vi x2, vi 0, vi 0] (B0, n26) (fun r h' => ∃ (x30 : Int) (n29 : NM), r = some (vi x30) ∧ h' = (B0, n29) ∧ 
              Q (some (vi x30)) (B0, n29)))) ∧
          (x27 = 0 →
            (Ev w d 0 0 mX11_refuse [vr 0, vi (-1)] (B0, n26) (fun r h' => ∃ (x32 : Int) (n31 : NM), r = some (vi x32) ∧ h' = (B0, n31) ∧ 
              Q (some (vi x32)) (B0, n31)))))))))))) :
    Rn w mX11_log (d + 1) G Q 0 [(0, vr 0), (1, vi x1), (2, vi x2)] [] (B0, n) := by
  refine r_iload_n dX11_log_0 rfl rfl ?_
  refine r_iconst (x := 0) dX11_log_1 rfl (by decide) ?_
  refine r_bipush (x := 59) dX11_log_2 (by decide +kernel) (by decide) ?_
  refine r_callS (args := [vi x1, vi 0, vi 59]) dX11_log_4 kX11_80 rfl rfl (Nat.le_of_ble_eq_true rfl) cap0 (Ev.mono V ?_)
  rintro r h' ⟨x22, n21, rfl, rfl, V⟩
  show Rn w mX11_log (d + 1) G Q 7 [(0, vr 0), (1, vi x1), (2, vi x2)] [vi x22] (B0, n21)
  obtain ⟨V1, V2⟩ := V
  refine r_zeq (tgt := 20) dX11_log_7 (by decide) (fun c23 => ?_) (fun c23 => ?_)
  · have V := V1 c23
    refine r_aload_n dX11_log_20 rfl rfl ?_
    refine r_iconst (x := -1) dX11_log_21 rfl (by decide) ?_
    refine r_callV (args := [vi (-1)]) dX11_log_22 kX11_84 ob_0 ⟨_, _, rfl⟩ (by decide) rfl rfl (Nat.le_of_ble_eq_true rfl) cap0 (Ev.mono V ?_)
    rintro r h' ⟨x25, n24, rfl, rfl, V⟩
    show Rn w mX11_log (d + 1) G Q 25 [(0, vr 0), (1, vi x1), (2, vi x2)] [vi x25] (B0, n24)
    exact r_iret dX11_log_25 rfl V
  · have V := V2 c23
    refine r_iload_n dX11_log_10 rfl rfl ?_
    refine r_iconst (x := 0) dX11_log_11 rfl (by decide) ?_
    refine r_bipush (x := 23) dX11_log_12 (by decide +kernel) (by decide) ?_
    refine r_callS (args := [vi x2, vi 0, vi 23]) dX11_log_14 kX11_80 rfl rfl (Nat.le_of_ble_eq_true rfl) cap0 (Ev.mono V ?_)
    rintro r h' ⟨x27, n26, rfl, rfl, V⟩
    show Rn w mX11_log (d + 1) G Q 17 [(0, vr 0), (1, vi x1), (2, vi x2)] [vi x27] (B0, n26)
    obtain ⟨V1, V2⟩ := V
    refine r_zne (tgt := 26) dX11_log_17 (by decide) (fun c28 => ?_) (fun c28 => ?_)
    · have V := V1 c28
      refine r_aload_n dX11_log_26 rfl rfl ?_
      refine r_aload_n dX11_log_27 rfl rfl ?_
      refine r_getR (b := 1) dX11_log_28 fX11_10 ob_0 (by decide) rfl rfl ?_
      refine r_getR (b := 8) dX11_log_31 fX11_111 ob_1 (by decide) rfl rfl ?_
      refine r_iload_n dX11_log_34 rfl rfl ?_
      refine r_iload_n dX11_log_35 rfl rfl ?_
      refine r_iconst (x := 0) dX11_log_36 rfl (by decide) ?_
      refine r_iconst (x := 0) dX11_log_37 rfl (by decide) ?_
      refine r_callV (args := [vr 8, vi x1, vi x2, vi 0, vi 0]) dX11_log_38 kX11_104 ob_0 ⟨_, _, rfl⟩ (by decide) rfl rfl (Nat.le_of_ble_eq_true rfl) cap0 (Ev.mono V ?_)
      rintro r h' ⟨x30, n29, rfl, rfl, V⟩
      show Rn w mX11_log (d + 1) G Q 41 [(0, vr 0), (1, vi x1), (2, vi x2)] [vi x30] (B0, n29)
      exact r_iret dX11_log_41 rfl V
    · have V := V2 c28
      refine r_aload_n dX11_log_20 rfl rfl ?_
      refine r_iconst (x := -1) dX11_log_21 rfl (by decide) ?_
      refine r_callV (args := [vi (-1)]) dX11_log_22 kX11_84 ob_0 ⟨_, _, rfl⟩ (by decide) rfl rfl (Nat.le_of_ble_eq_true rfl) cap0 (Ev.mono V ?_)
      rintro r h' ⟨x32, n31, rfl, rfl, V⟩
      show Rn w mX11_log (d + 1) G Q 25 [(0, vr 0), (1, vi x1), (2, vi x2)] [vi x32] (B0, n31)
      exact r_iret dX11_log_25 rfl V

theorem gX11_watcher_0 {w : WD} {d : Nat} {G : GM} {Q : Option AV → Hp → Prop} {n : NM} {x1 : Int}
    (V :
    (Ev w d 0 0 mX11_within [vi x1, vi 0, vi 100] (B0, n) (fun r h' => ∃ (x22 : Int) (n21 : NM), r = some (vi x22) ∧ h' = (B0, n21) ∧ 
      ((x22 ≠ 0 →
        (Ev w d 0 0 mX11_addTo [vr 0, vr 10, vi x1, vi 0, vi 0, vi 0] (B0, n21) (fun r h' => ∃ (x25 : Int) (n24 : NM), r = some (vi x25) ∧ h' = (B0, n24) ∧ 
          Q (some (vi x25)) (B0, n24)))) ∧
      (x22 = 0 →
        (Ev w d 0 0 mX11_refuse [vr 0, vi (-1)] (B0, n21) (fun r h' => ∃ (x27 : Int) (n26 : NM), r = some (vi x27) ∧ h' = (B0, n26) ∧ 
          Q (some (vi x27)) (B0, n26)))))))) :
    Rn w mX11_watcher (d + 1) G Q 0 [(0, vr 0), (1, vi x1)] [] (B0, n) := by
  refine r_iload_n dX11_watcher_0 rfl rfl ?_
  refine r_iconst (x := 0) dX11_watcher_1 rfl (by decide) ?_
  refine r_bipush (x := 100) dX11_watcher_2 (by decide +kernel) (by decide) ?_
  refine r_callS (args := [vi x1, vi 0, vi 100]) dX11_watcher_4 kX11_80 rfl rfl (Nat.le_of_ble_eq_true rfl) cap0 (Ev.mono V ?_)
  rintro r h' ⟨x22, n21, rfl, rfl, V⟩
  show Rn w mX11_watcher (d + 1) G Q 7 [(0, vr 0), (1, vi x1)] [vi x22] (B0, n21)
  obtain ⟨V1, V2⟩ := V
  refine r_zne (tgt := 16) dX11_watcher_7 (by decide) (fun c23 => ?_) (fun c23 => ?_)
  · have V := V1 c23
    refine r_aload_n dX11_watcher_16 rfl rfl ?_
    refine r_aload_n dX11_watcher_17 rfl rfl ?_
    refine r_getR (b := 1) dX11_watcher_18 fX11_10 ob_0 (by decide) rfl rfl ?_
    refine r_getR (b := 10) dX11_watcher_21 fX11_114 ob_1 (by decide) rfl rfl ?_
    refine r_iload_n dX11_watcher_24 rfl rfl ?_
    refine r_iconst (x := 0) dX11_watcher_25 rfl (by decide) ?_
    refine r_iconst (x := 0) dX11_watcher_26 rfl (by decide) ?_
    refine r_iconst (x := 0) dX11_watcher_27 rfl (by decide) ?_
    refine r_callV (args := [vr 10, vi x1, vi 0, vi 0, vi 0]) dX11_watcher_28 kX11_104 ob_0 ⟨_, _, rfl⟩ (by decide) rfl rfl (Nat.le_of_ble_eq_true rfl) cap0 (Ev.mono V ?_)
    rintro r h' ⟨x25, n24, rfl, rfl, V⟩
    show Rn w mX11_watcher (d + 1) G Q 31 [(0, vr 0), (1, vi x1)] [vi x25] (B0, n24)
    exact r_iret dX11_watcher_31 rfl V
  · have V := V2 c23
    refine r_aload_n dX11_watcher_10 rfl rfl ?_
    refine r_iconst (x := -1) dX11_watcher_11 rfl (by decide) ?_
    refine r_callV (args := [vi (-1)]) dX11_watcher_12 kX11_84 ob_0 ⟨_, _, rfl⟩ (by decide) rfl rfl (Nat.le_of_ble_eq_true rfl) cap0 (Ev.mono V ?_)
    rintro r h' ⟨x27, n26, rfl, rfl, V⟩
    show Rn w mX11_watcher (d + 1) G Q 15 [(0, vr 0), (1, vi x1)] [vi x27] (B0, n26)
    exact r_iret dX11_watcher_15 rfl V

theorem gX11_pole_0 {w : WD} {d : Nat} {G : GM} {Q : Option AV → Hp → Prop} {n : NM} {x1 x2 x3 : Int}
    (V :
    (Ev w d 0 0 mX11_within [vi x2, vi 1, vi 99] (B0, n) (fun r h' => ∃ (x22 : Int) (n21 : NM), r = some (vi x22) ∧ h' = (B0, n21) ∧ 
      ((x22 = 0 →
        (Ev w d 0 0 mX11_refuse [vr 0, vi (-1)] (B0, n21) (fun r h' => ∃ (x25 : Int) (n24 : NM), r = some (vi x25) ∧ h' = (B0, n24) ∧ 
          Q (some (vi x25)) (B0, n24)))) ∧
      (x22 ≠ 0 →
        (Ev w d 0 0 mX11_within [vi x3, vi 1, vi 200] (B0, n21) (fun r h' => ∃ (x27 : Int) (n26 : NM), r = some (vi x27) ∧ h' = (B0, n26) ∧ 
          ((x27 ≠ 0 →
            (Ev w d 0 0 mX7_holds [vr 10, vi x1] (B0, n26) (fun r h' => ∃ (x30 : Int) (n29 : NM), r = some (vi x30) ∧ h' = (B0, n29) ∧ 
              ((x30 ≠ 0 →
                (Ev w d 0 0 mX11_addTo [vr 0, vr 12, vi x1, vi x2, vi x3, vi 0] (B0, n29) (fun r h' => ∃ (x33 : Int) (n32 : NM), r = some (vi x33) ∧ h' = (B0, n32) ∧ 
                  Q (some (vi x33)) (B0, n32)))) ∧
              (x30 = 0 →
                (Ev w d 0 0 mX11_refuse [vr 0, vi (-2)] (B0, n29) (fun r h' => ∃ (x35 : Int) (n34 : NM), r = some (vi x35) ∧ h' = (B0, n34) ∧ 
                  Q (some (vi x35)) (B0, n34)))))))) ∧
          (x27 = 0 →
            (Ev w d 0 0 mX11_refuse [vr 0, vi (-1)] (B0, n26) (fun r h' => ∃ (x37 : Int) (n36 : NM), r = some (vi x37) ∧ h' = (B0, n36) ∧ 
              Q (some (vi x37)) (B0, n36)))))))))))) :
    Rn w mX11_pole (d + 1) G Q 0 [(0, vr 0), (1, vi x1), (2, vi x2), (3, vi x3)] [] (B0, n) := by
  refine r_iload_n dX11_pole_0 rfl rfl ?_
  refine r_iconst (x := 1) dX11_pole_1 rfl (by decide) ?_
  refine r_bipush (x := 99) dX11_pole_2 (by decide +kernel) (by decide) ?_
  refine r_callS (args := [vi x2, vi 1, vi 99]) dX11_pole_4 kX11_80 rfl rfl (Nat.le_of_ble_eq_true rfl) cap0 (Ev.mono V ?_)
  rintro r h' ⟨x22, n21, rfl, rfl, V⟩
  show Rn w mX11_pole (d + 1) G Q 7 [(0, vr 0), (1, vi x1), (2, vi x2), (3, vi x3)] [vi x22] (B0, n21)
  obtain ⟨V1, V2⟩ := V
  refine r_zeq (tgt := 21) dX11_pole_7 (by decide) (fun c23 => ?_) (fun c23 => ?_)
  · have V := V1 c23
    refine r_aload_n dX11_pole_21 rfl rfl ?_
    refine r_iconst (x := -1) dX11_pole_22 rfl (by decide) ?_
    refine r_callV (args := [vi (-1)]) dX11_pole_23 kX11_84 ob_0 ⟨_, _, rfl⟩ (by decide) rfl rfl (Nat.le_of_ble_eq_true rfl) cap0 (Ev.mono V ?_)
    rintro r h' ⟨x25, n24, rfl, rfl, V⟩
    show Rn w mX11_pole (d + 1) G Q 26 [(0, vr 0), (1, vi x1), (2, vi x2), (3, vi x3)] [vi x25] (B0, n24)
    exact r_iret dX11_pole_26 rfl V
  · have V := V2 c23
    refine r_iload_n dX11_pole_10 rfl rfl ?_
    refine r_iconst (x := 1) dX11_pole_11 rfl (by decide) ?_
    refine r_sipush (x := 200) dX11_pole_12 (by decide +kernel) (by decide) ?_
    refine r_callS (args := [vi x3, vi 1, vi 200]) dX11_pole_15 kX11_80 rfl rfl (Nat.le_of_ble_eq_true rfl) cap0 (Ev.mono V ?_)
    rintro r h' ⟨x27, n26, rfl, rfl, V⟩
    show Rn w mX11_pole (d + 1) G Q 18 [(0, vr 0), (1, vi x1), (2, vi x2), (3, vi x3)] [vi x27] (B0, n26)
    obtain ⟨V1, V2⟩ := V
    refine r_zne (tgt := 27) dX11_pole_18 (by decide) (fun c28 => ?_) (fun c28 => ?_)
    · have V := V1 c28
      refine r_aload_n dX11_pole_27 rfl rfl ?_
      refine r_getR (b := 1) dX11_pole_28 fX11_10 ob_0 (by decide) rfl rfl ?_
      refine r_getR (b := 10) dX11_pole_31 fX11_114 ob_1 (by decide) rfl rfl ?_
      refine r_iload_n dX11_pole_34 rfl rfl ?_
      refine r_callV (args := [vi x1]) dX11_pole_35 kX11_117 ob_10 ⟨_, _, rfl⟩ (by decide) rfl rfl (Nat.le_of_ble_eq_true rfl) cap0 (Ev.mono V ?_)
      rintro r h' ⟨x30, n29, rfl, rfl, V⟩
      show Rn w mX11_pole (d + 1) G Q 38 [(0, vr 0), (1, vi x1), (2, vi x2), (3, vi x3)] [vi x30] (B0, n29)
      obtain ⟨V1, V2⟩ := V
      refine r_zne (tgt := 48) dX11_pole_38 (by decide) (fun c31 => ?_) (fun c31 => ?_)
      · have V := V1 c31
        refine r_aload_n dX11_pole_48 rfl rfl ?_
        refine r_aload_n dX11_pole_49 rfl rfl ?_
        refine r_getR (b := 1) dX11_pole_50 fX11_10 ob_0 (by decide) rfl rfl ?_
        refine r_getR (b := 12) dX11_pole_53 fX11_121 ob_1 (by decide) rfl rfl ?_
        refine r_iload_n dX11_pole_56 rfl rfl ?_
        refine r_iload_n dX11_pole_57 rfl rfl ?_
        refine r_iload_n dX11_pole_58 rfl rfl ?_
        refine r_iconst (x := 0) dX11_pole_59 rfl (by decide) ?_
        refine r_callV (args := [vr 12, vi x1, vi x2, vi x3, vi 0]) dX11_pole_60 kX11_104 ob_0 ⟨_, _, rfl⟩ (by decide) rfl rfl (Nat.le_of_ble_eq_true rfl) cap0 (Ev.mono V ?_)
        rintro r h' ⟨x33, n32, rfl, rfl, V⟩
        show Rn w mX11_pole (d + 1) G Q 63 [(0, vr 0), (1, vi x1), (2, vi x2), (3, vi x3)] [vi x33] (B0, n32)
        exact r_iret dX11_pole_63 rfl V
      · have V := V2 c31
        refine r_aload_n dX11_pole_41 rfl rfl ?_
        refine r_bipush (x := -2) dX11_pole_42 (by decide +kernel) (by decide) ?_
        refine r_callV (args := [vi (-2)]) dX11_pole_44 kX11_84 ob_0 ⟨_, _, rfl⟩ (by decide) rfl rfl (Nat.le_of_ble_eq_true rfl) cap0 (Ev.mono V ?_)
        rintro r h' ⟨x35, n34, rfl, rfl, V⟩
        show Rn w mX11_pole (d + 1) G Q 47 [(0, vr 0), (1, vi x1), (2, vi x2), (3, vi x3)] [vi x35] (B0, n34)
        exact r_iret dX11_pole_47 rfl V
    · have V := V2 c28
      refine r_aload_n dX11_pole_21 rfl rfl ?_
      refine r_iconst (x := -1) dX11_pole_22 rfl (by decide) ?_
      refine r_callV (args := [vi (-1)]) dX11_pole_23 kX11_84 ob_0 ⟨_, _, rfl⟩ (by decide) rfl rfl (Nat.le_of_ble_eq_true rfl) cap0 (Ev.mono V ?_)
      rintro r h' ⟨x37, n36, rfl, rfl, V⟩
      show Rn w mX11_pole (d + 1) G Q 26 [(0, vr 0), (1, vi x1), (2, vi x2), (3, vi x3)] [vi x37] (B0, n36)
      exact r_iret dX11_pole_26 rfl V

theorem gX11_sight_0 {w : WD} {d : Nat} {G : GM} {Q : Option AV → Hp → Prop} {n : NM} {x1 x2 x3 x4 x5 x6 x7 : Int}
    (V :
    (Ev w d 0 0 mX1_whyNoSight [vr 1, vi x1, vi x2, vi x3, vi x4, vi x5, vi x6, vi x7] (B0, n) (fun r h' => ∃ (x22 : Int) (n21 : NM), r = some (vi x22) ∧ h' = (B0, n21) ∧ 
      ((x22 = 0 →
        (Ev w d 0 0 mX1_addSight [vr 1, vi x1, vi x2, vi x3, vi x4, vi x5, vi x6, vi x7] (B0, n21) (fun r h' => ∃ (x25 : Int) (n24 : NM), r = some (vi x25) ∧ h' = (B0, n24) ∧ 
          (Ev w d 0 0 mX11_accept [vr 0, vi x25] (B0, n24) (fun r h' => ∃ (x27 : Int) (n26 : NM), r = some (vi x27) ∧ h' = (B0, n26) ∧ 
            Q (some (vi x27)) (B0, n26)))))) ∧
      (x22 ≠ 0 →
        (Ev w d 0 0 mX11_refuse [vr 0, vi x22] (B0, n21) (fun r h' => ∃ (x29 : Int) (n28 : NM), r = some (vi x29) ∧ h' = (B0, n28) ∧ 
          Q (some (vi x29)) (B0, n28)))))))) :
    Rn w mX11_sight (d + 1) G Q 0 [(0, vr 0), (1, vi x1), (2, vi x2), (3, vi x3), (4, vi x4), (5, vi x5), (6, vi x6), (7, vi x7)] [] (B0, n) := by
  refine r_aload_n dX11_sight_0 rfl rfl ?_
  refine r_getR (b := 1) dX11_sight_1 fX11_10 ob_0 (by decide) rfl rfl ?_
  refine r_iload_n dX11_sight_4 rfl rfl ?_
  refine r_iload_n dX11_sight_5 rfl rfl ?_
  refine r_iload_n dX11_sight_6 rfl rfl ?_
  refine r_iload dX11_sight_7 rfl ?_
  refine r_iload dX11_sight_9 rfl ?_
  refine r_iload dX11_sight_11 rfl ?_
  refine r_iload dX11_sight_13 rfl ?_
  refine r_callV (args := [vi x1, vi x2, vi x3, vi x4, vi x5, vi x6, vi x7]) dX11_sight_15 kX11_124 ob_1 ⟨_, _, rfl⟩ (by decide) rfl rfl (Nat.le_of_ble_eq_true rfl) cap0 (Ev.mono V ?_)
  rintro r h' ⟨x22, n21, rfl, rfl, V⟩
  show Rn w mX11_sight (d + 1) G Q 18 [(0, vr 0), (1, vi x1), (2, vi x2), (3, vi x3), (4, vi x4), (5, vi x5), (6, vi x6), (7, vi x7)] [vi x22] (B0, n21)
  refine r_istore (ls' := [(0, vr 0), (1, vi x1), (2, vi x2), (3, vi x3), (4, vi x4), (5, vi x5), (6, vi x6), (7, vi x7), (8, vi x22)]) dX11_sight_18 (by decide) rfl ?_
  refine r_iload dX11_sight_20 rfl ?_
  obtain ⟨V1, V2⟩ := V
  refine r_zeq (tgt := 32) dX11_sight_22 (by decide) (fun c23 => ?_) (fun c23 => ?_)
  · have V := V1 c23
    refine r_aload_n dX11_sight_32 rfl rfl ?_
    refine r_aload_n dX11_sight_33 rfl rfl ?_
    refine r_getR (b := 1) dX11_sight_34 fX11_10 ob_0 (by decide) rfl rfl ?_
    refine r_iload_n dX11_sight_37 rfl rfl ?_
    refine r_iload_n dX11_sight_38 rfl rfl ?_
    refine r_iload_n dX11_sight_39 rfl rfl ?_
    refine r_iload dX11_sight_40 rfl ?_
    refine r_iload dX11_sight_42 rfl ?_
    refine r_iload dX11_sight_44 rfl ?_
    refine r_iload dX11_sight_46 rfl ?_
    refine r_callV (args := [vi x1, vi x2, vi x3, vi x4, vi x5, vi x6, vi x7]) dX11_sight_48 kX11_128 ob_1 ⟨_, _, rfl⟩ (by decide) rfl rfl (Nat.le_of_ble_eq_true rfl) cap0 (Ev.mono V ?_)
    rintro r h' ⟨x25, n24, rfl, rfl, V⟩
    show Rn w mX11_sight (d + 1) G Q 51 [(0, vr 0), (1, vi x1), (2, vi x2), (3, vi x3), (4, vi x4), (5, vi x5), (6, vi x6), (7, vi x7), (8, vi x22)] [vi x25, vr 0] (B0, n24)
    refine r_callV (args := [vi x25]) dX11_sight_51 kX11_98 ob_0 ⟨_, _, rfl⟩ (by decide) rfl rfl (Nat.le_of_ble_eq_true rfl) cap0 (Ev.mono V ?_)
    rintro r h' ⟨x27, n26, rfl, rfl, V⟩
    show Rn w mX11_sight (d + 1) G Q 54 [(0, vr 0), (1, vi x1), (2, vi x2), (3, vi x3), (4, vi x4), (5, vi x5), (6, vi x6), (7, vi x7), (8, vi x22)] [vi x27] (B0, n26)
    exact r_iret dX11_sight_54 rfl V
  · have V := V2 c23
    refine r_aload_n dX11_sight_25 rfl rfl ?_
    refine r_iload dX11_sight_26 rfl ?_
    refine r_callV (args := [vi x22]) dX11_sight_28 kX11_84 ob_0 ⟨_, _, rfl⟩ (by decide) rfl rfl (Nat.le_of_ble_eq_true rfl) cap0 (Ev.mono V ?_)
    rintro r h' ⟨x29, n28, rfl, rfl, V⟩
    show Rn w mX11_sight (d + 1) G Q 31 [(0, vr 0), (1, vi x1), (2, vi x2), (3, vi x3), (4, vi x4), (5, vi x5), (6, vi x6), (7, vi x7), (8, vi x22)] [vi x29] (B0, n28)
    exact r_iret dX11_sight_31 rfl V

theorem gX11_feed_0 {w : WD} {d : Nat} {G : GM} {Q : Option AV → Hp → Prop} {n : NM} {x1 x2 x3 x4 x5 : Int}
    (V :
    (Ev w d 0 0 mX8_hasRoomForFiveNumbers [vr 35] (B0, n) (fun r h' => ∃ (x22 : Int) (n21 : NM), r = some (vi x22) ∧ h' = (B0, n21) ∧ 
      ((x22 ≠ 0 →
        (Ev w d 0 0 mX8_addNumber [vr 35, vi x1] (B0, n21) (fun r h' => ∃ n24 : NM, r = none ∧ h' = (B0, n24) ∧ 
          (Ev w d 0 0 mX8_addNumber [vr 35, vi x2] (B0, n24) (fun r h' => ∃ n25 : NM, r = none ∧ h' = (B0, n25) ∧ 
            (Ev w d 0 0 mX8_addNumber [vr 35, vi x3] (B0, n25) (fun r h' => ∃ n26 : NM, r = none ∧ h' = (B0, n26) ∧ 
              (Ev w d 0 0 mX8_addNumber [vr 35, vi x4] (B0, n26) (fun r h' => ∃ n27 : NM, r = none ∧ h' = (B0, n27) ∧ 
                (Ev w d 0 0 mX8_addNumber [vr 35, vi x5] (B0, n27) (fun r h' => ∃ n28 : NM, r = none ∧ h' = (B0, n28) ∧ 
                  (Ev w d 0 0 mX8_size [vr 35] (B0, n28) (fun r h' => ∃ (x30 : Int) (n29 : NM), r = some (vi x30) ∧ h' = (B0, n29) ∧ 
                    Q (some (vi x30)) (B0, n29)))))))))))))) ∧
      (x22 = 0 →
        Q (some (vi (-1))) (B0, n21)))))) :
    Rn w mX11_feed (d + 1) G Q 0 [(0, vr 0), (1, vi x1), (2, vi x2), (3, vi x3), (4, vi x4), (5, vi x5)] [] (B0, n) := by
  refine r_aload_n dX11_feed_0 rfl rfl ?_
  refine r_getR (b := 35) dX11_feed_1 fX11_27 ob_0 (by decide) rfl rfl ?_
  refine r_callV (args := []) dX11_feed_4 kX11_131 ob_35 ⟨_, _, rfl⟩ (by decide) rfl rfl (Nat.le_of_ble_eq_true rfl) cap0 (Ev.mono V ?_)
  rintro r h' ⟨x22, n21, rfl, rfl, V⟩
  show Rn w mX11_feed (d + 1) G Q 7 [(0, vr 0), (1, vi x1), (2, vi x2), (3, vi x3), (4, vi x4), (5, vi x5)] [vi x22] (B0, n21)
  obtain ⟨V1, V2⟩ := V
  refine r_zne (tgt := 12) dX11_feed_7 (by decide) (fun c23 => ?_) (fun c23 => ?_)
  · have V := V1 c23
    refine r_aload_n dX11_feed_12 rfl rfl ?_
    refine r_getR (b := 35) dX11_feed_13 fX11_27 ob_0 (by decide) rfl rfl ?_
    refine r_iload_n dX11_feed_16 rfl rfl ?_
    refine r_callV (args := [vi x1]) dX11_feed_17 kX11_135 ob_35 ⟨_, _, rfl⟩ (by decide) rfl rfl (Nat.le_of_ble_eq_true rfl) cap0 (Ev.mono V ?_)
    rintro r h' ⟨n24, rfl, rfl, V⟩
    show Rn w mX11_feed (d + 1) G Q 20 [(0, vr 0), (1, vi x1), (2, vi x2), (3, vi x3), (4, vi x4), (5, vi x5)] [] (B0, n24)
    refine r_aload_n dX11_feed_20 rfl rfl ?_
    refine r_getR (b := 35) dX11_feed_21 fX11_27 ob_0 (by decide) rfl rfl ?_
    refine r_iload_n dX11_feed_24 rfl rfl ?_
    refine r_callV (args := [vi x2]) dX11_feed_25 kX11_135 ob_35 ⟨_, _, rfl⟩ (by decide) rfl rfl (Nat.le_of_ble_eq_true rfl) cap0 (Ev.mono V ?_)
    rintro r h' ⟨n25, rfl, rfl, V⟩
    show Rn w mX11_feed (d + 1) G Q 28 [(0, vr 0), (1, vi x1), (2, vi x2), (3, vi x3), (4, vi x4), (5, vi x5)] [] (B0, n25)
    refine r_aload_n dX11_feed_28 rfl rfl ?_
    refine r_getR (b := 35) dX11_feed_29 fX11_27 ob_0 (by decide) rfl rfl ?_
    refine r_iload_n dX11_feed_32 rfl rfl ?_
    refine r_callV (args := [vi x3]) dX11_feed_33 kX11_135 ob_35 ⟨_, _, rfl⟩ (by decide) rfl rfl (Nat.le_of_ble_eq_true rfl) cap0 (Ev.mono V ?_)
    rintro r h' ⟨n26, rfl, rfl, V⟩
    show Rn w mX11_feed (d + 1) G Q 36 [(0, vr 0), (1, vi x1), (2, vi x2), (3, vi x3), (4, vi x4), (5, vi x5)] [] (B0, n26)
    refine r_aload_n dX11_feed_36 rfl rfl ?_
    refine r_getR (b := 35) dX11_feed_37 fX11_27 ob_0 (by decide) rfl rfl ?_
    refine r_iload dX11_feed_40 rfl ?_
    refine r_callV (args := [vi x4]) dX11_feed_42 kX11_135 ob_35 ⟨_, _, rfl⟩ (by decide) rfl rfl (Nat.le_of_ble_eq_true rfl) cap0 (Ev.mono V ?_)
    rintro r h' ⟨n27, rfl, rfl, V⟩
    show Rn w mX11_feed (d + 1) G Q 45 [(0, vr 0), (1, vi x1), (2, vi x2), (3, vi x3), (4, vi x4), (5, vi x5)] [] (B0, n27)
    refine r_aload_n dX11_feed_45 rfl rfl ?_
    refine r_getR (b := 35) dX11_feed_46 fX11_27 ob_0 (by decide) rfl rfl ?_
    refine r_iload dX11_feed_49 rfl ?_
    refine r_callV (args := [vi x5]) dX11_feed_51 kX11_135 ob_35 ⟨_, _, rfl⟩ (by decide) rfl rfl (Nat.le_of_ble_eq_true rfl) cap0 (Ev.mono V ?_)
    rintro r h' ⟨n28, rfl, rfl, V⟩
    show Rn w mX11_feed (d + 1) G Q 54 [(0, vr 0), (1, vi x1), (2, vi x2), (3, vi x3), (4, vi x4), (5, vi x5)] [] (B0, n28)
    refine r_aload_n dX11_feed_54 rfl rfl ?_
    refine r_getR (b := 35) dX11_feed_55 fX11_27 ob_0 (by decide) rfl rfl ?_
    refine r_callV (args := []) dX11_feed_58 kX11_139 ob_35 ⟨_, _, rfl⟩ (by decide) rfl rfl (Nat.le_of_ble_eq_true rfl) cap0 (Ev.mono V ?_)
    rintro r h' ⟨x30, n29, rfl, rfl, V⟩
    show Rn w mX11_feed (d + 1) G Q 61 [(0, vr 0), (1, vi x1), (2, vi x2), (3, vi x3), (4, vi x4), (5, vi x5)] [vi x30] (B0, n29)
    exact r_iret dX11_feed_61 rfl V
  · have V := V2 c23
    refine r_iconst (x := -1) dX11_feed_10 rfl (by decide) ?_
    exact r_iret dX11_feed_11 rfl V

theorem gX11_end_0 {w : WD} {d : Nat} {G : GM} {Q : Option AV → Hp → Prop} {n : NM} {x1 : Int}
    (V :
    (Ev w d 0 0 mX8_size [vr 35] (B0, n) (fun r h' => ∃ (x22 : Int) (n21 : NM), r = some (vi x22) ∧ h' = (B0, n21) ∧ 
      (Ev w d 0 0 mX11_within [vi x1, vi 0, vi x22] (B0, n21) (fun r h' => ∃ (x24 : Int) (n23 : NM), r = some (vi x24) ∧ h' = (B0, n23) ∧ 
        ((x24 ≠ 0 →
          (Ev w d 0 0 mX8_cutTo [vr 35, vi x1] (B0, n23) (fun r h' => ∃ n26 : NM, r = none ∧ h' = (B0, n26) ∧ 
            Q (some (vi x1)) (B0, n26)))) ∧
        (x24 = 0 →
          Q (some (vi (-1))) (B0, n23)))))))) :
    Rn w mX11_end (d + 1) G Q 0 [(0, vr 0), (1, vi x1)] [] (B0, n) := by
  refine r_iload_n dX11_end_0 rfl rfl ?_
  refine r_iconst (x := 0) dX11_end_1 rfl (by decide) ?_
  refine r_aload_n dX11_end_2 rfl rfl ?_
  refine r_getR (b := 35) dX11_end_3 fX11_27 ob_0 (by decide) rfl rfl ?_
  refine r_callV (args := []) dX11_end_6 kX11_139 ob_35 ⟨_, _, rfl⟩ (by decide) rfl rfl (Nat.le_of_ble_eq_true rfl) cap0 (Ev.mono V ?_)
  rintro r h' ⟨x22, n21, rfl, rfl, V⟩
  show Rn w mX11_end (d + 1) G Q 9 [(0, vr 0), (1, vi x1)] [vi x22, vi 0, vi x1] (B0, n21)
  refine r_callS (args := [vi x1, vi 0, vi x22]) dX11_end_9 kX11_80 rfl rfl (Nat.le_of_ble_eq_true rfl) cap0 (Ev.mono V ?_)
  rintro r h' ⟨x24, n23, rfl, rfl, V⟩
  show Rn w mX11_end (d + 1) G Q 12 [(0, vr 0), (1, vi x1)] [vi x24] (B0, n23)
  obtain ⟨V1, V2⟩ := V
  refine r_zne (tgt := 17) dX11_end_12 (by decide) (fun c25 => ?_) (fun c25 => ?_)
  · have V := V1 c25
    refine r_aload_n dX11_end_17 rfl rfl ?_
    refine r_getR (b := 35) dX11_end_18 fX11_27 ob_0 (by decide) rfl rfl ?_
    refine r_iload_n dX11_end_21 rfl rfl ?_
    refine r_callV (args := [vi x1]) dX11_end_22 kX11_143 ob_35 ⟨_, _, rfl⟩ (by decide) rfl rfl (Nat.le_of_ble_eq_true rfl) cap0 (Ev.mono V ?_)
    rintro r h' ⟨n26, rfl, rfl, V⟩
    show Rn w mX11_end (d + 1) G Q 25 [(0, vr 0), (1, vi x1)] [] (B0, n26)
    refine r_iload_n dX11_end_25 rfl rfl ?_
    exact r_iret dX11_end_26 rfl V
  · have V := V2 c25
    refine r_iconst (x := -1) dX11_end_15 rfl (by decide) ?_
    exact r_iret dX11_end_16 rfl V

theorem gX11_row_0 {w : WD} {d : Nat} {G : GM} {Q : Option AV → Hp → Prop} {n : NM}
    (V :
    (Ev w d 0 0 mX8_size [vr 35] (B0, n) (fun r h' => ∃ (x22 : Int) (n21 : NM), r = some (vi x22) ∧ h' = (B0, n21) ∧ 
      ((x22 ≠ 0 →
        Rn w mX11_row (d + 1) G Q 23 [(0, vr 0), (1, vi 0), (2, vi 0), (3, vi 0)] [] (B0, n21)) ∧
      (x22 = 0 →
        (Ev w d 0 0 mX11_refuse [vr 0, vi (-6)] (B0, n21) (fun r h' => ∃ (x25 : Int) (n24 : NM), r = some (vi x25) ∧ h' = (B0, n24) ∧ 
          Q (some (vi x25)) (B0, n24)))))))) :
    Rn w mX11_row (d + 1) G Q 0 [(0, vr 0)] [] (B0, n) := by
  refine r_aload_n dX11_row_0 rfl rfl ?_
  refine r_getR (b := 35) dX11_row_1 fX11_27 ob_0 (by decide) rfl rfl ?_
  refine r_callV (args := []) dX11_row_4 kX11_139 ob_35 ⟨_, _, rfl⟩ (by decide) rfl rfl (Nat.le_of_ble_eq_true rfl) cap0 (Ev.mono V ?_)
  rintro r h' ⟨x22, n21, rfl, rfl, V⟩
  show Rn w mX11_row (d + 1) G Q 7 [(0, vr 0)] [vi x22] (B0, n21)
  obtain ⟨V1, V2⟩ := V
  refine r_zne (tgt := 17) dX11_row_7 (by decide) (fun c23 => ?_) (fun c23 => ?_)
  · have V := V1 c23
    refine r_iconst (x := 0) dX11_row_17 rfl (by decide) ?_
    refine r_istore_n (ls' := [(0, vr 0), (1, vi 0)]) dX11_row_18 rfl (by decide) rfl ?_
    refine r_iconst (x := 0) dX11_row_19 rfl (by decide) ?_
    refine r_istore_n (ls' := [(0, vr 0), (1, vi 0), (2, vi 0)]) dX11_row_20 rfl (by decide) rfl ?_
    refine r_iconst (x := 0) dX11_row_21 rfl (by decide) ?_
    refine r_istore_n (ls' := [(0, vr 0), (1, vi 0), (2, vi 0), (3, vi 0)]) dX11_row_22 rfl (by decide) rfl ?_
    exact V
  · have V := V2 c23
    refine r_aload_n dX11_row_10 rfl rfl ?_
    refine r_bipush (x := -6) dX11_row_11 (by decide +kernel) (by decide) ?_
    refine r_callV (args := [vi (-6)]) dX11_row_13 kX11_84 ob_0 ⟨_, _, rfl⟩ (by decide) rfl rfl (Nat.le_of_ble_eq_true rfl) cap0 (Ev.mono V ?_)
    rintro r h' ⟨x25, n24, rfl, rfl, V⟩
    show Rn w mX11_row (d + 1) G Q 16 [(0, vr 0)] [vi x25] (B0, n24)
    exact r_iret dX11_row_16 rfl V

theorem gX11_row_23 {w : WD} {d : Nat} {G : GM} {Q : Option AV → Hp → Prop} {n : NM} {x1 x2 x3 : Int}
    (V :
    (Ev w d 0 0 mX8_size [vr 35] (B0, n) (fun r h' => ∃ (x22 : Int) (n21 : NM), r = some (vi x22) ∧ h' = (B0, n21) ∧ 
      ((x22 ≤ x3 →
        (Ev w d 0 0 mX8_cutTo [vr 35, vi 0] (B0, n21) (fun r h' => ∃ n24 : NM, r = none ∧ h' = (B0, n24) ∧ 
          (Ev w d 0 0 mX11_accept [vr 0, vi x1] (B0, upn n24 0 12 x2) (fun r h' => ∃ (x26 : Int) (n25 : NM), r = some (vi x26) ∧ h' = (B0, n25) ∧ 
            Q (some (vi x26)) (B0, n25)))))) ∧
      (x3 < x22 →
        (Ev w d 0 0 mX11_sightCameFrom [vr 0, vi x3] (B0, n21) (fun r h' => ∃ (x28 : Int) (n27 : NM), r = some (vi x28) ∧ h' = (B0, n27) ∧ 
          (x28 = 0 → inI (x2 + 1)) ∧
          (x28 ≠ 0 → inI (x1 + 1)) ∧
          (∀ z32 z33 : Int, z32 = (if x28 = 0 then x1 else x1 + 1) → z33 = (if x28 = 0 then x2 + 1 else x2) → 
          (inI (x3 + 7)) ∧
          Rn w mX11_row (d + 1) G Q 23 [(0, vr 0), (1, vi z32), (2, vi z33), (3, vi (x3 + 7))] [] (B0, n27))))))))) :
    Rn w mX11_row (d + 1) G Q 23 [(0, vr 0), (1, vi x1), (2, vi x2), (3, vi x3)] [] (B0, n) := by
  refine r_iload_n dX11_row_23 rfl rfl ?_
  refine r_aload_n dX11_row_24 rfl rfl ?_
  refine r_getR (b := 35) dX11_row_25 fX11_27 ob_0 (by decide) rfl rfl ?_
  refine r_callV (args := []) dX11_row_28 kX11_139 ob_35 ⟨_, _, rfl⟩ (by decide) rfl rfl (Nat.le_of_ble_eq_true rfl) cap0 (Ev.mono V ?_)
  rintro r h' ⟨x22, n21, rfl, rfl, V⟩
  show Rn w mX11_row (d + 1) G Q 31 [(0, vr 0), (1, vi x1), (2, vi x2), (3, vi x3)] [vi x22, vi x3] (B0, n21)
  obtain ⟨V1, V2⟩ := V
  refine r_jge (tgt := 57) dX11_row_31 (by decide) (fun c23 => ?_) (fun c23 => ?_)
  · have V := V1 c23
    refine r_aload_n dX11_row_57 rfl rfl ?_
    refine r_getR (b := 35) dX11_row_58 fX11_27 ob_0 (by decide) rfl rfl ?_
    refine r_iconst (x := 0) dX11_row_61 rfl (by decide) ?_
    refine r_callV (args := [vi 0]) dX11_row_62 kX11_143 ob_35 ⟨_, _, rfl⟩ (by decide) rfl rfl (Nat.le_of_ble_eq_true rfl) cap0 (Ev.mono V ?_)
    rintro r h' ⟨n24, rfl, rfl, V⟩
    show Rn w mX11_row (d + 1) G Q 65 [(0, vr 0), (1, vi x1), (2, vi x2), (3, vi x3)] [] (B0, n24)
    refine r_aload_n dX11_row_65 rfl rfl ?_
    refine r_iload_n dX11_row_66 rfl rfl ?_
    refine r_putI (fi := 12) (h' := (B0, upn n24 0 12 x2)) dX11_row_67 pX11_77 ob_0 (by decide) rfl rfl rfl ?_
    refine r_aload_n dX11_row_70 rfl rfl ?_
    refine r_iload_n dX11_row_71 rfl rfl ?_
    refine r_callV (args := [vi x1]) dX11_row_72 kX11_98 ob_0 ⟨_, _, rfl⟩ (by decide) rfl rfl (Nat.le_of_ble_eq_true rfl) cap0 (Ev.mono V ?_)
    rintro r h' ⟨x26, n25, rfl, rfl, V⟩
    show Rn w mX11_row (d + 1) G Q 75 [(0, vr 0), (1, vi x1), (2, vi x2), (3, vi x3)] [vi x26] (B0, n25)
    exact r_iret dX11_row_75 rfl V
  · have V := V2 c23
    refine r_aload_n dX11_row_34 rfl rfl ?_
    refine r_iload_n dX11_row_35 rfl rfl ?_
    refine r_callV (args := [vi x3]) dX11_row_36 kX11_146 ob_0 ⟨_, _, rfl⟩ (by decide) rfl rfl (Nat.le_of_ble_eq_true rfl) cap0 (Ev.mono V ?_)
    rintro r h' ⟨x28, n27, rfl, rfl, V⟩
    show Rn w mX11_row (d + 1) G Q 39 [(0, vr 0), (1, vi x1), (2, vi x2), (3, vi x3)] [vi x28] (B0, n27)
    obtain ⟨s30, V⟩ := V
    obtain ⟨s31, V⟩ := V
    have K : ∀ z32 z33 : Int, z32 = (if x28 = 0 then x1 else x1 + 1) → z33 = (if x28 = 0 then x2 + 1 else x2) → Rn w mX11_row (d + 1) G Q 51 [(0, vr 0), (1, vi z32), (2, vi z33), (3, vi x3)] [] (B0, n27) := by
      intro z32 z33 ez32 ez33
      have V := V z32 z33 ez32 ez33
      obtain ⟨s34, V⟩ := V
      refine r_iinc (y := x3 + 7) (ls' := [(0, vr 0), (1, vi z32), (2, vi z33), (3, vi (x3 + 7))]) dX11_row_51 rfl rfl s34 (by decide) rfl ?_
      refine r_goto (tgt := 23) dX11_row_54 (by decide) ?_
      exact V
    refine r_zeq (tgt := 48) dX11_row_39 (by decide) (fun c29 => ?_) (fun c29 => ?_)
    · refine r_iinc (y := x2 + 1) (ls' := [(0, vr 0), (1, vi x1), (2, vi (x2 + 1)), (3, vi x3)]) dX11_row_48 rfl rfl (s30 c29) (by decide) rfl ?_
      exact K x1 (x2 + 1) (by first | rfl | (simp only [if_pos c29])) (by first | rfl | (simp only [if_pos c29]))
    · refine r_iinc (y := x1 + 1) (ls' := [(0, vr 0), (1, vi (x1 + 1)), (2, vi x2), (3, vi x3)]) dX11_row_42 rfl rfl (s31 c29) (by decide) rfl ?_
      refine r_goto (tgt := 51) dX11_row_45 (by decide) ?_
      exact K (x1 + 1) x2 (by first | rfl | (simp only [if_neg c29])) (by first | rfl | (simp only [if_neg c29]))

theorem gX11_cousins_0 {w : WD} {d : Nat} {G : GM} {Q : Option AV → Hp → Prop} {n : NM}
    (V :
    Q (some (vi (n 0 12))) (B0, n)) :
    Rn w mX11_cousins d G Q 0 [(0, vr 0)] [] (B0, n) := by
  refine r_aload_n dX11_cousins_0 rfl rfl ?_
  refine r_getI (fi := 12) dX11_cousins_1 fX11_77 ob_0 (by decide) (by decide) rfl ?_
  exact r_iret dX11_cousins_4 rfl V

theorem gX11_law_0 {w : WD} {d : Nat} {G : GM} {Q : Option AV → Hp → Prop} {n : NM}
    (V :
    (Ev w d 0 0 mX3_read [vr 37, vr 35] (B0, n) (fun r h' => ∃ n21 : NM, r = none ∧ h' = (B0, n21) ∧ 
      (Ev w d 0 0 mX3_faultPlace [vr 37] (B0, n21) (fun r h' => ∃ (x23 : Int) (n22 : NM), r = some (vi x23) ∧ h' = (B0, n22) ∧ 
        (Ev w d 0 0 mX8_cutTo [vr 35, vi 0] (B0, upn n22 0 11 x23) (fun r h' => ∃ n24 : NM, r = none ∧ h' = (B0, n24) ∧ 
          ((n24 0 11 = (-1) →
            (Ev w d 0 0 mX3_draft [vr 37] (B0, n24) (fun r h' => ∃ n26 : NM, r = some (vr 42) ∧ h' = (B0, n26) ∧ 
              (Ev w d 0 0 mX2_copyFrom [vr 16, vr 42] (B0, n26) (fun r h' => ∃ n27 : NM, r = none ∧ h' = (B0, n27) ∧ 
                (Ev w d 0 0 mX2_size [vr 16] (B0, n27) (fun r h' => ∃ (x29 : Int) (n28 : NM), r = some (vi x29) ∧ h' = (B0, n28) ∧ 
                  (Ev w d 0 0 mX11_accept [vr 0, vi x29] (B0, n28) (fun r h' => ∃ (x31 : Int) (n30 : NM), r = some (vi x31) ∧ h' = (B0, n30) ∧ 
                    Q (some (vi x31)) (B0, n30)))))))))) ∧
          (n24 0 11 ≠ (-1) →
            (Ev w d 0 0 mX11_refuse [vr 0, vi (-6)] (B0, n24) (fun r h' => ∃ (x33 : Int) (n32 : NM), r = some (vi x33) ∧ h' = (B0, n32) ∧ 
              Q (some (vi x33)) (B0, n32)))))))))))) :
    Rn w mX11_law (d + 1) G Q 0 [(0, vr 0)] [] (B0, n) := by
  refine r_aload_n dX11_law_0 rfl rfl ?_
  refine r_getR (b := 37) dX11_law_1 fX11_34 ob_0 (by decide) rfl rfl ?_
  refine r_aload_n dX11_law_4 rfl rfl ?_
  refine r_getR (b := 35) dX11_law_5 fX11_27 ob_0 (by decide) rfl rfl ?_
  refine r_callV (args := [vr 35]) dX11_law_8 kX11_149 ob_37 ⟨_, _, rfl⟩ (by decide) rfl rfl (Nat.le_of_ble_eq_true rfl) cap0 (Ev.mono V ?_)
  rintro r h' ⟨n21, rfl, rfl, V⟩
  show Rn w mX11_law (d + 1) G Q 11 [(0, vr 0)] [] (B0, n21)
  refine r_aload_n dX11_law_11 rfl rfl ?_
  refine r_aload_n dX11_law_12 rfl rfl ?_
  refine r_getR (b := 37) dX11_law_13 fX11_34 ob_0 (by decide) rfl rfl ?_
  refine r_callV (args := []) dX11_law_16 kX11_153 ob_37 ⟨_, _, rfl⟩ (by decide) rfl rfl (Nat.le_of_ble_eq_true rfl) cap0 (Ev.mono V ?_)
  rintro r h' ⟨x23, n22, rfl, rfl, V⟩
  show Rn w mX11_law (d + 1) G Q 19 [(0, vr 0)] [vi x23, vr 0] (B0, n22)
  refine r_putI (fi := 11) (h' := (B0, upn n22 0 11 x23)) dX11_law_19 pX11_74 ob_0 (by decide) rfl rfl rfl ?_
  refine r_aload_n dX11_law_22 rfl rfl ?_
  refine r_getR (b := 35) dX11_law_23 fX11_27 ob_0 (by decide) rfl rfl ?_
  refine r_iconst (x := 0) dX11_law_26 rfl (by decide) ?_
  refine r_callV (args := [vi 0]) dX11_law_27 kX11_143 ob_35 ⟨_, _, rfl⟩ (by decide) rfl rfl (Nat.le_of_ble_eq_true rfl) cap0 (Ev.mono V ?_)
  rintro r h' ⟨n24, rfl, rfl, V⟩
  show Rn w mX11_law (d + 1) G Q 30 [(0, vr 0)] [] (B0, n24)
  refine r_aload_n dX11_law_30 rfl rfl ?_
  refine r_getI (fi := 11) dX11_law_31 fX11_74 ob_0 (by decide) (by decide) rfl ?_
  refine r_iconst (x := -1) dX11_law_34 rfl (by decide) ?_
  obtain ⟨V1, V2⟩ := V
  refine r_jeq (tgt := 45) dX11_law_35 (by decide) (fun c25 => ?_) (fun c25 => ?_)
  · have V := V1 c25
    refine r_aload_n dX11_law_45 rfl rfl ?_
    refine r_getR (b := 1) dX11_law_46 fX11_10 ob_0 (by decide) rfl rfl ?_
    refine r_getR (b := 16) dX11_law_49 fX11_156 ob_1 (by decide) rfl rfl ?_
    refine r_aload_n dX11_law_52 rfl rfl ?_
    refine r_getR (b := 37) dX11_law_53 fX11_34 ob_0 (by decide) rfl rfl ?_
    refine r_callV (args := []) dX11_law_56 kX11_160 ob_37 ⟨_, _, rfl⟩ (by decide) rfl rfl (Nat.le_of_ble_eq_true rfl) cap0 (Ev.mono V ?_)
    rintro r h' ⟨n26, rfl, rfl, V⟩
    show Rn w mX11_law (d + 1) G Q 59 [(0, vr 0)] [vr 42, vr 16] (B0, n26)
    refine r_callV (args := [vr 42]) dX11_law_59 kX11_164 ob_16 ⟨_, _, rfl⟩ (by decide) rfl rfl (Nat.le_of_ble_eq_true rfl) cap0 (Ev.mono V ?_)
    rintro r h' ⟨n27, rfl, rfl, V⟩
    show Rn w mX11_law (d + 1) G Q 62 [(0, vr 0)] [] (B0, n27)
    refine r_aload_n dX11_law_62 rfl rfl ?_
    refine r_aload_n dX11_law_63 rfl rfl ?_
    refine r_getR (b := 1) dX11_law_64 fX11_10 ob_0 (by decide) rfl rfl ?_
    refine r_getR (b := 16) dX11_law_67 fX11_156 ob_1 (by decide) rfl rfl ?_
    refine r_callV (args := []) dX11_law_70 kX11_170 ob_16 ⟨_, _, rfl⟩ (by decide) rfl rfl (Nat.le_of_ble_eq_true rfl) cap0 (Ev.mono V ?_)
    rintro r h' ⟨x29, n28, rfl, rfl, V⟩
    show Rn w mX11_law (d + 1) G Q 73 [(0, vr 0)] [vi x29, vr 0] (B0, n28)
    refine r_callV (args := [vi x29]) dX11_law_73 kX11_98 ob_0 ⟨_, _, rfl⟩ (by decide) rfl rfl (Nat.le_of_ble_eq_true rfl) cap0 (Ev.mono V ?_)
    rintro r h' ⟨x31, n30, rfl, rfl, V⟩
    show Rn w mX11_law (d + 1) G Q 76 [(0, vr 0)] [vi x31] (B0, n30)
    exact r_iret dX11_law_76 rfl V
  · have V := V2 c25
    refine r_aload_n dX11_law_38 rfl rfl ?_
    refine r_bipush (x := -6) dX11_law_39 (by decide +kernel) (by decide) ?_
    refine r_callV (args := [vi (-6)]) dX11_law_41 kX11_84 ob_0 ⟨_, _, rfl⟩ (by decide) rfl rfl (Nat.le_of_ble_eq_true rfl) cap0 (Ev.mono V ?_)
    rintro r h' ⟨x33, n32, rfl, rfl, V⟩
    show Rn w mX11_law (d + 1) G Q 44 [(0, vr 0)] [vi x33] (B0, n32)
    exact r_iret dX11_law_44 rfl V

theorem gX11_fault_0 {w : WD} {d : Nat} {G : GM} {Q : Option AV → Hp → Prop} {n : NM}
    (V :
    Q (some (vi (n 0 11))) (B0, n)) :
    Rn w mX11_fault d G Q 0 [(0, vr 0)] [] (B0, n) := by
  refine r_aload_n dX11_fault_0 rfl rfl ?_
  refine r_getI (fi := 11) dX11_fault_1 fX11_74 ob_0 (by decide) (by decide) rfl ?_
  exact r_iret dX11_fault_4 rfl V

theorem gX11_of_0 {w : WD} {d : Nat} {G : GM} {Q : Option AV → Hp → Prop} {n : NM} {x1 x2 : Int}
    (V :
    (Ev w d 0 0 mX7_holds [vr 14, vi x1] (B0, n) (fun r h' => ∃ (x22 : Int) (n21 : NM), r = some (vi x22) ∧ h' = (B0, n21) ∧ 
      ((x22 = 0 →
        Q (some (vi (-1))) (B0, n21)) ∧
      (x22 ≠ 0 →
        (Ev w d 0 0 mX11_within [vi x2, vi 0, vi 8] (B0, n21) (fun r h' => ∃ (x25 : Int) (n24 : NM), r = some (vi x25) ∧ h' = (B0, n24) ∧ 
          ((x25 ≠ 0 →
            ((x2 ≠ 7 →
              ((x2 ≠ 8 →
                (Ev w d 0 0 mX7_get [vr 14, vi x1, vi x2] (B0, n24) (fun r h' => ∃ (x30 : Int) (n29 : NM), r = some (vi x30) ∧ h' = (B0, n29) ∧ 
                  Q (some (vi x30)) (B0, n29)))) ∧
              (x2 = 8 →
                (Ev w d 0 0 mX0_ask [vr 47, vr 1, vi x1] (B0, n24) (fun r h' => ∃ n31 : NM, r = none ∧ h' = (B0, n31) ∧ 
                  (Ev w d 0 0 mX0_hundredths [vr 47] (B0, n31) (fun r h' => ∃ (x33 : Int) (n32 : NM), r = some (vi x33) ∧ h' = (B0, n32) ∧ 
                    Q (some (vi x33)) (B0, n32)))))))) ∧
            (x2 = 7 →
              (Ev w d 0 0 mX1_goneAtSight [vr 1, vi x1] (B0, n24) (fun r h' => ∃ (x35 : Int) (n34 : NM), r = some (vi x35) ∧ h' = (B0, n34) ∧ 
                Q (some (vi x35)) (B0, n34)))))) ∧
          (x25 = 0 →
            Q (some (vi (-1))) (B0, n24)))))))))) :
    Rn w mX11_of (d + 1) G Q 0 [(0, vr 0), (1, vi x1), (2, vi x2)] [] (B0, n) := by
  refine r_aload_n dX11_of_0 rfl rfl ?_
  refine r_getR (b := 1) dX11_of_1 fX11_10 ob_0 (by decide) rfl rfl ?_
  refine r_getR (b := 14) dX11_of_4 fX11_171 ob_1 (by decide) rfl rfl ?_
  refine r_iload_n dX11_of_7 rfl rfl ?_
  refine r_callV (args := [vi x1]) dX11_of_8 kX11_117 ob_14 ⟨_, _, rfl⟩ (by decide) rfl rfl (Nat.le_of_ble_eq_true rfl) cap0 (Ev.mono V ?_)
  rintro r h' ⟨x22, n21, rfl, rfl, V⟩
  show Rn w mX11_of (d + 1) G Q 11 [(0, vr 0), (1, vi x1), (2, vi x2)] [vi x22] (B0, n21)
  obtain ⟨V1, V2⟩ := V
  refine r_zeq (tgt := 24) dX11_of_11 (by decide) (fun c23 => ?_) (fun c23 => ?_)
  · have V := V1 c23
    refine r_iconst (x := -1) dX11_of_24 rfl (by decide) ?_
    exact r_iret dX11_of_25 rfl V
  · have V := V2 c23
    refine r_iload_n dX11_of_14 rfl rfl ?_
    refine r_iconst (x := 0) dX11_of_15 rfl (by decide) ?_
    refine r_bipush (x := 8) dX11_of_16 (by decide +kernel) (by decide) ?_
    refine r_callS (args := [vi x2, vi 0, vi 8]) dX11_of_18 kX11_80 rfl rfl (Nat.le_of_ble_eq_true rfl) cap0 (Ev.mono V ?_)
    rintro r h' ⟨x25, n24, rfl, rfl, V⟩
    show Rn w mX11_of (d + 1) G Q 21 [(0, vr 0), (1, vi x1), (2, vi x2)] [vi x25] (B0, n24)
    obtain ⟨V1, V2⟩ := V
    refine r_zne (tgt := 26) dX11_of_21 (by decide) (fun c26 => ?_) (fun c26 => ?_)
    · have V := V1 c26
      refine r_iload_n dX11_of_26 rfl rfl ?_
      refine r_bipush (x := 7) dX11_of_27 (by decide +kernel) (by decide) ?_
      obtain ⟨V1, V2⟩ := V
      refine r_jne (tgt := 41) dX11_of_29 (by decide) (fun c27 => ?_) (fun c27 => ?_)
      · have V := V1 c27
        refine r_iload_n dX11_of_41 rfl rfl ?_
        refine r_bipush (x := 8) dX11_of_42 (by decide +kernel) (by decide) ?_
        obtain ⟨V1, V2⟩ := V
        refine r_jne (tgt := 67) dX11_of_44 (by decide) (fun c28 => ?_) (fun c28 => ?_)
        · have V := V1 c28
          refine r_aload_n dX11_of_67 rfl rfl ?_
          refine r_getR (b := 1) dX11_of_68 fX11_10 ob_0 (by decide) rfl rfl ?_
          refine r_getR (b := 14) dX11_of_71 fX11_171 ob_1 (by decide) rfl rfl ?_
          refine r_iload_n dX11_of_74 rfl rfl ?_
          refine r_iload_n dX11_of_75 rfl rfl ?_
          refine r_callV (args := [vi x1, vi x2]) dX11_of_76 kX11_184 ob_14 ⟨_, _, rfl⟩ (by decide) rfl rfl (Nat.le_of_ble_eq_true rfl) cap0 (Ev.mono V ?_)
          rintro r h' ⟨x30, n29, rfl, rfl, V⟩
          show Rn w mX11_of (d + 1) G Q 79 [(0, vr 0), (1, vi x1), (2, vi x2)] [vi x30] (B0, n29)
          exact r_iret dX11_of_79 rfl V
        · have V := V2 c28
          refine r_aload_n dX11_of_47 rfl rfl ?_
          refine r_getR (b := 47) dX11_of_48 fX11_41 ob_0 (by decide) rfl rfl ?_
          refine r_aload_n dX11_of_51 rfl rfl ?_
          refine r_getR (b := 1) dX11_of_52 fX11_10 ob_0 (by decide) rfl rfl ?_
          refine r_iload_n dX11_of_55 rfl rfl ?_
          refine r_callV (args := [vr 1, vi x1]) dX11_of_56 kX11_177 ob_47 ⟨_, _, rfl⟩ (by decide) rfl rfl (Nat.le_of_ble_eq_true rfl) cap0 (Ev.mono V ?_)
          rintro r h' ⟨n31, rfl, rfl, V⟩
          show Rn w mX11_of (d + 1) G Q 59 [(0, vr 0), (1, vi x1), (2, vi x2)] [] (B0, n31)
          refine r_aload_n dX11_of_59 rfl rfl ?_
          refine r_getR (b := 47) dX11_of_60 fX11_41 ob_0 (by decide) rfl rfl ?_
          refine r_callV (args := []) dX11_of_63 kX11_181 ob_47 ⟨_, _, rfl⟩ (by decide) rfl rfl (Nat.le_of_ble_eq_true rfl) cap0 (Ev.mono V ?_)
          rintro r h' ⟨x33, n32, rfl, rfl, V⟩
          show Rn w mX11_of (d + 1) G Q 66 [(0, vr 0), (1, vi x1), (2, vi x2)] [vi x33] (B0, n32)
          exact r_iret dX11_of_66 rfl V
      · have V := V2 c27
        refine r_aload_n dX11_of_32 rfl rfl ?_
        refine r_getR (b := 1) dX11_of_33 fX11_10 ob_0 (by decide) rfl rfl ?_
        refine r_iload_n dX11_of_36 rfl rfl ?_
        refine r_callV (args := [vi x1]) dX11_of_37 kX11_174 ob_1 ⟨_, _, rfl⟩ (by decide) rfl rfl (Nat.le_of_ble_eq_true rfl) cap0 (Ev.mono V ?_)
        rintro r h' ⟨x35, n34, rfl, rfl, V⟩
        show Rn w mX11_of (d + 1) G Q 40 [(0, vr 0), (1, vi x1), (2, vi x2)] [vi x35] (B0, n34)
        exact r_iret dX11_of_40 rfl V
    · have V := V2 c26
      refine r_iconst (x := -1) dX11_of_24 rfl (by decide) ?_
      exact r_iret dX11_of_25 rfl V

theorem gX11_there_0 {w : WD} {d : Nat} {G : GM} {Q : Option AV → Hp → Prop} {n : NM} {x1 : Int}
    (V :
    (Ev w d 0 0 mX7_holds [vr 14, vi x1] (B0, n) (fun r h' => ∃ (x22 : Int) (n21 : NM), r = some (vi x22) ∧ h' = (B0, n21) ∧ 
      ((x22 ≠ 0 →
        (Ev w d 0 0 mX1_causesOf [vr 1, vi x1] (B0, n21) (fun r h' => ∃ (x25 : Int) (n24 : NM), r = some (vi x25) ∧ h' = (B0, n24) ∧ 
          Q (some (vi x25)) (B0, n24)))) ∧
      (x22 = 0 →
        Q (some (vi (-1))) (B0, n21)))))) :
    Rn w mX11_there (d + 1) G Q 0 [(0, vr 0), (1, vi x1)] [] (B0, n) := by
  refine r_aload_n dX11_there_0 rfl rfl ?_
  refine r_getR (b := 1) dX11_there_1 fX11_10 ob_0 (by decide) rfl rfl ?_
  refine r_getR (b := 14) dX11_there_4 fX11_171 ob_1 (by decide) rfl rfl ?_
  refine r_iload_n dX11_there_7 rfl rfl ?_
  refine r_callV (args := [vi x1]) dX11_there_8 kX11_117 ob_14 ⟨_, _, rfl⟩ (by decide) rfl rfl (Nat.le_of_ble_eq_true rfl) cap0 (Ev.mono V ?_)
  rintro r h' ⟨x22, n21, rfl, rfl, V⟩
  show Rn w mX11_there (d + 1) G Q 11 [(0, vr 0), (1, vi x1)] [vi x22] (B0, n21)
  obtain ⟨V1, V2⟩ := V
  refine r_zne (tgt := 16) dX11_there_11 (by decide) (fun c23 => ?_) (fun c23 => ?_)
  · have V := V1 c23
    refine r_aload_n dX11_there_16 rfl rfl ?_
    refine r_getR (b := 1) dX11_there_17 fX11_10 ob_0 (by decide) rfl rfl ?_
    refine r_iload_n dX11_there_20 rfl rfl ?_
    refine r_callV (args := [vi x1]) dX11_there_21 kX11_188 ob_1 ⟨_, _, rfl⟩ (by decide) rfl rfl (Nat.le_of_ble_eq_true rfl) cap0 (Ev.mono V ?_)
    rintro r h' ⟨x25, n24, rfl, rfl, V⟩
    show Rn w mX11_there (d + 1) G Q 24 [(0, vr 0), (1, vi x1)] [vi x25] (B0, n24)
    exact r_iret dX11_there_24 rfl V
  · have V := V2 c23
    refine r_iconst (x := -1) dX11_there_14 rfl (by decide) ?_
    exact r_iret dX11_there_15 rfl V

theorem gX11_odds_0 {w : WD} {d : Nat} {G : GM} {Q : Option AV → Hp → Prop} {n : NM} {x1 x2 x3 : Int}
    (V :
    (Ev w d 0 0 mX7_holds [vr 14, vi x1] (B0, n) (fun r h' => ∃ (x22 : Int) (n21 : NM), r = some (vi x22) ∧ h' = (B0, n21) ∧ 
      ((x22 = 0 →
        Q (some (vi (-1))) (B0, n21)) ∧
      (x22 ≠ 0 →
        (Ev w d 0 0 mX11_within [vi x2, vi 0, vi 4] (B0, n21) (fun r h' => ∃ (x25 : Int) (n24 : NM), r = some (vi x25) ∧ h' = (B0, n24) ∧ 
          ((x25 = 0 →
            Q (some (vi (-1))) (B0, n24)) ∧
          (x25 ≠ 0 →
            (Ev w d 0 0 mX11_within [vi x3, vi 0, vi 1] (B0, n24) (fun r h' => ∃ (x28 : Int) (n27 : NM), r = some (vi x28) ∧ h' = (B0, n27) ∧ 
              ((x28 ≠ 0 →
                (Ev w d 0 0 mX0_ask [vr 47, vr 1, vi x1] (B0, n27) (fun r h' => ∃ n30 : NM, r = none ∧ h' = (B0, n30) ∧ 
                  (Ev w d 0 0 mX0_weightOfAll [vr 47] (B0, n30) (fun r h' => ∃ (x32 : Int) (n31 : NM), r = some (vi x32) ∧ h' = (B0, n31) ∧ 
                    (Ev w d 0 0 mX0_weightOf [vr 47, vi x2] (B0, n31) (fun r h' => ∃ (x34 : Int) (n33 : NM), r = some (vi x34) ∧ h' = (B0, n33) ∧ 
                      (Ev w d 0 0 mX11_greatestDivisor [vi x34, vi x32] (B0, n33) (fun r h' => ∃ (x36 : Int) (n35 : NM), r = some (vi x36) ∧ h' = (B0, n35) ∧ 
                        ((x32 = 0 →
                          Q (some (vi (-1))) (B0, n35)) ∧
                        (x32 ≠ 0 →
                          ((x36 ≠ 0 →
                            ((x3 ≠ 0 →
                              (0 ≤ x32) ∧
                              (0 < x36) ∧
                              Q (some (vi (x32 / x36))) (B0, n35)) ∧
                            (x3 = 0 →
                              (0 ≤ x34) ∧
                              (0 < x36) ∧
                              Q (some (vi (x34 / x36))) (B0, n35)))) ∧
                          (x36 = 0 →
                            Q (some (vi (-1))) (B0, n35)))))))))))))) ∧
              (x28 = 0 →
                Q (some (vi (-1))) (B0, n27)))))))))))))) :
    Rn w mX11_odds (d + 1) G Q 0 [(0, vr 0), (1, vi x1), (2, vi x2), (3, vi x3)] [] (B0, n) := by
  refine r_aload_n dX11_odds_0 rfl rfl ?_
  refine r_getR (b := 1) dX11_odds_1 fX11_10 ob_0 (by decide) rfl rfl ?_
  refine r_getR (b := 14) dX11_odds_4 fX11_171 ob_1 (by decide) rfl rfl ?_
  refine r_iload_n dX11_odds_7 rfl rfl ?_
  refine r_callV (args := [vi x1]) dX11_odds_8 kX11_117 ob_14 ⟨_, _, rfl⟩ (by decide) rfl rfl (Nat.le_of_ble_eq_true rfl) cap0 (Ev.mono V ?_)
  rintro r h' ⟨x22, n21, rfl, rfl, V⟩
  show Rn w mX11_odds (d + 1) G Q 11 [(0, vr 0), (1, vi x1), (2, vi x2), (3, vi x3)] [vi x22] (B0, n21)
  obtain ⟨V1, V2⟩ := V
  refine r_zeq (tgt := 32) dX11_odds_11 (by decide) (fun c23 => ?_) (fun c23 => ?_)
  · have V := V1 c23
    refine r_iconst (x := -1) dX11_odds_32 rfl (by decide) ?_
    exact r_iret dX11_odds_33 rfl V
  · have V := V2 c23
    refine r_iload_n dX11_odds_14 rfl rfl ?_
    refine r_iconst (x := 0) dX11_odds_15 rfl (by decide) ?_
    refine r_iconst (x := 4) dX11_odds_16 rfl (by decide) ?_
    refine r_callS (args := [vi x2, vi 0, vi 4]) dX11_odds_17 kX11_80 rfl rfl (Nat.le_of_ble_eq_true rfl) cap0 (Ev.mono V ?_)
    rintro r h' ⟨x25, n24, rfl, rfl, V⟩
    show Rn w mX11_odds (d + 1) G Q 20 [(0, vr 0), (1, vi x1), (2, vi x2), (3, vi x3)] [vi x25] (B0, n24)
    obtain ⟨V1, V2⟩ := V
    refine r_zeq (tgt := 32) dX11_odds_20 (by decide) (fun c26 => ?_) (fun c26 => ?_)
    · have V := V1 c26
      refine r_iconst (x := -1) dX11_odds_32 rfl (by decide) ?_
      exact r_iret dX11_odds_33 rfl V
    · have V := V2 c26
      refine r_iload_n dX11_odds_23 rfl rfl ?_
      refine r_iconst (x := 0) dX11_odds_24 rfl (by decide) ?_
      refine r_iconst (x := 1) dX11_odds_25 rfl (by decide) ?_
      refine r_callS (args := [vi x3, vi 0, vi 1]) dX11_odds_26 kX11_80 rfl rfl (Nat.le_of_ble_eq_true rfl) cap0 (Ev.mono V ?_)
      rintro r h' ⟨x28, n27, rfl, rfl, V⟩
      show Rn w mX11_odds (d + 1) G Q 29 [(0, vr 0), (1, vi x1), (2, vi x2), (3, vi x3)] [vi x28] (B0, n27)
      obtain ⟨V1, V2⟩ := V
      refine r_zne (tgt := 34) dX11_odds_29 (by decide) (fun c29 => ?_) (fun c29 => ?_)
      · have V := V1 c29
        refine r_aload_n dX11_odds_34 rfl rfl ?_
        refine r_getR (b := 47) dX11_odds_35 fX11_41 ob_0 (by decide) rfl rfl ?_
        refine r_aload_n dX11_odds_38 rfl rfl ?_
        refine r_getR (b := 1) dX11_odds_39 fX11_10 ob_0 (by decide) rfl rfl ?_
        refine r_iload_n dX11_odds_42 rfl rfl ?_
        refine r_callV (args := [vr 1, vi x1]) dX11_odds_43 kX11_177 ob_47 ⟨_, _, rfl⟩ (by decide) rfl rfl (Nat.le_of_ble_eq_true rfl) cap0 (Ev.mono V ?_)
        rintro r h' ⟨n30, rfl, rfl, V⟩
        show Rn w mX11_odds (d + 1) G Q 46 [(0, vr 0), (1, vi x1), (2, vi x2), (3, vi x3)] [] (B0, n30)
        refine r_aload_n dX11_odds_46 rfl rfl ?_
        refine r_getR (b := 47) dX11_odds_47 fX11_41 ob_0 (by decide) rfl rfl ?_
        refine r_callV (args := []) dX11_odds_50 kX11_191 ob_47 ⟨_, _, rfl⟩ (by decide) rfl rfl (Nat.le_of_ble_eq_true rfl) cap0 (Ev.mono V ?_)
        rintro r h' ⟨x32, n31, rfl, rfl, V⟩
        show Rn w mX11_odds (d + 1) G Q 53 [(0, vr 0), (1, vi x1), (2, vi x2), (3, vi x3)] [vi x32] (B0, n31)
        refine r_istore (ls' := [(0, vr 0), (1, vi x1), (2, vi x2), (3, vi x3), (4, vi x32)]) dX11_odds_53 (by decide) rfl ?_
        refine r_aload_n dX11_odds_55 rfl rfl ?_
        refine r_getR (b := 47) dX11_odds_56 fX11_41 ob_0 (by decide) rfl rfl ?_
        refine r_iload_n dX11_odds_59 rfl rfl ?_
        refine r_callV (args := [vi x2]) dX11_odds_60 kX11_194 ob_47 ⟨_, _, rfl⟩ (by decide) rfl rfl (Nat.le_of_ble_eq_true rfl) cap0 (Ev.mono V ?_)
        rintro r h' ⟨x34, n33, rfl, rfl, V⟩
        show Rn w mX11_odds (d + 1) G Q 63 [(0, vr 0), (1, vi x1), (2, vi x2), (3, vi x3), (4, vi x32)] [vi x34] (B0, n33)
        refine r_istore (ls' := [(0, vr 0), (1, vi x1), (2, vi x2), (3, vi x3), (4, vi x32), (5, vi x34)]) dX11_odds_63 (by decide) rfl ?_
        refine r_iload dX11_odds_65 rfl ?_
        refine r_iload dX11_odds_67 rfl ?_
        refine r_callS (args := [vi x34, vi x32]) dX11_odds_69 kX11_197 rfl rfl (Nat.le_of_ble_eq_true rfl) cap0 (Ev.mono V ?_)
        rintro r h' ⟨x36, n35, rfl, rfl, V⟩
        show Rn w mX11_odds (d + 1) G Q 72 [(0, vr 0), (1, vi x1), (2, vi x2), (3, vi x3), (4, vi x32), (5, vi x34)] [vi x36] (B0, n35)
        refine r_istore (ls' := [(0, vr 0), (1, vi x1), (2, vi x2), (3, vi x3), (4, vi x32), (5, vi x34), (6, vi x36)]) dX11_odds_72 (by decide) rfl ?_
        refine r_iload dX11_odds_74 rfl ?_
        obtain ⟨V1, V2⟩ := V
        refine r_zeq (tgt := 84) dX11_odds_76 (by decide) (fun c37 => ?_) (fun c37 => ?_)
        · have V := V1 c37
          refine r_iconst (x := -1) dX11_odds_84 rfl (by decide) ?_
          exact r_iret dX11_odds_85 rfl V
        · have V := V2 c37
          refine r_iload dX11_odds_79 rfl ?_
          obtain ⟨V1, V2⟩ := V
          refine r_zne (tgt := 86) dX11_odds_81 (by decide) (fun c38 => ?_) (fun c38 => ?_)
          · have V := V1 c38
            refine r_iload_n dX11_odds_86 rfl rfl ?_
            obtain ⟨V1, V2⟩ := V
            refine r_zne (tgt := 98) dX11_odds_87 (by decide) (fun c39 => ?_) (fun c39 => ?_)
            · have V := V1 c39
              refine r_iload dX11_odds_98 rfl ?_
              refine r_iload dX11_odds_100 rfl ?_
              obtain ⟨s40, V⟩ := V
              obtain ⟨s41, V⟩ := V
              refine r_idiv dX11_odds_102 s40 s41 ?_
              exact r_iret dX11_odds_103 rfl V
            · have V := V2 c39
              refine r_iload dX11_odds_90 rfl ?_
              refine r_iload dX11_odds_92 rfl ?_
              obtain ⟨s42, V⟩ := V
              obtain ⟨s43, V⟩ := V
              refine r_idiv dX11_odds_94 s42 s43 ?_
              refine r_goto (tgt := 103) dX11_odds_95 (by decide) ?_
              exact r_iret dX11_odds_103 rfl V
          · have V := V2 c38
            refine r_iconst (x := -1) dX11_odds_84 rfl (by decide) ?_
            exact r_iret dX11_odds_85 rfl V
      · have V := V2 c29
        refine r_iconst (x := -1) dX11_odds_32 rfl (by decide) ?_
        exact r_iret dX11_odds_33 rfl V

theorem gX11_unknown_0 {w : WD} {d : Nat} {G : GM} {Q : Option AV → Hp → Prop} {n : NM} {x1 x2 : Int}
    (V :
    (Ev w d 0 0 mX11_within [vi x1, vi 0, vi 1] (B0, n) (fun r h' => ∃ (x22 : Int) (n21 : NM), r = some (vi x22) ∧ h' = (B0, n21) ∧ 
      ((x22 ≠ 0 →
        Rn w mX11_unknown (d + 1) G Q 16 [(0, vr 0), (1, vi x1), (2, vi x2), (3, vi 0), (4, vi 0)] [] (B0, n21)) ∧
      (x22 = 0 →
        Q (some (vi (-1))) (B0, n21)))))) :
    Rn w mX11_unknown (d + 1) G Q 0 [(0, vr 0), (1, vi x1), (2, vi x2)] [] (B0, n) := by
  refine r_iload_n dX11_unknown_0 rfl rfl ?_
  refine r_iconst (x := 0) dX11_unknown_1 rfl (by decide) ?_
  refine r_iconst (x := 1) dX11_unknown_2 rfl (by decide) ?_
  refine r_callS (args := [vi x1, vi 0, vi 1]) dX11_unknown_3 kX11_80 rfl rfl (Nat.le_of_ble_eq_true rfl) cap0 (Ev.mono V ?_)
  rintro r h' ⟨x22, n21, rfl, rfl, V⟩
  show Rn w mX11_unknown (d + 1) G Q 6 [(0, vr 0), (1, vi x1), (2, vi x2)] [vi x22] (B0, n21)
  obtain ⟨V1, V2⟩ := V
  refine r_zne (tgt := 11) dX11_unknown_6 (by decide) (fun c23 => ?_) (fun c23 => ?_)
  · have V := V1 c23
    refine r_iconst (x := 0) dX11_unknown_11 rfl (by decide) ?_
    refine r_istore_n (ls' := [(0, vr 0), (1, vi x1), (2, vi x2), (3, vi 0)]) dX11_unknown_12 rfl (by decide) rfl ?_
    refine r_iconst (x := 0) dX11_unknown_13 rfl (by decide) ?_
    refine r_istore (ls' := [(0, vr 0), (1, vi x1), (2, vi x2), (3, vi 0), (4, vi 0)]) dX11_unknown_14 (by decide) rfl ?_
    exact V
  · have V := V2 c23
    refine r_iconst (x := -1) dX11_unknown_9 rfl (by decide) ?_
    exact r_iret dX11_unknown_10 rfl V

theorem gX11_unknown_16 {w : WD} {d : Nat} {G : GM} {Q : Option AV → Hp → Prop} {n : NM} {x1 x2 x3 x4 : Int}
    (V :
    (Ev w d 0 0 mX7_size [vr 14] (B0, n) (fun r h' => ∃ (x22 : Int) (n21 : NM), r = some (vi x22) ∧ h' = (B0, n21) ∧ 
      ((x22 ≤ x4 →
        ((x1 ≠ 0 →
          Q (some (vi (-1))) (B0, n21)) ∧
        (x1 = 0 →
          Q (some (vi x3)) (B0, n21)))) ∧
      (x4 < x22 →
        (Ev w d 0 0 mX0_ask [vr 47, vr 1, vi x4] (B0, n21) (fun r h' => ∃ n25 : NM, r = none ∧ h' = (B0, n25) ∧ 
          (Ev w d 0 0 mX0_weightOfAll [vr 47] (B0, n25) (fun r h' => ∃ (x27 : Int) (n26 : NM), r = some (vi x27) ∧ h' = (B0, n26) ∧ 
            ((x27 ≠ 0 →
              (inI (x4 + 1)) ∧
              Rn w mX11_unknown (d + 1) G Q 16 [(0, vr 0), (1, vi x1), (2, vi x2), (3, vi x3), (4, vi (x4 + 1))] [] (B0, n26)) ∧
            (x27 = 0 →
              ((x1 ≠ 1 →
                (inI (x3 + 1)) ∧
                (inI (x4 + 1)) ∧
                Rn w mX11_unknown (d + 1) G Q 16 [(0, vr 0), (1, vi x1), (2, vi x2), (3, vi (x3 + 1)), (4, vi (x4 + 1))] [] (B0, n26)) ∧
              (x1 = 1 →
                ((x3 ≠ x2 →
                  (inI (x3 + 1)) ∧
                  (inI (x4 + 1)) ∧
                  Rn w mX11_unknown (d + 1) G Q 16 [(0, vr 0), (1, vi x1), (2, vi x2), (3, vi (x3 + 1)), (4, vi (x4 + 1))] [] (B0, n26)) ∧
                (x3 = x2 →
                  Q (some (vi x4)) (B0, n26)))))))))))))))) :
    Rn w mX11_unknown (d + 1) G Q 16 [(0, vr 0), (1, vi x1), (2, vi x2), (3, vi x3), (4, vi x4)] [] (B0, n) := by
  refine r_iload dX11_unknown_16 rfl ?_
  refine r_aload_n dX11_unknown_18 rfl rfl ?_
  refine r_getR (b := 1) dX11_unknown_19 fX11_10 ob_0 (by decide) rfl rfl ?_
  refine r_getR (b := 14) dX11_unknown_22 fX11_171 ob_1 (by decide) rfl rfl ?_
  refine r_callV (args := []) dX11_unknown_25 kX11_200 ob_14 ⟨_, _, rfl⟩ (by decide) rfl rfl (Nat.le_of_ble_eq_true rfl) cap0 (Ev.mono V ?_)
  rintro r h' ⟨x22, n21, rfl, rfl, V⟩
  show Rn w mX11_unknown (d + 1) G Q 28 [(0, vr 0), (1, vi x1), (2, vi x2), (3, vi x3), (4, vi x4)] [vi x22, vi x4] (B0, n21)
  obtain ⟨V1, V2⟩ := V
  refine r_jge (tgt := 76) dX11_unknown_28 (by decide) (fun c23 => ?_) (fun c23 => ?_)
  · have V := V1 c23
    refine r_iload_n dX11_unknown_76 rfl rfl ?_
    obtain ⟨V1, V2⟩ := V
    refine r_zne (tgt := 84) dX11_unknown_77 (by decide) (fun c24 => ?_) (fun c24 => ?_)
    · have V := V1 c24
      refine r_iconst (x := -1) dX11_unknown_84 rfl (by decide) ?_
      exact r_iret dX11_unknown_85 rfl V
    · have V := V2 c24
      refine r_iload_n dX11_unknown_80 rfl rfl ?_
      refine r_goto (tgt := 85) dX11_unknown_81 (by decide) ?_
      exact r_iret dX11_unknown_85 rfl V
  · have V := V2 c23
    refine r_aload_n dX11_unknown_31 rfl rfl ?_
    refine r_getR (b := 47) dX11_unknown_32 fX11_41 ob_0 (by decide) rfl rfl ?_
    refine r_aload_n dX11_unknown_35 rfl rfl ?_
    refine r_getR (b := 1) dX11_unknown_36 fX11_10 ob_0 (by decide) rfl rfl ?_
    refine r_iload dX11_unknown_39 rfl ?_
    refine r_callV (args := [vr 1, vi x4]) dX11_unknown_41 kX11_177 ob_47 ⟨_, _, rfl⟩ (by decide) rfl rfl (Nat.le_of_ble_eq_true rfl) cap0 (Ev.mono V ?_)
    rintro r h' ⟨n25, rfl, rfl, V⟩
    show Rn w mX11_unknown (d + 1) G Q 44 [(0, vr 0), (1, vi x1), (2, vi x2), (3, vi x3), (4, vi x4)] [] (B0, n25)
    refine r_aload_n dX11_unknown_44 rfl rfl ?_
    refine r_getR (b := 47) dX11_unknown_45 fX11_41 ob_0 (by decide) rfl rfl ?_
    refine r_callV (args := []) dX11_unknown_48 kX11_191 ob_47 ⟨_, _, rfl⟩ (by decide) rfl rfl (Nat.le_of_ble_eq_true rfl) cap0 (Ev.mono V ?_)
    rintro r h' ⟨x27, n26, rfl, rfl, V⟩
    show Rn w mX11_unknown (d + 1) G Q 51 [(0, vr 0), (1, vi x1), (2, vi x2), (3, vi x3), (4, vi x4)] [vi x27] (B0, n26)
    obtain ⟨V1, V2⟩ := V
    refine r_zne (tgt := 70) dX11_unknown_51 (by decide) (fun c28 => ?_) (fun c28 => ?_)
    · have V := V1 c28
      obtain ⟨s29, V⟩ := V
      refine r_iinc (y := x4 + 1) (ls' := [(0, vr 0), (1, vi x1), (2, vi x2), (3, vi x3), (4, vi (x4 + 1))]) dX11_unknown_70 rfl rfl s29 (by decide) rfl ?_
      refine r_goto (tgt := 16) dX11_unknown_73 (by decide) ?_
      exact V
    · have V := V2 c28
      refine r_iload_n dX11_unknown_54 rfl rfl ?_
      refine r_iconst (x := 1) dX11_unknown_55 rfl (by decide) ?_
      obtain ⟨V1, V2⟩ := V
      refine r_jne (tgt := 67) dX11_unknown_56 (by decide) (fun c30 => ?_) (fun c30 => ?_)
      · have V := V1 c30
        obtain ⟨s31, V⟩ := V
        refine r_iinc (y := x3 + 1) (ls' := [(0, vr 0), (1, vi x1), (2, vi x2), (3, vi (x3 + 1)), (4, vi x4)]) dX11_unknown_67 rfl rfl s31 (by decide) rfl ?_
        obtain ⟨s32, V⟩ := V
        refine r_iinc (y := x4 + 1) (ls' := [(0, vr 0), (1, vi x1), (2, vi x2), (3, vi (x3 + 1)), (4, vi (x4 + 1))]) dX11_unknown_70 rfl rfl s32 (by decide) rfl ?_
        refine r_goto (tgt := 16) dX11_unknown_73 (by decide) ?_
        exact V
      · have V := V2 c30
        refine r_iload_n dX11_unknown_59 rfl rfl ?_
        refine r_iload_n dX11_unknown_60 rfl rfl ?_
        obtain ⟨V1, V2⟩ := V
        refine r_jne (tgt := 67) dX11_unknown_61 (by decide) (fun c33 => ?_) (fun c33 => ?_)
        · have V := V1 c33
          obtain ⟨s34, V⟩ := V
          refine r_iinc (y := x3 + 1) (ls' := [(0, vr 0), (1, vi x1), (2, vi x2), (3, vi (x3 + 1)), (4, vi x4)]) dX11_unknown_67 rfl rfl s34 (by decide) rfl ?_
          obtain ⟨s35, V⟩ := V
          refine r_iinc (y := x4 + 1) (ls' := [(0, vr 0), (1, vi x1), (2, vi x2), (3, vi (x3 + 1)), (4, vi (x4 + 1))]) dX11_unknown_70 rfl rfl s35 (by decide) rfl ?_
          refine r_goto (tgt := 16) dX11_unknown_73 (by decide) ?_
          exact V
        · have V := V2 c33
          refine r_iload dX11_unknown_64 rfl ?_
          exact r_iret dX11_unknown_66 rfl V

theorem gX11_span_0 {w : WD} {d : Nat} {G : GM} {Q : Option AV → Hp → Prop} {n : NM} {x1 x2 : Int}
    (V :
    (Ev w d 0 0 mX7_holds [vr 14, vi x1] (B0, n) (fun r h' => ∃ (x22 : Int) (n21 : NM), r = some (vi x22) ∧ h' = (B0, n21) ∧ 
      ((x22 = 0 →
        Q (some (vi (-1))) (B0, n21)) ∧
      (x22 ≠ 0 →
        (Ev w d 0 0 mX11_within [vi x2, vi 0, vi 1] (B0, n21) (fun r h' => ∃ (x25 : Int) (n24 : NM), r = some (vi x25) ∧ h' = (B0, n24) ∧ 
          ((x25 ≠ 0 →
            (Ev w d 0 0 mX0_ask [vr 47, vr 1, vi x1] (B0, n24) (fun r h' => ∃ n27 : NM, r = none ∧ h' = (B0, n27) ∧ 
              (Ev w d 0 0 mX0_hundredths [vr 47] (B0, n27) (fun r h' => ∃ (x29 : Int) (n28 : NM), r = some (vi x29) ∧ h' = (B0, n28) ∧ 
                (Ev w d 0 0 mX1_spanOf [vr 1, vi x1, vi x2, vi x29] (B0, n28) (fun r h' => ∃ (x31 : Int) (n30 : NM), r = some (vi x31) ∧ h' = (B0, n30) ∧ 
                  Q (some (vi x31)) (B0, n30)))))))) ∧
          (x25 = 0 →
            Q (some (vi (-1))) (B0, n24)))))))))) :
    Rn w mX11_span (d + 1) G Q 0 [(0, vr 0), (1, vi x1), (2, vi x2)] [] (B0, n) := by
  refine r_aload_n dX11_span_0 rfl rfl ?_
  refine r_getR (b := 1) dX11_span_1 fX11_10 ob_0 (by decide) rfl rfl ?_
  refine r_getR (b := 14) dX11_span_4 fX11_171 ob_1 (by decide) rfl rfl ?_
  refine r_iload_n dX11_span_7 rfl rfl ?_
  refine r_callV (args := [vi x1]) dX11_span_8 kX11_117 ob_14 ⟨_, _, rfl⟩ (by decide) rfl rfl (Nat.le_of_ble_eq_true rfl) cap0 (Ev.mono V ?_)
  rintro r h' ⟨x22, n21, rfl, rfl, V⟩
  show Rn w mX11_span (d + 1) G Q 11 [(0, vr 0), (1, vi x1), (2, vi x2)] [vi x22] (B0, n21)
  obtain ⟨V1, V2⟩ := V
  refine r_zeq (tgt := 23) dX11_span_11 (by decide) (fun c23 => ?_) (fun c23 => ?_)
  · have V := V1 c23
    refine r_iconst (x := -1) dX11_span_23 rfl (by decide) ?_
    exact r_iret dX11_span_24 rfl V
  · have V := V2 c23
    refine r_iload_n dX11_span_14 rfl rfl ?_
    refine r_iconst (x := 0) dX11_span_15 rfl (by decide) ?_
    refine r_iconst (x := 1) dX11_span_16 rfl (by decide) ?_
    refine r_callS (args := [vi x2, vi 0, vi 1]) dX11_span_17 kX11_80 rfl rfl (Nat.le_of_ble_eq_true rfl) cap0 (Ev.mono V ?_)
    rintro r h' ⟨x25, n24, rfl, rfl, V⟩
    show Rn w mX11_span (d + 1) G Q 20 [(0, vr 0), (1, vi x1), (2, vi x2)] [vi x25] (B0, n24)
    obtain ⟨V1, V2⟩ := V
    refine r_zne (tgt := 25) dX11_span_20 (by decide) (fun c26 => ?_) (fun c26 => ?_)
    · have V := V1 c26
      refine r_aload_n dX11_span_25 rfl rfl ?_
      refine r_getR (b := 47) dX11_span_26 fX11_41 ob_0 (by decide) rfl rfl ?_
      refine r_aload_n dX11_span_29 rfl rfl ?_
      refine r_getR (b := 1) dX11_span_30 fX11_10 ob_0 (by decide) rfl rfl ?_
      refine r_iload_n dX11_span_33 rfl rfl ?_
      refine r_callV (args := [vr 1, vi x1]) dX11_span_34 kX11_177 ob_47 ⟨_, _, rfl⟩ (by decide) rfl rfl (Nat.le_of_ble_eq_true rfl) cap0 (Ev.mono V ?_)
      rintro r h' ⟨n27, rfl, rfl, V⟩
      show Rn w mX11_span (d + 1) G Q 37 [(0, vr 0), (1, vi x1), (2, vi x2)] [] (B0, n27)
      refine r_aload_n dX11_span_37 rfl rfl ?_
      refine r_getR (b := 1) dX11_span_38 fX11_10 ob_0 (by decide) rfl rfl ?_
      refine r_iload_n dX11_span_41 rfl rfl ?_
      refine r_iload_n dX11_span_42 rfl rfl ?_
      refine r_aload_n dX11_span_43 rfl rfl ?_
      refine r_getR (b := 47) dX11_span_44 fX11_41 ob_0 (by decide) rfl rfl ?_
      refine r_callV (args := []) dX11_span_47 kX11_181 ob_47 ⟨_, _, rfl⟩ (by decide) rfl rfl (Nat.le_of_ble_eq_true rfl) cap0 (Ev.mono V ?_)
      rintro r h' ⟨x29, n28, rfl, rfl, V⟩
      show Rn w mX11_span (d + 1) G Q 50 [(0, vr 0), (1, vi x1), (2, vi x2)] [vi x29, vi x2, vi x1, vr 1] (B0, n28)
      refine r_callV (args := [vi x1, vi x2, vi x29]) dX11_span_50 kX11_201 ob_1 ⟨_, _, rfl⟩ (by decide) rfl rfl (Nat.le_of_ble_eq_true rfl) cap0 (Ev.mono V ?_)
      rintro r h' ⟨x31, n30, rfl, rfl, V⟩
      show Rn w mX11_span (d + 1) G Q 53 [(0, vr 0), (1, vi x1), (2, vi x2)] [vi x31] (B0, n30)
      exact r_iret dX11_span_53 rfl V
    · have V := V2 c26
      refine r_iconst (x := -1) dX11_span_23 rfl (by decide) ?_
      exact r_iret dX11_span_24 rfl V

theorem gX11_most_0 {w : WD} {d : Nat} {G : GM} {Q : Option AV → Hp → Prop} {n : NM} {x1 : Int}
    (V :
    (Ev w d 0 0 mX11_within [vi x1, vi 0, vi 4] (B0, n) (fun r h' => ∃ (x22 : Int) (n21 : NM), r = some (vi x22) ∧ h' = (B0, n21) ∧ 
      ((x22 ≠ 0 →
        Rn w mX11_most (d + 1) G Q 15 [(0, vr 0), (1, vi x1), (2, vi 0), (3, vi 0)] [] (B0, n21)) ∧
      (x22 = 0 →
        Q (some (vi (-1))) (B0, n21)))))) :
    Rn w mX11_most (d + 1) G Q 0 [(0, vr 0), (1, vi x1)] [] (B0, n) := by
  refine r_iload_n dX11_most_0 rfl rfl ?_
  refine r_iconst (x := 0) dX11_most_1 rfl (by decide) ?_
  refine r_iconst (x := 4) dX11_most_2 rfl (by decide) ?_
  refine r_callS (args := [vi x1, vi 0, vi 4]) dX11_most_3 kX11_80 rfl rfl (Nat.le_of_ble_eq_true rfl) cap0 (Ev.mono V ?_)
  rintro r h' ⟨x22, n21, rfl, rfl, V⟩
  show Rn w mX11_most (d + 1) G Q 6 [(0, vr 0), (1, vi x1)] [vi x22] (B0, n21)
  obtain ⟨V1, V2⟩ := V
  refine r_zne (tgt := 11) dX11_most_6 (by decide) (fun c23 => ?_) (fun c23 => ?_)
  · have V := V1 c23
    refine r_iconst (x := 0) dX11_most_11 rfl (by decide) ?_
    refine r_istore_n (ls' := [(0, vr 0), (1, vi x1), (2, vi 0)]) dX11_most_12 rfl (by decide) rfl ?_
    refine r_iconst (x := 0) dX11_most_13 rfl (by decide) ?_
    refine r_istore_n (ls' := [(0, vr 0), (1, vi x1), (2, vi 0), (3, vi 0)]) dX11_most_14 rfl (by decide) rfl ?_
    exact V
  · have V := V2 c23
    refine r_iconst (x := -1) dX11_most_9 rfl (by decide) ?_
    exact r_iret dX11_most_10 rfl V

theorem gX11_most_15 {w : WD} {d : Nat} {G : GM} {Q : Option AV → Hp → Prop} {n : NM} {x1 x2 x3 : Int}
    (V :
    (Ev w d 0 0 mX7_size [vr 14] (B0, n) (fun r h' => ∃ (x22 : Int) (n21 : NM), r = some (vi x22) ∧ h' = (B0, n21) ∧ 
      ((x22 ≤ x3 →
        Q (some (vi x2)) (B0, n21)) ∧
      (x3 < x22 →
        (Ev w d 0 0 mX0_ask [vr 47, vr 1, vi x3] (B0, n21) (fun r h' => ∃ n24 : NM, r = none ∧ h' = (B0, n24) ∧ 
          (Ev w d 0 0 mX0_likeliestCause [vr 47] (B0, n24) (fun r h' => ∃ (x26 : Int) (n25 : NM), r = some (vi x26) ∧ h' = (B0, n25) ∧ 
            (x26 = x1 → inI (x2 + 1)) ∧
            (∀ z29 : Int, z29 = (if x26 ≠ x1 then x2 else x2 + 1) → 
            (inI (x3 + 1)) ∧
            Rn w mX11_most (d + 1) G Q 15 [(0, vr 0), (1, vi x1), (2, vi z29), (3, vi (x3 + 1))] [] (B0, n25))))))))))) :
    Rn w mX11_most (d + 1) G Q 15 [(0, vr 0), (1, vi x1), (2, vi x2), (3, vi x3)] [] (B0, n) := by
  refine r_iload_n dX11_most_15 rfl rfl ?_
  refine r_aload_n dX11_most_16 rfl rfl ?_
  refine r_getR (b := 1) dX11_most_17 fX11_10 ob_0 (by decide) rfl rfl ?_
  refine r_getR (b := 14) dX11_most_20 fX11_171 ob_1 (by decide) rfl rfl ?_
  refine r_callV (args := []) dX11_most_23 kX11_200 ob_14 ⟨_, _, rfl⟩ (by decide) rfl rfl (Nat.le_of_ble_eq_true rfl) cap0 (Ev.mono V ?_)
  rintro r h' ⟨x22, n21, rfl, rfl, V⟩
  show Rn w mX11_most (d + 1) G Q 26 [(0, vr 0), (1, vi x1), (2, vi x2), (3, vi x3)] [vi x22, vi x3] (B0, n21)
  obtain ⟨V1, V2⟩ := V
  refine r_jge (tgt := 61) dX11_most_26 (by decide) (fun c23 => ?_) (fun c23 => ?_)
  · have V := V1 c23
    refine r_iload_n dX11_most_61 rfl rfl ?_
    exact r_iret dX11_most_62 rfl V
  · have V := V2 c23
    refine r_aload_n dX11_most_29 rfl rfl ?_
    refine r_getR (b := 47) dX11_most_30 fX11_41 ob_0 (by decide) rfl rfl ?_
    refine r_aload_n dX11_most_33 rfl rfl ?_
    refine r_getR (b := 1) dX11_most_34 fX11_10 ob_0 (by decide) rfl rfl ?_
    refine r_iload_n dX11_most_37 rfl rfl ?_
    refine r_callV (args := [vr 1, vi x3]) dX11_most_38 kX11_177 ob_47 ⟨_, _, rfl⟩ (by decide) rfl rfl (Nat.le_of_ble_eq_true rfl) cap0 (Ev.mono V ?_)
    rintro r h' ⟨n24, rfl, rfl, V⟩
    show Rn w mX11_most (d + 1) G Q 41 [(0, vr 0), (1, vi x1), (2, vi x2), (3, vi x3)] [] (B0, n24)
    refine r_aload_n dX11_most_41 rfl rfl ?_
    refine r_getR (b := 47) dX11_most_42 fX11_41 ob_0 (by decide) rfl rfl ?_
    refine r_callV (args := []) dX11_most_45 kX11_204 ob_47 ⟨_, _, rfl⟩ (by decide) rfl rfl (Nat.le_of_ble_eq_true rfl) cap0 (Ev.mono V ?_)
    rintro r h' ⟨x26, n25, rfl, rfl, V⟩
    show Rn w mX11_most (d + 1) G Q 48 [(0, vr 0), (1, vi x1), (2, vi x2), (3, vi x3)] [vi x26] (B0, n25)
    refine r_iload_n dX11_most_48 rfl rfl ?_
    obtain ⟨s28, V⟩ := V
    have K : ∀ z29 : Int, z29 = (if x26 ≠ x1 then x2 else x2 + 1) → Rn w mX11_most (d + 1) G Q 55 [(0, vr 0), (1, vi x1), (2, vi z29), (3, vi x3)] [] (B0, n25) := by
      intro z29 ez29
      have V := V z29 ez29
      obtain ⟨s30, V⟩ := V
      refine r_iinc (y := x3 + 1) (ls' := [(0, vr 0), (1, vi x1), (2, vi z29), (3, vi (x3 + 1))]) dX11_most_55 rfl rfl s30 (by decide) rfl ?_
      refine r_goto (tgt := 15) dX11_most_58 (by decide) ?_
      exact V
    refine r_jne (tgt := 55) dX11_most_49 (by decide) (fun c27 => ?_) (fun c27 => ?_)
    · exact K x2 (by first | rfl | (simp only [if_pos c27]))
    · refine r_iinc (y := x2 + 1) (ls' := [(0, vr 0), (1, vi x1), (2, vi (x2 + 1)), (3, vi x3)]) dX11_most_52 rfl rfl (s28 c27) (by decide) rfl ?_
      exact K (x2 + 1) (by first | rfl | (simp only [if_neg (show ¬ (x26 ≠ x1) from not_not_intro c27)]))

theorem gX11_story_0 {w : WD} {d : Nat} {G : GM} {Q : Option AV → Hp → Prop} {n : NM} {x1 x2 x3 : Int}
    (V :
    (Ev w d 0 0 mX11_within [vi x1, vi 0, vi 100] (B0, n) (fun r h' => ∃ (x22 : Int) (n21 : NM), r = some (vi x22) ∧ h' = (B0, n21) ∧ 
      ((x22 = 0 →
        (Ev w d 0 0 mX11_refuse [vr 0, vi (-1)] (B0, n21) (fun r h' => ∃ (x25 : Int) (n24 : NM), r = some (vi x25) ∧ h' = (B0, n24) ∧ 
          Q (some (vi x25)) (B0, n24)))) ∧
      (x22 ≠ 0 →
        (Ev w d 0 0 mX11_within [vi x2, vi 0, vi 20] (B0, n21) (fun r h' => ∃ (x27 : Int) (n26 : NM), r = some (vi x27) ∧ h' = (B0, n26) ∧ 
          ((x27 = 0 →
            (Ev w d 0 0 mX11_refuse [vr 0, vi (-1)] (B0, n26) (fun r h' => ∃ (x30 : Int) (n29 : NM), r = some (vi x30) ∧ h' = (B0, n29) ∧ 
              Q (some (vi x30)) (B0, n29)))) ∧
          (x27 ≠ 0 →
            (Ev w d 0 0 mX11_within [vi x3, vi 1, vi 60] (B0, n26) (fun r h' => ∃ (x32 : Int) (n31 : NM), r = some (vi x32) ∧ h' = (B0, n31) ∧ 
              ((x32 ≠ 0 →
                (Ev w d 0 0 mX11_addTo [vr 0, vr 21, vi x1, vi x2, vi x3, vi 0] (B0, n31) (fun r h' => ∃ (x35 : Int) (n34 : NM), r = some (vi x35) ∧ h' = (B0, n34) ∧ 
                  Q (some (vi x35)) (B0, n34)))) ∧
              (x32 = 0 →
                (Ev w d 0 0 mX11_refuse [vr 0, vi (-1)] (B0, n31) (fun r h' => ∃ (x37 : Int) (n36 : NM), r = some (vi x37) ∧ h' = (B0, n36) ∧ 
                  Q (some (vi x37)) (B0, n36)))))))))))))))) :
    Rn w mX11_story (d + 1) G Q 0 [(0, vr 0), (1, vi x1), (2, vi x2), (3, vi x3)] [] (B0, n) := by
  refine r_iload_n dX11_story_0 rfl rfl ?_
  refine r_iconst (x := 0) dX11_story_1 rfl (by decide) ?_
  refine r_bipush (x := 100) dX11_story_2 (by decide +kernel) (by decide) ?_
  refine r_callS (args := [vi x1, vi 0, vi 100]) dX11_story_4 kX11_80 rfl rfl (Nat.le_of_ble_eq_true rfl) cap0 (Ev.mono V ?_)
  rintro r h' ⟨x22, n21, rfl, rfl, V⟩
  show Rn w mX11_story (d + 1) G Q 7 [(0, vr 0), (1, vi x1), (2, vi x2), (3, vi x3)] [vi x22] (B0, n21)
  obtain ⟨V1, V2⟩ := V
  refine r_zeq (tgt := 30) dX11_story_7 (by decide) (fun c23 => ?_) (fun c23 => ?_)
  · have V := V1 c23
    refine r_aload_n dX11_story_30 rfl rfl ?_
    refine r_iconst (x := -1) dX11_story_31 rfl (by decide) ?_
    refine r_callV (args := [vi (-1)]) dX11_story_32 kX11_84 ob_0 ⟨_, _, rfl⟩ (by decide) rfl rfl (Nat.le_of_ble_eq_true rfl) cap0 (Ev.mono V ?_)
    rintro r h' ⟨x25, n24, rfl, rfl, V⟩
    show Rn w mX11_story (d + 1) G Q 35 [(0, vr 0), (1, vi x1), (2, vi x2), (3, vi x3)] [vi x25] (B0, n24)
    exact r_iret dX11_story_35 rfl V
  · have V := V2 c23
    refine r_iload_n dX11_story_10 rfl rfl ?_
    refine r_iconst (x := 0) dX11_story_11 rfl (by decide) ?_
    refine r_bipush (x := 20) dX11_story_12 (by decide +kernel) (by decide) ?_
    refine r_callS (args := [vi x2, vi 0, vi 20]) dX11_story_14 kX11_80 rfl rfl (Nat.le_of_ble_eq_true rfl) cap0 (Ev.mono V ?_)
    rintro r h' ⟨x27, n26, rfl, rfl, V⟩
    show Rn w mX11_story (d + 1) G Q 17 [(0, vr 0), (1, vi x1), (2, vi x2), (3, vi x3)] [vi x27] (B0, n26)
    obtain ⟨V1, V2⟩ := V
    refine r_zeq (tgt := 30) dX11_story_17 (by decide) (fun c28 => ?_) (fun c28 => ?_)
    · have V := V1 c28
      refine r_aload_n dX11_story_30 rfl rfl ?_
      refine r_iconst (x := -1) dX11_story_31 rfl (by decide) ?_
      refine r_callV (args := [vi (-1)]) dX11_story_32 kX11_84 ob_0 ⟨_, _, rfl⟩ (by decide) rfl rfl (Nat.le_of_ble_eq_true rfl) cap0 (Ev.mono V ?_)
      rintro r h' ⟨x30, n29, rfl, rfl, V⟩
      show Rn w mX11_story (d + 1) G Q 35 [(0, vr 0), (1, vi x1), (2, vi x2), (3, vi x3)] [vi x30] (B0, n29)
      exact r_iret dX11_story_35 rfl V
    · have V := V2 c28
      refine r_iload_n dX11_story_20 rfl rfl ?_
      refine r_iconst (x := 1) dX11_story_21 rfl (by decide) ?_
      refine r_bipush (x := 60) dX11_story_22 (by decide +kernel) (by decide) ?_
      refine r_callS (args := [vi x3, vi 1, vi 60]) dX11_story_24 kX11_80 rfl rfl (Nat.le_of_ble_eq_true rfl) cap0 (Ev.mono V ?_)
      rintro r h' ⟨x32, n31, rfl, rfl, V⟩
      show Rn w mX11_story (d + 1) G Q 27 [(0, vr 0), (1, vi x1), (2, vi x2), (3, vi x3)] [vi x32] (B0, n31)
      obtain ⟨V1, V2⟩ := V
      refine r_zne (tgt := 36) dX11_story_27 (by decide) (fun c33 => ?_) (fun c33 => ?_)
      · have V := V1 c33
        refine r_aload_n dX11_story_36 rfl rfl ?_
        refine r_aload_n dX11_story_37 rfl rfl ?_
        refine r_getR (b := 1) dX11_story_38 fX11_10 ob_0 (by decide) rfl rfl ?_
        refine r_getR (b := 21) dX11_story_41 fX11_207 ob_1 (by decide) rfl rfl ?_
        refine r_iload_n dX11_story_44 rfl rfl ?_
        refine r_iload_n dX11_story_45 rfl rfl ?_
        refine r_iload_n dX11_story_46 rfl rfl ?_
        refine r_iconst (x := 0) dX11_story_47 rfl (by decide) ?_
        refine r_callV (args := [vr 21, vi x1, vi x2, vi x3, vi 0]) dX11_story_48 kX11_104 ob_0 ⟨_, _, rfl⟩ (by decide) rfl rfl (Nat.le_of_ble_eq_true rfl) cap0 (Ev.mono V ?_)
        rintro r h' ⟨x35, n34, rfl, rfl, V⟩
        show Rn w mX11_story (d + 1) G Q 51 [(0, vr 0), (1, vi x1), (2, vi x2), (3, vi x3)] [vi x35] (B0, n34)
        exact r_iret dX11_story_51 rfl V
      · have V := V2 c33
        refine r_aload_n dX11_story_30 rfl rfl ?_
        refine r_iconst (x := -1) dX11_story_31 rfl (by decide) ?_
        refine r_callV (args := [vi (-1)]) dX11_story_32 kX11_84 ob_0 ⟨_, _, rfl⟩ (by decide) rfl rfl (Nat.le_of_ble_eq_true rfl) cap0 (Ev.mono V ?_)
        rintro r h' ⟨x37, n36, rfl, rfl, V⟩
        show Rn w mX11_story (d + 1) G Q 35 [(0, vr 0), (1, vi x1), (2, vi x2), (3, vi x3)] [vi x37] (B0, n36)
        exact r_iret dX11_story_35 rfl V

theorem gX11_sweep_0 {w : WD} {d : Nat} {G : GM} {Q : Option AV → Hp → Prop} {n : NM} {x1 x2 x3 x4 : Int}
    (V :
    (Ev w d 0 0 mX11_canListen [vi x1, vi x2, vi x3] (B0, n) (fun r h' => ∃ (x22 : Int) (n21 : NM), r = some (vi x22) ∧ h' = (B0, n21) ∧ 
      ((x22 = 0 →
        (Ev w d 0 0 mX11_refuse [vr 0, vi (-1)] (B0, n21) (fun r h' => ∃ (x25 : Int) (n24 : NM), r = some (vi x25) ∧ h' = (B0, n24) ∧ 
          Q (some (vi x25)) (B0, n24)))) ∧
      (x22 ≠ 0 →
        (Ev w d 0 0 mX11_within [vi x4, vi 0, vi 1] (B0, n21) (fun r h' => ∃ (x27 : Int) (n26 : NM), r = some (vi x27) ∧ h' = (B0, n26) ∧ 
          ((x27 ≠ 0 →
            (Ev w d 0 0 mX11_addTo [vr 0, vr 23, vi x1, vi x2, vi x3, vi x4] (B0, n26) (fun r h' => ∃ (x30 : Int) (n29 : NM), r = some (vi x30) ∧ h' = (B0, n29) ∧ 
              Q (some (vi x30)) (B0, n29)))) ∧
          (x27 = 0 →
            (Ev w d 0 0 mX11_refuse [vr 0, vi (-1)] (B0, n26) (fun r h' => ∃ (x32 : Int) (n31 : NM), r = some (vi x32) ∧ h' = (B0, n31) ∧ 
              Q (some (vi x32)) (B0, n31)))))))))))) :
    Rn w mX11_sweep (d + 1) G Q 0 [(0, vr 0), (1, vi x1), (2, vi x2), (3, vi x3), (4, vi x4)] [] (B0, n) := by
  refine r_iload_n dX11_sweep_0 rfl rfl ?_
  refine r_iload_n dX11_sweep_1 rfl rfl ?_
  refine r_iload_n dX11_sweep_2 rfl rfl ?_
  refine r_callS (args := [vi x1, vi x2, vi x3]) dX11_sweep_3 kX11_210 rfl rfl (Nat.le_of_ble_eq_true rfl) cap0 (Ev.mono V ?_)
  rintro r h' ⟨x22, n21, rfl, rfl, V⟩
  show Rn w mX11_sweep (d + 1) G Q 6 [(0, vr 0), (1, vi x1), (2, vi x2), (3, vi x3), (4, vi x4)] [vi x22] (B0, n21)
  obtain ⟨V1, V2⟩ := V
  refine r_zeq (tgt := 19) dX11_sweep_6 (by decide) (fun c23 => ?_) (fun c23 => ?_)
  · have V := V1 c23
    refine r_aload_n dX11_sweep_19 rfl rfl ?_
    refine r_iconst (x := -1) dX11_sweep_20 rfl (by decide) ?_
    refine r_callV (args := [vi (-1)]) dX11_sweep_21 kX11_84 ob_0 ⟨_, _, rfl⟩ (by decide) rfl rfl (Nat.le_of_ble_eq_true rfl) cap0 (Ev.mono V ?_)
    rintro r h' ⟨x25, n24, rfl, rfl, V⟩
    show Rn w mX11_sweep (d + 1) G Q 24 [(0, vr 0), (1, vi x1), (2, vi x2), (3, vi x3), (4, vi x4)] [vi x25] (B0, n24)
    exact r_iret dX11_sweep_24 rfl V
  · have V := V2 c23
    refine r_iload dX11_sweep_9 rfl ?_
    refine r_iconst (x := 0) dX11_sweep_11 rfl (by decide) ?_
    refine r_iconst (x := 1) dX11_sweep_12 rfl (by decide) ?_
    refine r_callS (args := [vi x4, vi 0, vi 1]) dX11_sweep_13 kX11_80 rfl rfl (Nat.le_of_ble_eq_true rfl) cap0 (Ev.mono V ?_)
    rintro r h' ⟨x27, n26, rfl, rfl, V⟩
    show Rn w mX11_sweep (d + 1) G Q 16 [(0, vr 0), (1, vi x1), (2, vi x2), (3, vi x3), (4, vi x4)] [vi x27] (B0, n26)
    obtain ⟨V1, V2⟩ := V
    refine r_zne (tgt := 25) dX11_sweep_16 (by decide) (fun c28 => ?_) (fun c28 => ?_)
    · have V := V1 c28
      refine r_aload_n dX11_sweep_25 rfl rfl ?_
      refine r_aload_n dX11_sweep_26 rfl rfl ?_
      refine r_getR (b := 1) dX11_sweep_27 fX11_10 ob_0 (by decide) rfl rfl ?_
      refine r_getR (b := 23) dX11_sweep_30 fX11_213 ob_1 (by decide) rfl rfl ?_
      refine r_iload_n dX11_sweep_33 rfl rfl ?_
      refine r_iload_n dX11_sweep_34 rfl rfl ?_
      refine r_iload_n dX11_sweep_35 rfl rfl ?_
      refine r_iload dX11_sweep_36 rfl ?_
      refine r_callV (args := [vr 23, vi x1, vi x2, vi x3, vi x4]) dX11_sweep_38 kX11_104 ob_0 ⟨_, _, rfl⟩ (by decide) rfl rfl (Nat.le_of_ble_eq_true rfl) cap0 (Ev.mono V ?_)
      rintro r h' ⟨x30, n29, rfl, rfl, V⟩
      show Rn w mX11_sweep (d + 1) G Q 41 [(0, vr 0), (1, vi x1), (2, vi x2), (3, vi x3), (4, vi x4)] [vi x30] (B0, n29)
      exact r_iret dX11_sweep_41 rfl V
    · have V := V2 c28
      refine r_aload_n dX11_sweep_19 rfl rfl ?_
      refine r_iconst (x := -1) dX11_sweep_20 rfl (by decide) ?_
      refine r_callV (args := [vi (-1)]) dX11_sweep_21 kX11_84 ob_0 ⟨_, _, rfl⟩ (by decide) rfl rfl (Nat.le_of_ble_eq_true rfl) cap0 (Ev.mono V ?_)
      rintro r h' ⟨x32, n31, rfl, rfl, V⟩
      show Rn w mX11_sweep (d + 1) G Q 24 [(0, vr 0), (1, vi x1), (2, vi x2), (3, vi x3), (4, vi x4)] [vi x32] (B0, n31)
      exact r_iret dX11_sweep_24 rfl V

theorem gX11_likely_0 {w : WD} {d : Nat} {G : GM} {Q : Option AV → Hp → Prop} {n : NM} {x1 : Int}
    (V :
    (Ev w d 0 0 mX7_holds [vr 21, vi x1] (B0, n) (fun r h' => ∃ (x22 : Int) (n21 : NM), r = some (vi x22) ∧ h' = (B0, n21) ∧ 
      ((x22 ≠ 0 →
        (Ev w d 0 0 mX6_weigh [vr 51, vr 1, vi (-1)] (B0, n21) (fun r h' => ∃ n24 : NM, r = none ∧ h' = (B0, n24) ∧ 
          (Ev w d 0 0 mX6_oddsOf [vr 51, vi x1] (B0, n24) (fun r h' => ∃ (x26 : Int) (n25 : NM), r = some (vi x26) ∧ h' = (B0, n25) ∧ 
            Q (some (vi x26)) (B0, n25)))))) ∧
      (x22 = 0 →
        Q (some (vi (-1))) (B0, n21)))))) :
    Rn w mX11_likely (d + 1) G Q 0 [(0, vr 0), (1, vi x1)] [] (B0, n) := by
  refine r_aload_n dX11_likely_0 rfl rfl ?_
  refine r_getR (b := 1) dX11_likely_1 fX11_10 ob_0 (by decide) rfl rfl ?_
  refine r_getR (b := 21) dX11_likely_4 fX11_207 ob_1 (by decide) rfl rfl ?_
  refine r_iload_n dX11_likely_7 rfl rfl ?_
  refine r_callV (args := [vi x1]) dX11_likely_8 kX11_117 ob_21 ⟨_, _, rfl⟩ (by decide) rfl rfl (Nat.le_of_ble_eq_true rfl) cap0 (Ev.mono V ?_)
  rintro r h' ⟨x22, n21, rfl, rfl, V⟩
  show Rn w mX11_likely (d + 1) G Q 11 [(0, vr 0), (1, vi x1)] [vi x22] (B0, n21)
  obtain ⟨V1, V2⟩ := V
  refine r_zne (tgt := 16) dX11_likely_11 (by decide) (fun c23 => ?_) (fun c23 => ?_)
  · have V := V1 c23
    refine r_aload_n dX11_likely_16 rfl rfl ?_
    refine r_getR (b := 51) dX11_likely_17 fX11_48 ob_0 (by decide) rfl rfl ?_
    refine r_aload_n dX11_likely_20 rfl rfl ?_
    refine r_getR (b := 1) dX11_likely_21 fX11_10 ob_0 (by decide) rfl rfl ?_
    refine r_iconst (x := -1) dX11_likely_24 rfl (by decide) ?_
    refine r_callV (args := [vr 1, vi (-1)]) dX11_likely_25 kX11_216 ob_51 ⟨_, _, rfl⟩ (by decide) rfl rfl (Nat.le_of_ble_eq_true rfl) cap0 (Ev.mono V ?_)
    rintro r h' ⟨n24, rfl, rfl, V⟩
    show Rn w mX11_likely (d + 1) G Q 28 [(0, vr 0), (1, vi x1)] [] (B0, n24)
    refine r_aload_n dX11_likely_28 rfl rfl ?_
    refine r_getR (b := 51) dX11_likely_29 fX11_48 ob_0 (by decide) rfl rfl ?_
    refine r_iload_n dX11_likely_32 rfl rfl ?_
    refine r_callV (args := [vi x1]) dX11_likely_33 kX11_219 ob_51 ⟨_, _, rfl⟩ (by decide) rfl rfl (Nat.le_of_ble_eq_true rfl) cap0 (Ev.mono V ?_)
    rintro r h' ⟨x26, n25, rfl, rfl, V⟩
    show Rn w mX11_likely (d + 1) G Q 36 [(0, vr 0), (1, vi x1)] [vi x26] (B0, n25)
    exact r_iret dX11_likely_36 rfl V
  · have V := V2 c23
    refine r_iconst (x := -1) dX11_likely_14 rfl (by decide) ?_
    exact r_iret dX11_likely_15 rfl V

theorem gX11_moved_0 {w : WD} {d : Nat} {G : GM} {Q : Option AV → Hp → Prop} {n : NM} {x1 x2 : Int}
    (V :
    (Ev w d 0 0 mX7_holds [vr 21, vi x1] (B0, n) (fun r h' => ∃ (x22 : Int) (n21 : NM), r = some (vi x22) ∧ h' = (B0, n21) ∧ 
      ((x22 = 0 →
        Q (some (vi (-10000000))) (B0, n21)) ∧
      (x22 ≠ 0 →
        (Ev w d 0 0 mX7_holds [vr 23, vi x2] (B0, n21) (fun r h' => ∃ (x25 : Int) (n24 : NM), r = some (vi x25) ∧ h' = (B0, n24) ∧ 
          ((x25 ≠ 0 →
            (Ev w d 0 0 mX6_weigh [vr 51, vr 1, vi (-1)] (B0, n24) (fun r h' => ∃ n27 : NM, r = none ∧ h' = (B0, n27) ∧ 
              (Ev w d 0 0 mX6_oddsOf [vr 51, vi x1] (B0, n27) (fun r h' => ∃ (x29 : Int) (n28 : NM), r = some (vi x29) ∧ h' = (B0, n28) ∧ 
                (Ev w d 0 0 mX6_weigh [vr 51, vr 1, vi x2] (B0, n28) (fun r h' => ∃ n30 : NM, r = none ∧ h' = (B0, n30) ∧ 
                  (Ev w d 0 0 mX6_oddsOf [vr 51, vi x1] (B0, n30) (fun r h' => ∃ (x32 : Int) (n31 : NM), r = some (vi x32) ∧ h' = (B0, n31) ∧ 
                    (inI (x29 - x32)) ∧
                    Q (some (vi (x29 - x32))) (B0, n31)))))))))) ∧
          (x25 = 0 →
            Q (some (vi (-10000000))) (B0, n24)))))))))) :
    Rn w mX11_moved (d + 1) G Q 0 [(0, vr 0), (1, vi x1), (2, vi x2)] [] (B0, n) := by
  refine r_aload_n dX11_moved_0 rfl rfl ?_
  refine r_getR (b := 1) dX11_moved_1 fX11_10 ob_0 (by decide) rfl rfl ?_
  refine r_getR (b := 21) dX11_moved_4 fX11_207 ob_1 (by decide) rfl rfl ?_
  refine r_iload_n dX11_moved_7 rfl rfl ?_
  refine r_callV (args := [vi x1]) dX11_moved_8 kX11_117 ob_21 ⟨_, _, rfl⟩ (by decide) rfl rfl (Nat.le_of_ble_eq_true rfl) cap0 (Ev.mono V ?_)
  rintro r h' ⟨x22, n21, rfl, rfl, V⟩
  show Rn w mX11_moved (d + 1) G Q 11 [(0, vr 0), (1, vi x1), (2, vi x2)] [vi x22] (B0, n21)
  obtain ⟨V1, V2⟩ := V
  refine r_zeq (tgt := 28) dX11_moved_11 (by decide) (fun c23 => ?_) (fun c23 => ?_)
  · have V := V1 c23
    refine r_ldc (x := -10000000) dX11_moved_28 qX11_222 (by decide) ?_
    exact r_iret dX11_moved_30 rfl V
  · have V := V2 c23
    refine r_aload_n dX11_moved_14 rfl rfl ?_
    refine r_getR (b := 1) dX11_moved_15 fX11_10 ob_0 (by decide) rfl rfl ?_
    refine r_getR (b := 23) dX11_moved_18 fX11_213 ob_1 (by decide) rfl rfl ?_
    refine r_iload_n dX11_moved_21 rfl rfl ?_
    refine r_callV (args := [vi x2]) dX11_moved_22 kX11_117 ob_23 ⟨_, _, rfl⟩ (by decide) rfl rfl (Nat.le_of_ble_eq_true rfl) cap0 (Ev.mono V ?_)
    rintro r h' ⟨x25, n24, rfl, rfl, V⟩
    show Rn w mX11_moved (d + 1) G Q 25 [(0, vr 0), (1, vi x1), (2, vi x2)] [vi x25] (B0, n24)
    obtain ⟨V1, V2⟩ := V
    refine r_zne (tgt := 31) dX11_moved_25 (by decide) (fun c26 => ?_) (fun c26 => ?_)
    · have V := V1 c26
      refine r_aload_n dX11_moved_31 rfl rfl ?_
      refine r_getR (b := 51) dX11_moved_32 fX11_48 ob_0 (by decide) rfl rfl ?_
      refine r_aload_n dX11_moved_35 rfl rfl ?_
      refine r_getR (b := 1) dX11_moved_36 fX11_10 ob_0 (by decide) rfl rfl ?_
      refine r_iconst (x := -1) dX11_moved_39 rfl (by decide) ?_
      refine r_callV (args := [vr 1, vi (-1)]) dX11_moved_40 kX11_216 ob_51 ⟨_, _, rfl⟩ (by decide) rfl rfl (Nat.le_of_ble_eq_true rfl) cap0 (Ev.mono V ?_)
      rintro r h' ⟨n27, rfl, rfl, V⟩
      show Rn w mX11_moved (d + 1) G Q 43 [(0, vr 0), (1, vi x1), (2, vi x2)] [] (B0, n27)
      refine r_aload_n dX11_moved_43 rfl rfl ?_
      refine r_getR (b := 51) dX11_moved_44 fX11_48 ob_0 (by decide) rfl rfl ?_
      refine r_iload_n dX11_moved_47 rfl rfl ?_
      refine r_callV (args := [vi x1]) dX11_moved_48 kX11_219 ob_51 ⟨_, _, rfl⟩ (by decide) rfl rfl (Nat.le_of_ble_eq_true rfl) cap0 (Ev.mono V ?_)
      rintro r h' ⟨x29, n28, rfl, rfl, V⟩
      show Rn w mX11_moved (d + 1) G Q 51 [(0, vr 0), (1, vi x1), (2, vi x2)] [vi x29] (B0, n28)
      refine r_istore_n (ls' := [(0, vr 0), (1, vi x1), (2, vi x2), (3, vi x29)]) dX11_moved_51 rfl (by decide) rfl ?_
      refine r_aload_n dX11_moved_52 rfl rfl ?_
      refine r_getR (b := 51) dX11_moved_53 fX11_48 ob_0 (by decide) rfl rfl ?_
      refine r_aload_n dX11_moved_56 rfl rfl ?_
      refine r_getR (b := 1) dX11_moved_57 fX11_10 ob_0 (by decide) rfl rfl ?_
      refine r_iload_n dX11_moved_60 rfl rfl ?_
      refine r_callV (args := [vr 1, vi x2]) dX11_moved_61 kX11_216 ob_51 ⟨_, _, rfl⟩ (by decide) rfl rfl (Nat.le_of_ble_eq_true rfl) cap0 (Ev.mono V ?_)
      rintro r h' ⟨n30, rfl, rfl, V⟩
      show Rn w mX11_moved (d + 1) G Q 64 [(0, vr 0), (1, vi x1), (2, vi x2), (3, vi x29)] [] (B0, n30)
      refine r_iload_n dX11_moved_64 rfl rfl ?_
      refine r_aload_n dX11_moved_65 rfl rfl ?_
      refine r_getR (b := 51) dX11_moved_66 fX11_48 ob_0 (by decide) rfl rfl ?_
      refine r_iload_n dX11_moved_69 rfl rfl ?_
      refine r_callV (args := [vi x1]) dX11_moved_70 kX11_219 ob_51 ⟨_, _, rfl⟩ (by decide) rfl rfl (Nat.le_of_ble_eq_true rfl) cap0 (Ev.mono V ?_)
      rintro r h' ⟨x32, n31, rfl, rfl, V⟩
      show Rn w mX11_moved (d + 1) G Q 73 [(0, vr 0), (1, vi x1), (2, vi x2), (3, vi x29)] [vi x32, vi x29] (B0, n31)
      obtain ⟨s33, V⟩ := V
      refine r_isub dX11_moved_73 s33 ?_
      exact r_iret dX11_moved_74 rfl V
    · have V := V2 c26
      refine r_ldc (x := -10000000) dX11_moved_28 qX11_222 (by decide) ?_
      exact r_iret dX11_moved_30 rfl V

theorem gX11_kin_0 {w : WD} {d : Nat} {G : GM} {Q : Option AV → Hp → Prop} {n : NM} {x1 x2 : Int}
    (V :
    (Ev w d 0 0 mX11_kinCanBe [vi x1, vi x2] (B0, n) (fun r h' => ∃ (x22 : Int) (n21 : NM), r = some (vi x22) ∧ h' = (B0, n21) ∧ 
      ((x22 ≠ 0 →
        (Ev w d 0 0 mX7_exchange [vr 31, vi 0, vi x1, vi x2] (B0, n21) (fun r h' => ∃ (x25 : Int) (n24 : NM), r = some (vi x25) ∧ h' = (B0, n24) ∧ 
          (Ev w d 0 0 mX11_accept [vr 0, vi x25] (B0, n24) (fun r h' => ∃ (x27 : Int) (n26 : NM), r = some (vi x27) ∧ h' = (B0, n26) ∧ 
            Q (some (vi x27)) (B0, n26)))))) ∧
      (x22 = 0 →
        (Ev w d 0 0 mX11_refuse [vr 0, vi (-1)] (B0, n21) (fun r h' => ∃ (x29 : Int) (n28 : NM), r = some (vi x29) ∧ h' = (B0, n28) ∧ 
          Q (some (vi x29)) (B0, n28)))))))) :
    Rn w mX11_kin (d + 1) G Q 0 [(0, vr 0), (1, vi x1), (2, vi x2)] [] (B0, n) := by
  refine r_iload_n dX11_kin_0 rfl rfl ?_
  refine r_iload_n dX11_kin_1 rfl rfl ?_
  refine r_callS (args := [vi x1, vi x2]) dX11_kin_2 kX11_223 rfl rfl (Nat.le_of_ble_eq_true rfl) cap0 (Ev.mono V ?_)
  rintro r h' ⟨x22, n21, rfl, rfl, V⟩
  show Rn w mX11_kin (d + 1) G Q 5 [(0, vr 0), (1, vi x1), (2, vi x2)] [vi x22] (B0, n21)
  obtain ⟨V1, V2⟩ := V
  refine r_zne (tgt := 14) dX11_kin_5 (by decide) (fun c23 => ?_) (fun c23 => ?_)
  · have V := V1 c23
    refine r_aload_n dX11_kin_14 rfl rfl ?_
    refine r_aload_n dX11_kin_15 rfl rfl ?_
    refine r_getR (b := 1) dX11_kin_16 fX11_10 ob_0 (by decide) rfl rfl ?_
    refine r_getR (b := 31) dX11_kin_19 fX11_227 ob_1 (by decide) rfl rfl ?_
    refine r_iconst (x := 0) dX11_kin_22 rfl (by decide) ?_
    refine r_iload_n dX11_kin_23 rfl rfl ?_
    refine r_iload_n dX11_kin_24 rfl rfl ?_
    refine r_callV (args := [vi 0, vi x1, vi x2]) dX11_kin_25 kX11_92 ob_31 ⟨_, _, rfl⟩ (by decide) rfl rfl (Nat.le_of_ble_eq_true rfl) cap0 (Ev.mono V ?_)
    rintro r h' ⟨x25, n24, rfl, rfl, V⟩
    show Rn w mX11_kin (d + 1) G Q 28 [(0, vr 0), (1, vi x1), (2, vi x2)] [vi x25, vr 0] (B0, n24)
    refine r_callV (args := [vi x25]) dX11_kin_28 kX11_98 ob_0 ⟨_, _, rfl⟩ (by decide) rfl rfl (Nat.le_of_ble_eq_true rfl) cap0 (Ev.mono V ?_)
    rintro r h' ⟨x27, n26, rfl, rfl, V⟩
    show Rn w mX11_kin (d + 1) G Q 31 [(0, vr 0), (1, vi x1), (2, vi x2)] [vi x27] (B0, n26)
    exact r_iret dX11_kin_31 rfl V
  · have V := V2 c23
    refine r_aload_n dX11_kin_8 rfl rfl ?_
    refine r_iconst (x := -1) dX11_kin_9 rfl (by decide) ?_
    refine r_callV (args := [vi (-1)]) dX11_kin_10 kX11_84 ob_0 ⟨_, _, rfl⟩ (by decide) rfl rfl (Nat.le_of_ble_eq_true rfl) cap0 (Ev.mono V ?_)
    rintro r h' ⟨x29, n28, rfl, rfl, V⟩
    show Rn w mX11_kin (d + 1) G Q 13 [(0, vr 0), (1, vi x1), (2, vi x2)] [vi x29] (B0, n28)
    exact r_iret dX11_kin_13 rfl V

theorem gX11_lot_0 {w : WD} {d : Nat} {G : GM} {Q : Option AV → Hp → Prop} {n : NM} {x1 : Int}
    (V :
    (Ev w d 0 0 mX11_within [vi x1, vi 0, vi 60] (B0, n) (fun r h' => ∃ (x22 : Int) (n21 : NM), r = some (vi x22) ∧ h' = (B0, n21) ∧ 
      ((x22 ≠ 0 →
        ((x1 ≠ 0 →
          (Ev w d 0 0 mX1_greatestNumberOf [vr 1, vi x1] (B0, n21) (fun r h' => ∃ (x26 : Int) (n25 : NM), r = some (vi x26) ∧ h' = (B0, n25) ∧ 
            Q (some (vi x26)) (B0, n25)))) ∧
        (x1 = 0 →
          (Ev w d 0 0 mX1_storiesThatCanBe [vr 1] (B0, n21) (fun r h' => ∃ (x28 : Int) (n27 : NM), r = some (vi x28) ∧ h' = (B0, n27) ∧ 
            Q (some (vi x28)) (B0, n27)))))) ∧
      (x22 = 0 →
        Q (some (vi (-1))) (B0, n21)))))) :
    Rn w mX11_lot (d + 1) G Q 0 [(0, vr 0), (1, vi x1)] [] (B0, n) := by
  refine r_iload_n dX11_lot_0 rfl rfl ?_
  refine r_iconst (x := 0) dX11_lot_1 rfl (by decide) ?_
  refine r_bipush (x := 60) dX11_lot_2 (by decide +kernel) (by decide) ?_
  refine r_callS (args := [vi x1, vi 0, vi 60]) dX11_lot_4 kX11_80 rfl rfl (Nat.le_of_ble_eq_true rfl) cap0 (Ev.mono V ?_)
  rintro r h' ⟨x22, n21, rfl, rfl, V⟩
  show Rn w mX11_lot (d + 1) G Q 7 [(0, vr 0), (1, vi x1)] [vi x22] (B0, n21)
  obtain ⟨V1, V2⟩ := V
  refine r_zne (tgt := 12) dX11_lot_7 (by decide) (fun c23 => ?_) (fun c23 => ?_)
  · have V := V1 c23
    refine r_iload_n dX11_lot_12 rfl rfl ?_
    obtain ⟨V1, V2⟩ := V
    refine r_zne (tgt := 26) dX11_lot_13 (by decide) (fun c24 => ?_) (fun c24 => ?_)
    · have V := V1 c24
      refine r_aload_n dX11_lot_26 rfl rfl ?_
      refine r_getR (b := 1) dX11_lot_27 fX11_10 ob_0 (by decide) rfl rfl ?_
      refine r_iload_n dX11_lot_30 rfl rfl ?_
      refine r_callV (args := [vi x1]) dX11_lot_31 kX11_233 ob_1 ⟨_, _, rfl⟩ (by decide) rfl rfl (Nat.le_of_ble_eq_true rfl) cap0 (Ev.mono V ?_)
      rintro r h' ⟨x26, n25, rfl, rfl, V⟩
      show Rn w mX11_lot (d + 1) G Q 34 [(0, vr 0), (1, vi x1)] [vi x26] (B0, n25)
      exact r_iret dX11_lot_34 rfl V
    · have V := V2 c24
      refine r_aload_n dX11_lot_16 rfl rfl ?_
      refine r_getR (b := 1) dX11_lot_17 fX11_10 ob_0 (by decide) rfl rfl ?_
      refine r_callV (args := []) dX11_lot_20 kX11_230 ob_1 ⟨_, _, rfl⟩ (by decide) rfl rfl (Nat.le_of_ble_eq_true rfl) cap0 (Ev.mono V ?_)
      rintro r h' ⟨x28, n27, rfl, rfl, V⟩
      show Rn w mX11_lot (d + 1) G Q 23 [(0, vr 0), (1, vi x1)] [vi x28] (B0, n27)
      refine r_goto (tgt := 34) dX11_lot_23 (by decide) ?_
      exact r_iret dX11_lot_34 rfl V
  · have V := V2 c23
    refine r_iconst (x := -1) dX11_lot_10 rfl (by decide) ?_
    exact r_iret dX11_lot_11 rfl V

theorem gX11_offer_0 {w : WD} {d : Nat} {G : GM} {Q : Option AV → Hp → Prop} {n : NM} {x1 x2 x3 x4 : Int}
    (V :
    (Ev w d 0 0 mX11_canListen [vi x1, vi x2, vi x3] (B0, n) (fun r h' => ∃ (x22 : Int) (n21 : NM), r = some (vi x22) ∧ h' = (B0, n21) ∧ 
      ((x22 = 0 →
        (Ev w d 0 0 mX11_refuse [vr 0, vi (-1)] (B0, n21) (fun r h' => ∃ (x25 : Int) (n24 : NM), r = some (vi x25) ∧ h' = (B0, n24) ∧ 
          Q (some (vi x25)) (B0, n24)))) ∧
      (x22 ≠ 0 →
        (Ev w d 0 0 mX11_within [vi x4, vi 1, vi 100] (B0, n21) (fun r h' => ∃ (x27 : Int) (n26 : NM), r = some (vi x27) ∧ h' = (B0, n26) ∧ 
          ((x27 ≠ 0 →
            (Ev w d 0 0 mX11_addTo [vr 0, vr 25, vi x1, vi x2, vi x3, vi x4] (B0, n26) (fun r h' => ∃ (x30 : Int) (n29 : NM), r = some (vi x30) ∧ h' = (B0, n29) ∧ 
              Q (some (vi x30)) (B0, n29)))) ∧
          (x27 = 0 →
            (Ev w d 0 0 mX11_refuse [vr 0, vi (-1)] (B0, n26) (fun r h' => ∃ (x32 : Int) (n31 : NM), r = some (vi x32) ∧ h' = (B0, n31) ∧ 
              Q (some (vi x32)) (B0, n31)))))))))))) :
    Rn w mX11_offer (d + 1) G Q 0 [(0, vr 0), (1, vi x1), (2, vi x2), (3, vi x3), (4, vi x4)] [] (B0, n) := by
  refine r_iload_n dX11_offer_0 rfl rfl ?_
  refine r_iload_n dX11_offer_1 rfl rfl ?_
  refine r_iload_n dX11_offer_2 rfl rfl ?_
  refine r_callS (args := [vi x1, vi x2, vi x3]) dX11_offer_3 kX11_210 rfl rfl (Nat.le_of_ble_eq_true rfl) cap0 (Ev.mono V ?_)
  rintro r h' ⟨x22, n21, rfl, rfl, V⟩
  show Rn w mX11_offer (d + 1) G Q 6 [(0, vr 0), (1, vi x1), (2, vi x2), (3, vi x3), (4, vi x4)] [vi x22] (B0, n21)
  obtain ⟨V1, V2⟩ := V
  refine r_zeq (tgt := 20) dX11_offer_6 (by decide) (fun c23 => ?_) (fun c23 => ?_)
  · have V := V1 c23
    refine r_aload_n dX11_offer_20 rfl rfl ?_
    refine r_iconst (x := -1) dX11_offer_21 rfl (by decide) ?_
    refine r_callV (args := [vi (-1)]) dX11_offer_22 kX11_84 ob_0 ⟨_, _, rfl⟩ (by decide) rfl rfl (Nat.le_of_ble_eq_true rfl) cap0 (Ev.mono V ?_)
    rintro r h' ⟨x25, n24, rfl, rfl, V⟩
    show Rn w mX11_offer (d + 1) G Q 25 [(0, vr 0), (1, vi x1), (2, vi x2), (3, vi x3), (4, vi x4)] [vi x25] (B0, n24)
    exact r_iret dX11_offer_25 rfl V
  · have V := V2 c23
    refine r_iload dX11_offer_9 rfl ?_
    refine r_iconst (x := 1) dX11_offer_11 rfl (by decide) ?_
    refine r_bipush (x := 100) dX11_offer_12 (by decide +kernel) (by decide) ?_
    refine r_callS (args := [vi x4, vi 1, vi 100]) dX11_offer_14 kX11_80 rfl rfl (Nat.le_of_ble_eq_true rfl) cap0 (Ev.mono V ?_)
    rintro r h' ⟨x27, n26, rfl, rfl, V⟩
    show Rn w mX11_offer (d + 1) G Q 17 [(0, vr 0), (1, vi x1), (2, vi x2), (3, vi x3), (4, vi x4)] [vi x27] (B0, n26)
    obtain ⟨V1, V2⟩ := V
    refine r_zne (tgt := 26) dX11_offer_17 (by decide) (fun c28 => ?_) (fun c28 => ?_)
    · have V := V1 c28
      refine r_aload_n dX11_offer_26 rfl rfl ?_
      refine r_aload_n dX11_offer_27 rfl rfl ?_
      refine r_getR (b := 1) dX11_offer_28 fX11_10 ob_0 (by decide) rfl rfl ?_
      refine r_getR (b := 25) dX11_offer_31 fX11_236 ob_1 (by decide) rfl rfl ?_
      refine r_iload_n dX11_offer_34 rfl rfl ?_
      refine r_iload_n dX11_offer_35 rfl rfl ?_
      refine r_iload_n dX11_offer_36 rfl rfl ?_
      refine r_iload dX11_offer_37 rfl ?_
      refine r_callV (args := [vr 25, vi x1, vi x2, vi x3, vi x4]) dX11_offer_39 kX11_104 ob_0 ⟨_, _, rfl⟩ (by decide) rfl rfl (Nat.le_of_ble_eq_true rfl) cap0 (Ev.mono V ?_)
      rintro r h' ⟨x30, n29, rfl, rfl, V⟩
      show Rn w mX11_offer (d + 1) G Q 42 [(0, vr 0), (1, vi x1), (2, vi x2), (3, vi x3), (4, vi x4)] [vi x30] (B0, n29)
      exact r_iret dX11_offer_42 rfl V
    · have V := V2 c28
      refine r_aload_n dX11_offer_20 rfl rfl ?_
      refine r_iconst (x := -1) dX11_offer_21 rfl (by decide) ?_
      refine r_callV (args := [vi (-1)]) dX11_offer_22 kX11_84 ob_0 ⟨_, _, rfl⟩ (by decide) rfl rfl (Nat.le_of_ble_eq_true rfl) cap0 (Ev.mono V ?_)
      rintro r h' ⟨x32, n31, rfl, rfl, V⟩
      show Rn w mX11_offer (d + 1) G Q 25 [(0, vr 0), (1, vi x1), (2, vi x2), (3, vi x3), (4, vi x4)] [vi x32] (B0, n31)
      exact r_iret dX11_offer_25 rfl V

theorem gX11_says_0 {w : WD} {d : Nat} {G : GM} {Q : Option AV → Hp → Prop} {n : NM} {x1 : Int}
    (V :
    (Ev w d 0 0 mX7_size [vr 25] (B0, n) (fun r h' => ∃ (x22 : Int) (n21 : NM), r = some (vi x22) ∧ h' = (B0, n21) ∧ 
      (∃ k23 : Nat, x22 = (k23 : Int) ∧ k23 < 32 ∧
      (inI (1 * ((2 ^ k23 : Nat) : Int))) ∧
      (inI ((1 * ((2 ^ k23 : Nat) : Int)) - 1)) ∧
      (Ev w d 0 0 mX11_within [vi x1, vi 0, vi ((1 * ((2 ^ k23 : Nat) : Int)) - 1)] (B0, n21) (fun r h' => ∃ (x27 : Int) (n26 : NM), r = some (vi x27) ∧ h' = (B0, n26) ∧ 
        ((x27 ≠ 0 →
          (Ev w d 0 0 mX6_weigh [vr 51, vr 1, vi (-1)] (B0, n26) (fun r h' => ∃ n29 : NM, r = none ∧ h' = (B0, n29) ∧ 
            (Ev w d 0 0 mX5_saysOf [vr 73, vr 1, vr 51, vi x1] (B0, n29) (fun r h' => ∃ (x31 : Int) (n30 : NM), r = some (vi x31) ∧ h' = (B0, n30) ∧ 
              Q (some (vi x31)) (B0, n30)))))) ∧
        (x27 = 0 →
          Q (some (vi (-1))) (B0, n26))))))))) :
    Rn w mX11_says (d + 1) G Q 0 [(0, vr 0), (1, vi x1)] [] (B0, n) := by
  refine r_iload_n dX11_says_0 rfl rfl ?_
  refine r_iconst (x := 0) dX11_says_1 rfl (by decide) ?_
  refine r_iconst (x := 1) dX11_says_2 rfl (by decide) ?_
  refine r_aload_n dX11_says_3 rfl rfl ?_
  refine r_getR (b := 1) dX11_says_4 fX11_10 ob_0 (by decide) rfl rfl ?_
  refine r_getR (b := 25) dX11_says_7 fX11_236 ob_1 (by decide) rfl rfl ?_
  refine r_callV (args := []) dX11_says_10 kX11_200 ob_25 ⟨_, _, rfl⟩ (by decide) rfl rfl (Nat.le_of_ble_eq_true rfl) cap0 (Ev.mono V ?_)
  rintro r h' ⟨x22, n21, rfl, rfl, V⟩
  show Rn w mX11_says (d + 1) G Q 13 [(0, vr 0), (1, vi x1)] [vi x22, vi 1, vi 0, vi x1] (B0, n21)
  obtain ⟨k23, hk23, lk23, V⟩ := V
  obtain ⟨s24, V⟩ := V
  refine r_ishl (n := k23) dX11_says_13 hk23 lk23 s24 ?_
  refine r_iconst (x := 1) dX11_says_14 rfl (by decide) ?_
  obtain ⟨s25, V⟩ := V
  refine r_isub dX11_says_15 s25 ?_
  refine r_callS (args := [vi x1, vi 0, vi ((1 * ((2 ^ k23 : Nat) : Int)) - 1)]) dX11_says_16 kX11_80 rfl rfl (Nat.le_of_ble_eq_true rfl) cap0 (Ev.mono V ?_)
  rintro r h' ⟨x27, n26, rfl, rfl, V⟩
  show Rn w mX11_says (d + 1) G Q 19 [(0, vr 0), (1, vi x1)] [vi x27] (B0, n26)
  obtain ⟨V1, V2⟩ := V
  refine r_zne (tgt := 24) dX11_says_19 (by decide) (fun c28 => ?_) (fun c28 => ?_)
  · have V := V1 c28
    refine r_aload_n dX11_says_24 rfl rfl ?_
    refine r_getR (b := 51) dX11_says_25 fX11_48 ob_0 (by decide) rfl rfl ?_
    refine r_aload_n dX11_says_28 rfl rfl ?_
    refine r_getR (b := 1) dX11_says_29 fX11_10 ob_0 (by decide) rfl rfl ?_
    refine r_iconst (x := -1) dX11_says_32 rfl (by decide) ?_
    refine r_callV (args := [vr 1, vi (-1)]) dX11_says_33 kX11_216 ob_51 ⟨_, _, rfl⟩ (by decide) rfl rfl (Nat.le_of_ble_eq_true rfl) cap0 (Ev.mono V ?_)
    rintro r h' ⟨n29, rfl, rfl, V⟩
    show Rn w mX11_says (d + 1) G Q 36 [(0, vr 0), (1, vi x1)] [] (B0, n29)
    refine r_aload_n dX11_says_36 rfl rfl ?_
    refine r_getR (b := 73) dX11_says_37 fX11_55 ob_0 (by decide) rfl rfl ?_
    refine r_aload_n dX11_says_40 rfl rfl ?_
    refine r_getR (b := 1) dX11_says_41 fX11_10 ob_0 (by decide) rfl rfl ?_
    refine r_aload_n dX11_says_44 rfl rfl ?_
    refine r_getR (b := 51) dX11_says_45 fX11_48 ob_0 (by decide) rfl rfl ?_
    refine r_iload_n dX11_says_48 rfl rfl ?_
    refine r_callV (args := [vr 1, vr 51, vi x1]) dX11_says_49 kX11_239 ob_73 ⟨_, _, rfl⟩ (by decide) rfl rfl (Nat.le_of_ble_eq_true rfl) cap0 (Ev.mono V ?_)
    rintro r h' ⟨x31, n30, rfl, rfl, V⟩
    show Rn w mX11_says (d + 1) G Q 52 [(0, vr 0), (1, vi x1)] [vi x31] (B0, n30)
    exact r_iret dX11_says_52 rfl V
  · have V := V2 c28
    refine r_iconst (x := -1) dX11_says_22 rfl (by decide) ?_
    exact r_iret dX11_says_23 rfl V

theorem gX11_plan_0 {w : WD} {d : Nat} {G : GM} {Q : Option AV → Hp → Prop} {n : NM} {x1 : Int}
    (V :
    (Ev w d 0 0 mX11_within [vi x1, vi 0, vi 1000] (B0, n) (fun r h' => ∃ (x22 : Int) (n21 : NM), r = some (vi x22) ∧ h' = (B0, n21) ∧ 
      ((x22 ≠ 0 →
        (Ev w d 0 0 mX6_weigh [vr 51, vr 1, vi (-1)] (B0, n21) (fun r h' => ∃ n24 : NM, r = none ∧ h' = (B0, n24) ∧ 
          (Ev w d 0 0 mX5_bestFor [vr 73, vr 1, vr 51, vi x1] (B0, n24) (fun r h' => ∃ (x26 : Int) (n25 : NM), r = some (vi x26) ∧ h' = (B0, n25) ∧ 
            Q (some (vi x26)) (B0, n25)))))) ∧
      (x22 = 0 →
        Q (some (vi (-1))) (B0, n21)))))) :
    Rn w mX11_plan (d + 1) G Q 0 [(0, vr 0), (1, vi x1)] [] (B0, n) := by
  refine r_iload_n dX11_plan_0 rfl rfl ?_
  refine r_iconst (x := 0) dX11_plan_1 rfl (by decide) ?_
  refine r_sipush (x := 1000) dX11_plan_2 (by decide +kernel) (by decide) ?_
  refine r_callS (args := [vi x1, vi 0, vi 1000]) dX11_plan_5 kX11_80 rfl rfl (Nat.le_of_ble_eq_true rfl) cap0 (Ev.mono V ?_)
  rintro r h' ⟨x22, n21, rfl, rfl, V⟩
  show Rn w mX11_plan (d + 1) G Q 8 [(0, vr 0), (1, vi x1)] [vi x22] (B0, n21)
  obtain ⟨V1, V2⟩ := V
  refine r_zne (tgt := 13) dX11_plan_8 (by decide) (fun c23 => ?_) (fun c23 => ?_)
  · have V := V1 c23
    refine r_aload_n dX11_plan_13 rfl rfl ?_
    refine r_getR (b := 51) dX11_plan_14 fX11_48 ob_0 (by decide) rfl rfl ?_
    refine r_aload_n dX11_plan_17 rfl rfl ?_
    refine r_getR (b := 1) dX11_plan_18 fX11_10 ob_0 (by decide) rfl rfl ?_
    refine r_iconst (x := -1) dX11_plan_21 rfl (by decide) ?_
    refine r_callV (args := [vr 1, vi (-1)]) dX11_plan_22 kX11_216 ob_51 ⟨_, _, rfl⟩ (by decide) rfl rfl (Nat.le_of_ble_eq_true rfl) cap0 (Ev.mono V ?_)
    rintro r h' ⟨n24, rfl, rfl, V⟩
    show Rn w mX11_plan (d + 1) G Q 25 [(0, vr 0), (1, vi x1)] [] (B0, n24)
    refine r_aload_n dX11_plan_25 rfl rfl ?_
    refine r_getR (b := 73) dX11_plan_26 fX11_55 ob_0 (by decide) rfl rfl ?_
    refine r_aload_n dX11_plan_29 rfl rfl ?_
    refine r_getR (b := 1) dX11_plan_30 fX11_10 ob_0 (by decide) rfl rfl ?_
    refine r_aload_n dX11_plan_33 rfl rfl ?_
    refine r_getR (b := 51) dX11_plan_34 fX11_48 ob_0 (by decide) rfl rfl ?_
    refine r_iload_n dX11_plan_37 rfl rfl ?_
    refine r_callV (args := [vr 1, vr 51, vi x1]) dX11_plan_38 kX11_243 ob_73 ⟨_, _, rfl⟩ (by decide) rfl rfl (Nat.le_of_ble_eq_true rfl) cap0 (Ev.mono V ?_)
    rintro r h' ⟨x26, n25, rfl, rfl, V⟩
    show Rn w mX11_plan (d + 1) G Q 41 [(0, vr 0), (1, vi x1)] [vi x26] (B0, n25)
    exact r_iret dX11_plan_41 rfl V
  · have V := V2 c23
    refine r_iconst (x := -1) dX11_plan_11 rfl (by decide) ?_
    exact r_iret dX11_plan_12 rfl V

theorem gX11_year_0 {w : WD} {d : Nat} {G : GM} {Q : Option AV → Hp → Prop} {n : NM} {x1 x2 x3 : Int}
    (V :
    (Ev w d 0 0 mX11_within [vi x1, vi 0, vi 29] (B0, n) (fun r h' => ∃ (x22 : Int) (n21 : NM), r = some (vi x22) ∧ h' = (B0, n21) ∧ 
      ((x22 = 0 →
        (Ev w d 0 0 mX11_refuse [vr 0, vi (-1)] (B0, n21) (fun r h' => ∃ (x25 : Int) (n24 : NM), r = some (vi x25) ∧ h' = (B0, n24) ∧ 
          Q (some (vi x25)) (B0, n24)))) ∧
      (x22 ≠ 0 →
        (Ev w d 0 0 mX11_within [vi x2, vi 0, vi 1000] (B0, n21) (fun r h' => ∃ (x27 : Int) (n26 : NM), r = some (vi x27) ∧ h' = (B0, n26) ∧ 
          ((x27 = 0 →
            (Ev w d 0 0 mX11_refuse [vr 0, vi (-1)] (B0, n26) (fun r h' => ∃ (x30 : Int) (n29 : NM), r = some (vi x30) ∧ h' = (B0, n29) ∧ 
              Q (some (vi x30)) (B0, n29)))) ∧
          (x27 ≠ 0 →
            (Ev w d 0 0 mX11_within [vi x3, vi 0, vi 1000] (B0, n26) (fun r h' => ∃ (x32 : Int) (n31 : NM), r = some (vi x32) ∧ h' = (B0, n31) ∧ 
              ((x32 ≠ 0 →
                (Ev w d 0 0 mX7_set [vr 27, vi x1, vi 0, vi x2] (B0, n31) (fun r h' => ∃ n34 : NM, r = none ∧ h' = (B0, n34) ∧ 
                  (Ev w d 0 0 mX7_set [vr 27, vi x1, vi 1, vi x3] (B0, n34) (fun r h' => ∃ n35 : NM, r = none ∧ h' = (B0, n35) ∧ 
                    (Ev w d 0 0 mX11_accept [vr 0, vi 0] (B0, n35) (fun r h' => ∃ (x37 : Int) (n36 : NM), r = some (vi x37) ∧ h' = (B0, n36) ∧ 
                      Q (some (vi x37)) (B0, n36)))))))) ∧
              (x32 = 0 →
                (Ev w d 0 0 mX11_refuse [vr 0, vi (-1)] (B0, n31) (fun r h' => ∃ (x39 : Int) (n38 : NM), r = some (vi x39) ∧ h' = (B0, n38) ∧ 
                  Q (some (vi x39)) (B0, n38)))))))))))))))) :
    Rn w mX11_year (d + 1) G Q 0 [(0, vr 0), (1, vi x1), (2, vi x2), (3, vi x3)] [] (B0, n) := by
  refine r_iload_n dX11_year_0 rfl rfl ?_
  refine r_iconst (x := 0) dX11_year_1 rfl (by decide) ?_
  refine r_bipush (x := 29) dX11_year_2 (by decide +kernel) (by decide) ?_
  refine r_callS (args := [vi x1, vi 0, vi 29]) dX11_year_4 kX11_80 rfl rfl (Nat.le_of_ble_eq_true rfl) cap0 (Ev.mono V ?_)
  rintro r h' ⟨x22, n21, rfl, rfl, V⟩
  show Rn w mX11_year (d + 1) G Q 7 [(0, vr 0), (1, vi x1), (2, vi x2), (3, vi x3)] [vi x22] (B0, n21)
  obtain ⟨V1, V2⟩ := V
  refine r_zeq (tgt := 32) dX11_year_7 (by decide) (fun c23 => ?_) (fun c23 => ?_)
  · have V := V1 c23
    refine r_aload_n dX11_year_32 rfl rfl ?_
    refine r_iconst (x := -1) dX11_year_33 rfl (by decide) ?_
    refine r_callV (args := [vi (-1)]) dX11_year_34 kX11_84 ob_0 ⟨_, _, rfl⟩ (by decide) rfl rfl (Nat.le_of_ble_eq_true rfl) cap0 (Ev.mono V ?_)
    rintro r h' ⟨x25, n24, rfl, rfl, V⟩
    show Rn w mX11_year (d + 1) G Q 37 [(0, vr 0), (1, vi x1), (2, vi x2), (3, vi x3)] [vi x25] (B0, n24)
    exact r_iret dX11_year_37 rfl V
  · have V := V2 c23
    refine r_iload_n dX11_year_10 rfl rfl ?_
    refine r_iconst (x := 0) dX11_year_11 rfl (by decide) ?_
    refine r_sipush (x := 1000) dX11_year_12 (by decide +kernel) (by decide) ?_
    refine r_callS (args := [vi x2, vi 0, vi 1000]) dX11_year_15 kX11_80 rfl rfl (Nat.le_of_ble_eq_true rfl) cap0 (Ev.mono V ?_)
    rintro r h' ⟨x27, n26, rfl, rfl, V⟩
    show Rn w mX11_year (d + 1) G Q 18 [(0, vr 0), (1, vi x1), (2, vi x2), (3, vi x3)] [vi x27] (B0, n26)
    obtain ⟨V1, V2⟩ := V
    refine r_zeq (tgt := 32) dX11_year_18 (by decide) (fun c28 => ?_) (fun c28 => ?_)
    · have V := V1 c28
      refine r_aload_n dX11_year_32 rfl rfl ?_
      refine r_iconst (x := -1) dX11_year_33 rfl (by decide) ?_
      refine r_callV (args := [vi (-1)]) dX11_year_34 kX11_84 ob_0 ⟨_, _, rfl⟩ (by decide) rfl rfl (Nat.le_of_ble_eq_true rfl) cap0 (Ev.mono V ?_)
      rintro r h' ⟨x30, n29, rfl, rfl, V⟩
      show Rn w mX11_year (d + 1) G Q 37 [(0, vr 0), (1, vi x1), (2, vi x2), (3, vi x3)] [vi x30] (B0, n29)
      exact r_iret dX11_year_37 rfl V
    · have V := V2 c28
      refine r_iload_n dX11_year_21 rfl rfl ?_
      refine r_iconst (x := 0) dX11_year_22 rfl (by decide) ?_
      refine r_sipush (x := 1000) dX11_year_23 (by decide +kernel) (by decide) ?_
      refine r_callS (args := [vi x3, vi 0, vi 1000]) dX11_year_26 kX11_80 rfl rfl (Nat.le_of_ble_eq_true rfl) cap0 (Ev.mono V ?_)
      rintro r h' ⟨x32, n31, rfl, rfl, V⟩
      show Rn w mX11_year (d + 1) G Q 29 [(0, vr 0), (1, vi x1), (2, vi x2), (3, vi x3)] [vi x32] (B0, n31)
      obtain ⟨V1, V2⟩ := V
      refine r_zne (tgt := 38) dX11_year_29 (by decide) (fun c33 => ?_) (fun c33 => ?_)
      · have V := V1 c33
        refine r_aload_n dX11_year_38 rfl rfl ?_
        refine r_getR (b := 1) dX11_year_39 fX11_10 ob_0 (by decide) rfl rfl ?_
        refine r_getR (b := 27) dX11_year_42 fX11_246 ob_1 (by decide) rfl rfl ?_
        refine r_iload_n dX11_year_45 rfl rfl ?_
        refine r_iconst (x := 0) dX11_year_46 rfl (by decide) ?_
        refine r_iload_n dX11_year_47 rfl rfl ?_
        refine r_callV (args := [vi x1, vi 0, vi x2]) dX11_year_48 kX11_249 ob_27 ⟨_, _, rfl⟩ (by decide) rfl rfl (Nat.le_of_ble_eq_true rfl) cap0 (Ev.mono V ?_)
        rintro r h' ⟨n34, rfl, rfl, V⟩
        show Rn w mX11_year (d + 1) G Q 51 [(0, vr 0), (1, vi x1), (2, vi x2), (3, vi x3)] [] (B0, n34)
        refine r_aload_n dX11_year_51 rfl rfl ?_
        refine r_getR (b := 1) dX11_year_52 fX11_10 ob_0 (by decide) rfl rfl ?_
        refine r_getR (b := 27) dX11_year_55 fX11_246 ob_1 (by decide) rfl rfl ?_
        refine r_iload_n dX11_year_58 rfl rfl ?_
        refine r_iconst (x := 1) dX11_year_59 rfl (by decide) ?_
        refine r_iload_n dX11_year_60 rfl rfl ?_
        refine r_callV (args := [vi x1, vi 1, vi x3]) dX11_year_61 kX11_249 ob_27 ⟨_, _, rfl⟩ (by decide) rfl rfl (Nat.le_of_ble_eq_true rfl) cap0 (Ev.mono V ?_)
        rintro r h' ⟨n35, rfl, rfl, V⟩
        show Rn w mX11_year (d + 1) G Q 64 [(0, vr 0), (1, vi x1), (2, vi x2), (3, vi x3)] [] (B0, n35)
        refine r_aload_n dX11_year_64 rfl rfl ?_
        refine r_iconst (x := 0) dX11_year_65 rfl (by decide) ?_
        refine r_callV (args := [vi 0]) dX11_year_66 kX11_98 ob_0 ⟨_, _, rfl⟩ (by decide) rfl rfl (Nat.le_of_ble_eq_true rfl) cap0 (Ev.mono V ?_)
        rintro r h' ⟨x37, n36, rfl, rfl, V⟩
        show Rn w mX11_year (d + 1) G Q 69 [(0, vr 0), (1, vi x1), (2, vi x2), (3, vi x3)] [vi x37] (B0, n36)
        exact r_iret dX11_year_69 rfl V
      · have V := V2 c33
        refine r_aload_n dX11_year_32 rfl rfl ?_
        refine r_iconst (x := -1) dX11_year_33 rfl (by decide) ?_
        refine r_callV (args := [vi (-1)]) dX11_year_34 kX11_84 ob_0 ⟨_, _, rfl⟩ (by decide) rfl rfl (Nat.le_of_ble_eq_true rfl) cap0 (Ev.mono V ?_)
        rintro r h' ⟨x39, n38, rfl, rfl, V⟩
        show Rn w mX11_year (d + 1) G Q 37 [(0, vr 0), (1, vi x1), (2, vi x2), (3, vi x3)] [vi x39] (B0, n38)
        exact r_iret dX11_year_37 rfl V

theorem gX11_more_0 {w : WD} {d : Nat} {G : GM} {Q : Option AV → Hp → Prop} {n : NM} {x1 x2 x3 : Int}
    (V :
    (Ev w d 0 0 mX11_isBase [vr 0, vi x1] (B0, n) (fun r h' => ∃ (x22 : Int) (n21 : NM), r = some (vi x22) ∧ h' = (B0, n21) ∧ 
      ((x22 = 0 →
        Q (some (vi (-10000000))) (B0, n21)) ∧
      (x22 ≠ 0 →
        (Ev w d 0 0 mX11_within [vi x2, vi 0, vi 29] (B0, n21) (fun r h' => ∃ (x25 : Int) (n24 : NM), r = some (vi x25) ∧ h' = (B0, n24) ∧ 
          ((x25 = 0 →
            Q (some (vi (-10000000))) (B0, n24)) ∧
          (x25 ≠ 0 →
            (Ev w d 0 0 mX11_within [vi x3, vi 0, vi 1] (B0, n24) (fun r h' => ∃ (x28 : Int) (n27 : NM), r = some (vi x28) ∧ h' = (B0, n27) ∧ 
              ((x28 ≠ 0 →
                ((x3 ≠ 0 →
                  (Ev w d 0 0 mX1_moreSeen [vr 1, vi x1, vi x2] (B0, n27) (fun r h' => ∃ (x32 : Int) (n31 : NM), r = some (vi x32) ∧ h' = (B0, n31) ∧ 
                    Q (some (vi x32)) (B0, n31)))) ∧
                (x3 = 0 →
                  (Ev w d 0 0 mX1_nothingNew [vr 1, vi x1, vi x2] (B0, n27) (fun r h' => ∃ (x34 : Int) (n33 : NM), r = some (vi x34) ∧ h' = (B0, n33) ∧ 
                    Q (some (vi x34)) (B0, n33)))))) ∧
              (x28 = 0 →
                Q (some (vi (-10000000))) (B0, n27)))))))))))))) :
    Rn w mX11_more (d + 1) G Q 0 [(0, vr 0), (1, vi x1), (2, vi x2), (3, vi x3)] [] (B0, n) := by
  refine r_aload_n dX11_more_0 rfl rfl ?_
  refine r_iload_n dX11_more_1 rfl rfl ?_
  refine r_callV (args := [vi x1]) dX11_more_2 kX11_253 ob_0 ⟨_, _, rfl⟩ (by decide) rfl rfl (Nat.le_of_ble_eq_true rfl) cap0 (Ev.mono V ?_)
  rintro r h' ⟨x22, n21, rfl, rfl, V⟩
  show Rn w mX11_more (d + 1) G Q 5 [(0, vr 0), (1, vi x1), (2, vi x2), (3, vi x3)] [vi x22] (B0, n21)
  obtain ⟨V1, V2⟩ := V
  refine r_zeq (tgt := 27) dX11_more_5 (by decide) (fun c23 => ?_) (fun c23 => ?_)
  · have V := V1 c23
    refine r_ldc (x := -10000000) dX11_more_27 qX11_222 (by decide) ?_
    exact r_iret dX11_more_29 rfl V
  · have V := V2 c23
    refine r_iload_n dX11_more_8 rfl rfl ?_
    refine r_iconst (x := 0) dX11_more_9 rfl (by decide) ?_
    refine r_bipush (x := 29) dX11_more_10 (by decide +kernel) (by decide) ?_
    refine r_callS (args := [vi x2, vi 0, vi 29]) dX11_more_12 kX11_80 rfl rfl (Nat.le_of_ble_eq_true rfl) cap0 (Ev.mono V ?_)
    rintro r h' ⟨x25, n24, rfl, rfl, V⟩
    show Rn w mX11_more (d + 1) G Q 15 [(0, vr 0), (1, vi x1), (2, vi x2), (3, vi x3)] [vi x25] (B0, n24)
    obtain ⟨V1, V2⟩ := V
    refine r_zeq (tgt := 27) dX11_more_15 (by decide) (fun c26 => ?_) (fun c26 => ?_)
    · have V := V1 c26
      refine r_ldc (x := -10000000) dX11_more_27 qX11_222 (by decide) ?_
      exact r_iret dX11_more_29 rfl V
    · have V := V2 c26
      refine r_iload_n dX11_more_18 rfl rfl ?_
      refine r_iconst (x := 0) dX11_more_19 rfl (by decide) ?_
      refine r_iconst (x := 1) dX11_more_20 rfl (by decide) ?_
      refine r_callS (args := [vi x3, vi 0, vi 1]) dX11_more_21 kX11_80 rfl rfl (Nat.le_of_ble_eq_true rfl) cap0 (Ev.mono V ?_)
      rintro r h' ⟨x28, n27, rfl, rfl, V⟩
      show Rn w mX11_more (d + 1) G Q 24 [(0, vr 0), (1, vi x1), (2, vi x2), (3, vi x3)] [vi x28] (B0, n27)
      obtain ⟨V1, V2⟩ := V
      refine r_zne (tgt := 30) dX11_more_24 (by decide) (fun c29 => ?_) (fun c29 => ?_)
      · have V := V1 c29
        refine r_iload_n dX11_more_30 rfl rfl ?_
        obtain ⟨V1, V2⟩ := V
        refine r_zne (tgt := 46) dX11_more_31 (by decide) (fun c30 => ?_) (fun c30 => ?_)
        · have V := V1 c30
          refine r_aload_n dX11_more_46 rfl rfl ?_
          refine r_getR (b := 1) dX11_more_47 fX11_10 ob_0 (by decide) rfl rfl ?_
          refine r_iload_n dX11_more_50 rfl rfl ?_
          refine r_iload_n dX11_more_51 rfl rfl ?_
          refine r_callV (args := [vi x1, vi x2]) dX11_more_52 kX11_259 ob_1 ⟨_, _, rfl⟩ (by decide) rfl rfl (Nat.le_of_ble_eq_true rfl) cap0 (Ev.mono V ?_)
          rintro r h' ⟨x32, n31, rfl, rfl, V⟩
          show Rn w mX11_more (d + 1) G Q 55 [(0, vr 0), (1, vi x1), (2, vi x2), (3, vi x3)] [vi x32] (B0, n31)
          exact r_iret dX11_more_55 rfl V
        · have V := V2 c30
          refine r_aload_n dX11_more_34 rfl rfl ?_
          refine r_getR (b := 1) dX11_more_35 fX11_10 ob_0 (by decide) rfl rfl ?_
          refine r_iload_n dX11_more_38 rfl rfl ?_
          refine r_iload_n dX11_more_39 rfl rfl ?_
          refine r_callV (args := [vi x1, vi x2]) dX11_more_40 kX11_256 ob_1 ⟨_, _, rfl⟩ (by decide) rfl rfl (Nat.le_of_ble_eq_true rfl) cap0 (Ev.mono V ?_)
          rintro r h' ⟨x34, n33, rfl, rfl, V⟩
          show Rn w mX11_more (d + 1) G Q 43 [(0, vr 0), (1, vi x1), (2, vi x2), (3, vi x3)] [vi x34] (B0, n33)
          refine r_goto (tgt := 55) dX11_more_43 (by decide) ?_
          exact r_iret dX11_more_55 rfl V
      · have V := V2 c29
        refine r_ldc (x := -10000000) dX11_more_27 qX11_222 (by decide) ?_
        exact r_iret dX11_more_29 rfl V

theorem gX11_grew_0 {w : WD} {d : Nat} {G : GM} {Q : Option AV → Hp → Prop} {n : NM} {x1 : Int}
    (V :
    (Ev w d 0 0 mX11_isBase [vr 0, vi x1] (B0, n) (fun r h' => ∃ (x22 : Int) (n21 : NM), r = some (vi x22) ∧ h' = (B0, n21) ∧ 
      ((x22 ≠ 0 →
        Rn w mX11_grew (d + 1) G Q 14 [(0, vr 0), (1, vi x1), (2, vi 0), (3, vi 1)] [] (B0, n21)) ∧
      (x22 = 0 →
        Q (some (vi (-1))) (B0, n21)))))) :
    Rn w mX11_grew (d + 1) G Q 0 [(0, vr 0), (1, vi x1)] [] (B0, n) := by
  refine r_aload_n dX11_grew_0 rfl rfl ?_
  refine r_iload_n dX11_grew_1 rfl rfl ?_
  refine r_callV (args := [vi x1]) dX11_grew_2 kX11_253 ob_0 ⟨_, _, rfl⟩ (by decide) rfl rfl (Nat.le_of_ble_eq_true rfl) cap0 (Ev.mono V ?_)
  rintro r h' ⟨x22, n21, rfl, rfl, V⟩
  show Rn w mX11_grew (d + 1) G Q 5 [(0, vr 0), (1, vi x1)] [vi x22] (B0, n21)
  obtain ⟨V1, V2⟩ := V
  refine r_zne (tgt := 10) dX11_grew_5 (by decide) (fun c23 => ?_) (fun c23 => ?_)
  · have V := V1 c23
    refine r_iconst (x := 0) dX11_grew_10 rfl (by decide) ?_
    refine r_istore_n (ls' := [(0, vr 0), (1, vi x1), (2, vi 0)]) dX11_grew_11 rfl (by decide) rfl ?_
    refine r_iconst (x := 1) dX11_grew_12 rfl (by decide) ?_
    refine r_istore_n (ls' := [(0, vr 0), (1, vi x1), (2, vi 0), (3, vi 1)]) dX11_grew_13 rfl (by decide) rfl ?_
    exact V
  · have V := V2 c23
    refine r_iconst (x := -1) dX11_grew_8 rfl (by decide) ?_
    exact r_iret dX11_grew_9 rfl V

theorem gX11_grew_14 {w : WD} {d : Nat} {G : GM} {Q : Option AV → Hp → Prop} {n : NM} {x1 x2 x3 : Int}
    (V :
    ((30 ≤ x3 →
      Q (some (vi x2)) (B0, n)) ∧
    (x3 < 30 →
      (Ev w d 0 0 mX1_moreSeen [vr 1, vi x1, vi x3] (B0, n) (fun r h' => ∃ (x23 : Int) (n22 : NM), r = some (vi x23) ∧ h' = (B0, n22) ∧ 
        (Ev w d 0 0 mX1_moreSeen [vr 1, vi x1, vi x2] (B0, n22) (fun r h' => ∃ (x25 : Int) (n24 : NM), r = some (vi x25) ∧ h' = (B0, n24) ∧ 
          (∀ z27 : Int, z27 = (if x23 ≤ x25 then x2 else x3) → 
          (inI (x3 + 1)) ∧
          Rn w mX11_grew (d + 1) G Q 14 [(0, vr 0), (1, vi x1), (2, vi z27), (3, vi (x3 + 1))] [] (B0, n24))))))))) :
    Rn w mX11_grew (d + 1) G Q 14 [(0, vr 0), (1, vi x1), (2, vi x2), (3, vi x3)] [] (B0, n) := by
  refine r_iload_n dX11_grew_14 rfl rfl ?_
  refine r_bipush (x := 30) dX11_grew_15 (by decide +kernel) (by decide) ?_
  obtain ⟨V1, V2⟩ := V
  refine r_jge (tgt := 49) dX11_grew_17 (by decide) (fun c21 => ?_) (fun c21 => ?_)
  · have V := V1 c21
    refine r_iload_n dX11_grew_49 rfl rfl ?_
    exact r_iret dX11_grew_50 rfl V
  · have V := V2 c21
    refine r_aload_n dX11_grew_20 rfl rfl ?_
    refine r_getR (b := 1) dX11_grew_21 fX11_10 ob_0 (by decide) rfl rfl ?_
    refine r_iload_n dX11_grew_24 rfl rfl ?_
    refine r_iload_n dX11_grew_25 rfl rfl ?_
    refine r_callV (args := [vi x1, vi x3]) dX11_grew_26 kX11_259 ob_1 ⟨_, _, rfl⟩ (by decide) rfl rfl (Nat.le_of_ble_eq_true rfl) cap0 (Ev.mono V ?_)
    rintro r h' ⟨x23, n22, rfl, rfl, V⟩
    show Rn w mX11_grew (d + 1) G Q 29 [(0, vr 0), (1, vi x1), (2, vi x2), (3, vi x3)] [vi x23] (B0, n22)
    refine r_aload_n dX11_grew_29 rfl rfl ?_
    refine r_getR (b := 1) dX11_grew_30 fX11_10 ob_0 (by decide) rfl rfl ?_
    refine r_iload_n dX11_grew_33 rfl rfl ?_
    refine r_iload_n dX11_grew_34 rfl rfl ?_
    refine r_callV (args := [vi x1, vi x2]) dX11_grew_35 kX11_259 ob_1 ⟨_, _, rfl⟩ (by decide) rfl rfl (Nat.le_of_ble_eq_true rfl) cap0 (Ev.mono V ?_)
    rintro r h' ⟨x25, n24, rfl, rfl, V⟩
    show Rn w mX11_grew (d + 1) G Q 38 [(0, vr 0), (1, vi x1), (2, vi x2), (3, vi x3)] [vi x25, vi x23] (B0, n24)
    have K : ∀ z27 : Int, z27 = (if x23 ≤ x25 then x2 else x3) → Rn w mX11_grew (d + 1) G Q 43 [(0, vr 0), (1, vi x1), (2, vi z27), (3, vi x3)] [] (B0, n24) := by
      intro z27 ez27
      have V := V z27 ez27
      obtain ⟨s28, V⟩ := V
      refine r_iinc (y := x3 + 1) (ls' := [(0, vr 0), (1, vi x1), (2, vi z27), (3, vi (x3 + 1))]) dX11_grew_43 rfl rfl s28 (by decide) rfl ?_
      refine r_goto (tgt := 14) dX11_grew_46 (by decide) ?_
      exact V
    refine r_jle (tgt := 43) dX11_grew_38 (by decide) (fun c26 => ?_) (fun c26 => ?_)
    · exact K x2 (by first | rfl | (simp only [if_pos c26]))
    · refine r_iload_n dX11_grew_41 rfl rfl ?_
      refine r_istore_n (ls' := [(0, vr 0), (1, vi x1), (2, vi x3), (3, vi x3)]) dX11_grew_42 rfl (by decide) rfl ?_
      exact K x3 (by first | rfl | (simp only [if_neg (Int.not_le.mpr c26)]))

theorem gX11_ripple_0 {w : WD} {d : Nat} {G : GM} {Q : Option AV → Hp → Prop} {n : NM} {x1 x2 x3 : Int}
    (V :
    (Ev w d 0 0 mX11_within [vi x1, vi 0, vi 9] (B0, n) (fun r h' => ∃ (x22 : Int) (n21 : NM), r = some (vi x22) ∧ h' = (B0, n21) ∧ 
      ((x22 = 0 →
        (Ev w d 0 0 mX11_refuse [vr 0, vi (-1)] (B0, n21) (fun r h' => ∃ (x25 : Int) (n24 : NM), r = some (vi x25) ∧ h' = (B0, n24) ∧ 
          Q (some (vi x25)) (B0, n24)))) ∧
      (x22 ≠ 0 →
        (Ev w d 0 0 mX11_within [vi x2, vi 1, vi 99] (B0, n21) (fun r h' => ∃ (x27 : Int) (n26 : NM), r = some (vi x27) ∧ h' = (B0, n26) ∧ 
          ((x27 = 0 →
            (Ev w d 0 0 mX11_refuse [vr 0, vi (-1)] (B0, n26) (fun r h' => ∃ (x30 : Int) (n29 : NM), r = some (vi x30) ∧ h' = (B0, n29) ∧ 
              Q (some (vi x30)) (B0, n29)))) ∧
          (x27 ≠ 0 →
            (Ev w d 0 0 mX11_within [vi x3, vi x2, vi 99] (B0, n26) (fun r h' => ∃ (x32 : Int) (n31 : NM), r = some (vi x32) ∧ h' = (B0, n31) ∧ 
              ((x32 ≠ 0 →
                (Ev w d 0 0 mX7_set [vr 29, vi x1, vi 0, vi x2] (B0, n31) (fun r h' => ∃ n34 : NM, r = none ∧ h' = (B0, n34) ∧ 
                  (Ev w d 0 0 mX7_set [vr 29, vi x1, vi 1, vi x3] (B0, n34) (fun r h' => ∃ n35 : NM, r = none ∧ h' = (B0, n35) ∧ 
                    (Ev w d 0 0 mX11_accept [vr 0, vi 0] (B0, n35) (fun r h' => ∃ (x37 : Int) (n36 : NM), r = some (vi x37) ∧ h' = (B0, n36) ∧ 
                      Q (some (vi x37)) (B0, n36)))))))) ∧
              (x32 = 0 →
                (Ev w d 0 0 mX11_refuse [vr 0, vi (-1)] (B0, n31) (fun r h' => ∃ (x39 : Int) (n38 : NM), r = some (vi x39) ∧ h' = (B0, n38) ∧ 
                  Q (some (vi x39)) (B0, n38)))))))))))))))) :
    Rn w mX11_ripple (d + 1) G Q 0 [(0, vr 0), (1, vi x1), (2, vi x2), (3, vi x3)] [] (B0, n) := by
  refine r_iload_n dX11_ripple_0 rfl rfl ?_
  refine r_iconst (x := 0) dX11_ripple_1 rfl (by decide) ?_
  refine r_bipush (x := 9) dX11_ripple_2 (by decide +kernel) (by decide) ?_
  refine r_callS (args := [vi x1, vi 0, vi 9]) dX11_ripple_4 kX11_80 rfl rfl (Nat.le_of_ble_eq_true rfl) cap0 (Ev.mono V ?_)
  rintro r h' ⟨x22, n21, rfl, rfl, V⟩
  show Rn w mX11_ripple (d + 1) G Q 7 [(0, vr 0), (1, vi x1), (2, vi x2), (3, vi x3)] [vi x22] (B0, n21)
  obtain ⟨V1, V2⟩ := V
  refine r_zeq (tgt := 30) dX11_ripple_7 (by decide) (fun c23 => ?_) (fun c23 => ?_)
  · have V := V1 c23
    refine r_aload_n dX11_ripple_30 rfl rfl ?_
    refine r_iconst (x := -1) dX11_ripple_31 rfl (by decide) ?_
    refine r_callV (args := [vi (-1)]) dX11_ripple_32 kX11_84 ob_0 ⟨_, _, rfl⟩ (by decide) rfl rfl (Nat.le_of_ble_eq_true rfl) cap0 (Ev.mono V ?_)
    rintro r h' ⟨x25, n24, rfl, rfl, V⟩
    show Rn w mX11_ripple (d + 1) G Q 35 [(0, vr 0), (1, vi x1), (2, vi x2), (3, vi x3)] [vi x25] (B0, n24)
    exact r_iret dX11_ripple_35 rfl V
  · have V := V2 c23
    refine r_iload_n dX11_ripple_10 rfl rfl ?_
    refine r_iconst (x := 1) dX11_ripple_11 rfl (by decide) ?_
    refine r_bipush (x := 99) dX11_ripple_12 (by decide +kernel) (by decide) ?_
    refine r_callS (args := [vi x2, vi 1, vi 99]) dX11_ripple_14 kX11_80 rfl rfl (Nat.le_of_ble_eq_true rfl) cap0 (Ev.mono V ?_)
    rintro r h' ⟨x27, n26, rfl, rfl, V⟩
    show Rn w mX11_ripple (d + 1) G Q 17 [(0, vr 0), (1, vi x1), (2, vi x2), (3, vi x3)] [vi x27] (B0, n26)
    obtain ⟨V1, V2⟩ := V
    refine r_zeq (tgt := 30) dX11_ripple_17 (by decide) (fun c28 => ?_) (fun c28 => ?_)
    · have V := V1 c28
      refine r_aload_n dX11_ripple_30 rfl rfl ?_
      refine r_iconst (x := -1) dX11_ripple_31 rfl (by decide) ?_
      refine r_callV (args := [vi (-1)]) dX11_ripple_32 kX11_84 ob_0 ⟨_, _, rfl⟩ (by decide) rfl rfl (Nat.le_of_ble_eq_true rfl) cap0 (Ev.mono V ?_)
      rintro r h' ⟨x30, n29, rfl, rfl, V⟩
      show Rn w mX11_ripple (d + 1) G Q 35 [(0, vr 0), (1, vi x1), (2, vi x2), (3, vi x3)] [vi x30] (B0, n29)
      exact r_iret dX11_ripple_35 rfl V
    · have V := V2 c28
      refine r_iload_n dX11_ripple_20 rfl rfl ?_
      refine r_iload_n dX11_ripple_21 rfl rfl ?_
      refine r_bipush (x := 99) dX11_ripple_22 (by decide +kernel) (by decide) ?_
      refine r_callS (args := [vi x3, vi x2, vi 99]) dX11_ripple_24 kX11_80 rfl rfl (Nat.le_of_ble_eq_true rfl) cap0 (Ev.mono V ?_)
      rintro r h' ⟨x32, n31, rfl, rfl, V⟩
      show Rn w mX11_ripple (d + 1) G Q 27 [(0, vr 0), (1, vi x1), (2, vi x2), (3, vi x3)] [vi x32] (B0, n31)
      obtain ⟨V1, V2⟩ := V
      refine r_zne (tgt := 36) dX11_ripple_27 (by decide) (fun c33 => ?_) (fun c33 => ?_)
      · have V := V1 c33
        refine r_aload_n dX11_ripple_36 rfl rfl ?_
        refine r_getR (b := 1) dX11_ripple_37 fX11_10 ob_0 (by decide) rfl rfl ?_
        refine r_getR (b := 29) dX11_ripple_40 fX11_262 ob_1 (by decide) rfl rfl ?_
        refine r_iload_n dX11_ripple_43 rfl rfl ?_
        refine r_iconst (x := 0) dX11_ripple_44 rfl (by decide) ?_
        refine r_iload_n dX11_ripple_45 rfl rfl ?_
        refine r_callV (args := [vi x1, vi 0, vi x2]) dX11_ripple_46 kX11_249 ob_29 ⟨_, _, rfl⟩ (by decide) rfl rfl (Nat.le_of_ble_eq_true rfl) cap0 (Ev.mono V ?_)
        rintro r h' ⟨n34, rfl, rfl, V⟩
        show Rn w mX11_ripple (d + 1) G Q 49 [(0, vr 0), (1, vi x1), (2, vi x2), (3, vi x3)] [] (B0, n34)
        refine r_aload_n dX11_ripple_49 rfl rfl ?_
        refine r_getR (b := 1) dX11_ripple_50 fX11_10 ob_0 (by decide) rfl rfl ?_
        refine r_getR (b := 29) dX11_ripple_53 fX11_262 ob_1 (by decide) rfl rfl ?_
        refine r_iload_n dX11_ripple_56 rfl rfl ?_
        refine r_iconst (x := 1) dX11_ripple_57 rfl (by decide) ?_
        refine r_iload_n dX11_ripple_58 rfl rfl ?_
        refine r_callV (args := [vi x1, vi 1, vi x3]) dX11_ripple_59 kX11_249 ob_29 ⟨_, _, rfl⟩ (by decide) rfl rfl (Nat.le_of_ble_eq_true rfl) cap0 (Ev.mono V ?_)
        rintro r h' ⟨n35, rfl, rfl, V⟩
        show Rn w mX11_ripple (d + 1) G Q 62 [(0, vr 0), (1, vi x1), (2, vi x2), (3, vi x3)] [] (B0, n35)
        refine r_aload_n dX11_ripple_62 rfl rfl ?_
        refine r_iconst (x := 0) dX11_ripple_63 rfl (by decide) ?_
        refine r_callV (args := [vi 0]) dX11_ripple_64 kX11_98 ob_0 ⟨_, _, rfl⟩ (by decide) rfl rfl (Nat.le_of_ble_eq_true rfl) cap0 (Ev.mono V ?_)
        rintro r h' ⟨x37, n36, rfl, rfl, V⟩
        show Rn w mX11_ripple (d + 1) G Q 67 [(0, vr 0), (1, vi x1), (2, vi x2), (3, vi x3)] [vi x37] (B0, n36)
        exact r_iret dX11_ripple_67 rfl V
      · have V := V2 c33
        refine r_aload_n dX11_ripple_30 rfl rfl ?_
        refine r_iconst (x := -1) dX11_ripple_31 rfl (by decide) ?_
        refine r_callV (args := [vi (-1)]) dX11_ripple_32 kX11_84 ob_0 ⟨_, _, rfl⟩ (by decide) rfl rfl (Nat.le_of_ble_eq_true rfl) cap0 (Ev.mono V ?_)
        rintro r h' ⟨x39, n38, rfl, rfl, V⟩
        show Rn w mX11_ripple (d + 1) G Q 35 [(0, vr 0), (1, vi x1), (2, vi x2), (3, vi x3)] [vi x39] (B0, n38)
        exact r_iret dX11_ripple_35 rfl V

theorem gX11_picture_0 {w : WD} {d : Nat} {G : GM} {Q : Option AV → Hp → Prop} {n : NM} {x1 x2 x3 : Int}
    (V :
    (Ev w d 0 0 mX11_within [vi x1, vi 0, vi 59] (B0, n) (fun r h' => ∃ (x22 : Int) (n21 : NM), r = some (vi x22) ∧ h' = (B0, n21) ∧ 
      ((x22 = 0 →
        Q (some (vi (-1))) (B0, n21)) ∧
      (x22 ≠ 0 →
        (Ev w d 0 0 mX11_within [vi x2, vi 0, vi 50] (B0, n21) (fun r h' => ∃ (x25 : Int) (n24 : NM), r = some (vi x25) ∧ h' = (B0, n24) ∧ 
          ((x25 = 0 →
            Q (some (vi (-1))) (B0, n24)) ∧
          (x25 ≠ 0 →
            (Ev w d 0 0 mX11_within [vi x3, vi 0, vi 1] (B0, n24) (fun r h' => ∃ (x28 : Int) (n27 : NM), r = some (vi x28) ∧ h' = (B0, n27) ∧ 
              ((x28 ≠ 0 →
                (Ev w d 0 0 mX7_get [vr 2, vi x1, vi 0] (B0, n27) (fun r h' => ∃ (x31 : Int) (n30 : NM), r = some (vi x31) ∧ h' = (B0, n30) ∧ 
                  ((x3 ≠ 0 →
                    (inI (x2 + 1)) ∧
                    (Ev w d 0 0 mX7_get [vr 29, vi x31, vi 1] (B0, n30) (fun r h' => ∃ (x35 : Int) (n34 : NM), r = some (vi x35) ∧ h' = (B0, n34) ∧ 
                      (inI ((x2 + 1) * x35)) ∧
                      Q (some (vi ((x2 + 1) * x35))) (B0, n34)))) ∧
                  (x3 = 0 →
                    (Ev w d 0 0 mX7_get [vr 29, vi x31, vi 0] (B0, n30) (fun r h' => ∃ (x38 : Int) (n37 : NM), r = some (vi x38) ∧ h' = (B0, n37) ∧ 
                      (inI (x2 * x38)) ∧
                      Q (some (vi (x2 * x38))) (B0, n37)))))))) ∧
              (x28 = 0 →
                Q (some (vi (-1))) (B0, n27)))))))))))))) :
    Rn w mX11_picture (d + 1) G Q 0 [(0, vr 0), (1, vi x1), (2, vi x2), (3, vi x3)] [] (B0, n) := by
  refine r_iload_n dX11_picture_0 rfl rfl ?_
  refine r_iconst (x := 0) dX11_picture_1 rfl (by decide) ?_
  refine r_bipush (x := 59) dX11_picture_2 (by decide +kernel) (by decide) ?_
  refine r_callS (args := [vi x1, vi 0, vi 59]) dX11_picture_4 kX11_80 rfl rfl (Nat.le_of_ble_eq_true rfl) cap0 (Ev.mono V ?_)
  rintro r h' ⟨x22, n21, rfl, rfl, V⟩
  show Rn w mX11_picture (d + 1) G Q 7 [(0, vr 0), (1, vi x1), (2, vi x2), (3, vi x3)] [vi x22] (B0, n21)
  obtain ⟨V1, V2⟩ := V
  refine r_zeq (tgt := 29) dX11_picture_7 (by decide) (fun c23 => ?_) (fun c23 => ?_)
  · have V := V1 c23
    refine r_iconst (x := -1) dX11_picture_29 rfl (by decide) ?_
    exact r_iret dX11_picture_30 rfl V
  · have V := V2 c23
    refine r_iload_n dX11_picture_10 rfl rfl ?_
    refine r_iconst (x := 0) dX11_picture_11 rfl (by decide) ?_
    refine r_bipush (x := 50) dX11_picture_12 (by decide +kernel) (by decide) ?_
    refine r_callS (args := [vi x2, vi 0, vi 50]) dX11_picture_14 kX11_80 rfl rfl (Nat.le_of_ble_eq_true rfl) cap0 (Ev.mono V ?_)
    rintro r h' ⟨x25, n24, rfl, rfl, V⟩
    show Rn w mX11_picture (d + 1) G Q 17 [(0, vr 0), (1, vi x1), (2, vi x2), (3, vi x3)] [vi x25] (B0, n24)
    obtain ⟨V1, V2⟩ := V
    refine r_zeq (tgt := 29) dX11_picture_17 (by decide) (fun c26 => ?_) (fun c26 => ?_)
    · have V := V1 c26
      refine r_iconst (x := -1) dX11_picture_29 rfl (by decide) ?_
      exact r_iret dX11_picture_30 rfl V
    · have V := V2 c26
      refine r_iload_n dX11_picture_20 rfl rfl ?_
      refine r_iconst (x := 0) dX11_picture_21 rfl (by decide) ?_
      refine r_iconst (x := 1) dX11_picture_22 rfl (by decide) ?_
      refine r_callS (args := [vi x3, vi 0, vi 1]) dX11_picture_23 kX11_80 rfl rfl (Nat.le_of_ble_eq_true rfl) cap0 (Ev.mono V ?_)
      rintro r h' ⟨x28, n27, rfl, rfl, V⟩
      show Rn w mX11_picture (d + 1) G Q 26 [(0, vr 0), (1, vi x1), (2, vi x2), (3, vi x3)] [vi x28] (B0, n27)
      obtain ⟨V1, V2⟩ := V
      refine r_zne (tgt := 31) dX11_picture_26 (by decide) (fun c29 => ?_) (fun c29 => ?_)
      · have V := V1 c29
        refine r_aload_n dX11_picture_31 rfl rfl ?_
        refine r_getR (b := 1) dX11_picture_32 fX11_10 ob_0 (by decide) rfl rfl ?_
        refine r_getR (b := 2) dX11_picture_35 fX11_88 ob_1 (by decide) rfl rfl ?_
        refine r_iload_n dX11_picture_38 rfl rfl ?_
        refine r_iconst (x := 0) dX11_picture_39 rfl (by decide) ?_
        refine r_callV (args := [vi x1, vi 0]) dX11_picture_40 kX11_184 ob_2 ⟨_, _, rfl⟩ (by decide) rfl rfl (Nat.le_of_ble_eq_true rfl) cap0 (Ev.mono V ?_)
        rintro r h' ⟨x31, n30, rfl, rfl, V⟩
        show Rn w mX11_picture (d + 1) G Q 43 [(0, vr 0), (1, vi x1), (2, vi x2), (3, vi x3)] [vi x31] (B0, n30)
        refine r_istore (ls' := [(0, vr 0), (1, vi x1), (2, vi x2), (3, vi x3), (4, vi x31)]) dX11_picture_43 (by decide) rfl ?_
        refine r_iload_n dX11_picture_45 rfl rfl ?_
        obtain ⟨V1, V2⟩ := V
        refine r_zne (tgt := 67) dX11_picture_46 (by decide) (fun c32 => ?_) (fun c32 => ?_)
        · have V := V1 c32
          refine r_iload_n dX11_picture_67 rfl rfl ?_
          refine r_iconst (x := 1) dX11_picture_68 rfl (by decide) ?_
          obtain ⟨s33, V⟩ := V
          refine r_iadd dX11_picture_69 s33 ?_
          refine r_aload_n dX11_picture_70 rfl rfl ?_
          refine r_getR (b := 1) dX11_picture_71 fX11_10 ob_0 (by decide) rfl rfl ?_
          refine r_getR (b := 29) dX11_picture_74 fX11_262 ob_1 (by decide) rfl rfl ?_
          refine r_iload dX11_picture_77 rfl ?_
          refine r_iconst (x := 1) dX11_picture_79 rfl (by decide) ?_
          refine r_callV (args := [vi x31, vi 1]) dX11_picture_80 kX11_184 ob_29 ⟨_, _, rfl⟩ (by decide) rfl rfl (Nat.le_of_ble_eq_true rfl) cap0 (Ev.mono V ?_)
          rintro r h' ⟨x35, n34, rfl, rfl, V⟩
          show Rn w mX11_picture (d + 1) G Q 83 [(0, vr 0), (1, vi x1), (2, vi x2), (3, vi x3), (4, vi x31)] [vi x35, vi (x2 + 1)] (B0, n34)
          obtain ⟨s36, V⟩ := V
          refine r_imul dX11_picture_83 s36 ?_
          exact r_iret dX11_picture_84 rfl V
        · have V := V2 c32
          refine r_iload_n dX11_picture_49 rfl rfl ?_
          refine r_aload_n dX11_picture_50 rfl rfl ?_
          refine r_getR (b := 1) dX11_picture_51 fX11_10 ob_0 (by decide) rfl rfl ?_
          refine r_getR (b := 29) dX11_picture_54 fX11_262 ob_1 (by decide) rfl rfl ?_
          refine r_iload dX11_picture_57 rfl ?_
          refine r_iconst (x := 0) dX11_picture_59 rfl (by decide) ?_
          refine r_callV (args := [vi x31, vi 0]) dX11_picture_60 kX11_184 ob_29 ⟨_, _, rfl⟩ (by decide) rfl rfl (Nat.le_of_ble_eq_true rfl) cap0 (Ev.mono V ?_)
          rintro r h' ⟨x38, n37, rfl, rfl, V⟩
          show Rn w mX11_picture (d + 1) G Q 63 [(0, vr 0), (1, vi x1), (2, vi x2), (3, vi x3), (4, vi x31)] [vi x38, vi x2] (B0, n37)
          obtain ⟨s39, V⟩ := V
          refine r_imul dX11_picture_63 s39 ?_
          refine r_goto (tgt := 84) dX11_picture_64 (by decide) ?_
          exact r_iret dX11_picture_84 rfl V
      · have V := V2 c29
        refine r_iconst (x := -1) dX11_picture_29 rfl (by decide) ?_
        exact r_iret dX11_picture_30 rfl V

theorem gX11_run_0 {w : WD} {d : Nat} {G : GM} {Q : Option AV → Hp → Prop} {n : NM} {x1 x2 x3 : Int}
    (V :
    (Ev w d 0 0 mX11_within [vi x2, vi 1, vi 60] (B0, n) (fun r h' => ∃ (x22 : Int) (n21 : NM), r = some (vi x22) ∧ h' = (B0, n21) ∧ 
      ((x22 = 0 →
        (Ev w d 0 0 mX11_refuse [vr 0, vi (-1)] (B0, n21) (fun r h' => ∃ (x25 : Int) (n24 : NM), r = some (vi x25) ∧ h' = (B0, n24) ∧ 
          Q (some (vi x25)) (B0, n24)))) ∧
      (x22 ≠ 0 →
        (Ev w d 0 0 mX11_within [vi x3, vi 0, vi 1000000] (B0, n21) (fun r h' => ∃ (x27 : Int) (n26 : NM), r = some (vi x27) ∧ h' = (B0, n26) ∧ 
          ((x27 ≠ 0 →
            (Ev w d 0 0 mX7_holds [vr 21, vi x1] (B0, n26) (fun r h' => ∃ (x30 : Int) (n29 : NM), r = some (vi x30) ∧ h' = (B0, n29) ∧ 
              ((x30 ≠ 0 →
                (Ev w d 0 0 mX10_make [vr 77, vr 1, vi x1, vi x2, vi x3] (B0, n29) (fun r h' => ∃ (x33 : Int) (n32 : NM), r = some (vi x33) ∧ h' = (B0, n32) ∧ 
                  (Ev w d 0 0 mX11_accept [vr 0, vi x33] (B0, n32) (fun r h' => ∃ (x35 : Int) (n34 : NM), r = some (vi x35) ∧ h' = (B0, n34) ∧ 
                    Q (some (vi x35)) (B0, n34)))))) ∧
              (x30 = 0 →
                (Ev w d 0 0 mX11_refuse [vr 0, vi (-2)] (B0, n29) (fun r h' => ∃ (x37 : Int) (n36 : NM), r = some (vi x37) ∧ h' = (B0, n36) ∧ 
                  Q (some (vi x37)) (B0, n36)))))))) ∧
          (x27 = 0 →
            (Ev w d 0 0 mX11_refuse [vr 0, vi (-1)] (B0, n26) (fun r h' => ∃ (x39 : Int) (n38 : NM), r = some (vi x39) ∧ h' = (B0, n38) ∧ 
              Q (some (vi x39)) (B0, n38)))))))))))) :
    Rn w mX11_run (d + 1) G Q 0 [(0, vr 0), (1, vi x1), (2, vi x2), (3, vi x3)] [] (B0, n) := by
  refine r_iload_n dX11_run_0 rfl rfl ?_
  refine r_iconst (x := 1) dX11_run_1 rfl (by decide) ?_
  refine r_bipush (x := 60) dX11_run_2 (by decide +kernel) (by decide) ?_
  refine r_callS (args := [vi x2, vi 1, vi 60]) dX11_run_4 kX11_80 rfl rfl (Nat.le_of_ble_eq_true rfl) cap0 (Ev.mono V ?_)
  rintro r h' ⟨x22, n21, rfl, rfl, V⟩
  show Rn w mX11_run (d + 1) G Q 7 [(0, vr 0), (1, vi x1), (2, vi x2), (3, vi x3)] [vi x22] (B0, n21)
  obtain ⟨V1, V2⟩ := V
  refine r_zeq (tgt := 21) dX11_run_7 (by decide) (fun c23 => ?_) (fun c23 => ?_)
  · have V := V1 c23
    refine r_aload_n dX11_run_21 rfl rfl ?_
    refine r_iconst (x := -1) dX11_run_22 rfl (by decide) ?_
    refine r_callV (args := [vi (-1)]) dX11_run_23 kX11_84 ob_0 ⟨_, _, rfl⟩ (by decide) rfl rfl (Nat.le_of_ble_eq_true rfl) cap0 (Ev.mono V ?_)
    rintro r h' ⟨x25, n24, rfl, rfl, V⟩
    show Rn w mX11_run (d + 1) G Q 26 [(0, vr 0), (1, vi x1), (2, vi x2), (3, vi x3)] [vi x25] (B0, n24)
    exact r_iret dX11_run_26 rfl V
  · have V := V2 c23
    refine r_iload_n dX11_run_10 rfl rfl ?_
    refine r_iconst (x := 0) dX11_run_11 rfl (by decide) ?_
    refine r_ldcw (x := 1000000) dX11_run_12 qX11_265 (by decide) ?_
    refine r_callS (args := [vi x3, vi 0, vi 1000000]) dX11_run_15 kX11_80 rfl rfl (Nat.le_of_ble_eq_true rfl) cap0 (Ev.mono V ?_)
    rintro r h' ⟨x27, n26, rfl, rfl, V⟩
    show Rn w mX11_run (d + 1) G Q 18 [(0, vr 0), (1, vi x1), (2, vi x2), (3, vi x3)] [vi x27] (B0, n26)
    obtain ⟨V1, V2⟩ := V
    refine r_zne (tgt := 27) dX11_run_18 (by decide) (fun c28 => ?_) (fun c28 => ?_)
    · have V := V1 c28
      refine r_aload_n dX11_run_27 rfl rfl ?_
      refine r_getR (b := 1) dX11_run_28 fX11_10 ob_0 (by decide) rfl rfl ?_
      refine r_getR (b := 21) dX11_run_31 fX11_207 ob_1 (by decide) rfl rfl ?_
      refine r_iload_n dX11_run_34 rfl rfl ?_
      refine r_callV (args := [vi x1]) dX11_run_35 kX11_117 ob_21 ⟨_, _, rfl⟩ (by decide) rfl rfl (Nat.le_of_ble_eq_true rfl) cap0 (Ev.mono V ?_)
      rintro r h' ⟨x30, n29, rfl, rfl, V⟩
      show Rn w mX11_run (d + 1) G Q 38 [(0, vr 0), (1, vi x1), (2, vi x2), (3, vi x3)] [vi x30] (B0, n29)
      obtain ⟨V1, V2⟩ := V
      refine r_zne (tgt := 48) dX11_run_38 (by decide) (fun c31 => ?_) (fun c31 => ?_)
      · have V := V1 c31
        refine r_aload_n dX11_run_48 rfl rfl ?_
        refine r_aload_n dX11_run_49 rfl rfl ?_
        refine r_getR (b := 77) dX11_run_50 fX11_62 ob_0 (by decide) rfl rfl ?_
        refine r_aload_n dX11_run_53 rfl rfl ?_
        refine r_getR (b := 1) dX11_run_54 fX11_10 ob_0 (by decide) rfl rfl ?_
        refine r_iload_n dX11_run_57 rfl rfl ?_
        refine r_iload_n dX11_run_58 rfl rfl ?_
        refine r_iload_n dX11_run_59 rfl rfl ?_
        refine r_callV (args := [vr 1, vi x1, vi x2, vi x3]) dX11_run_60 kX11_266 ob_77 ⟨_, _, rfl⟩ (by decide) rfl rfl (Nat.le_of_ble_eq_true rfl) cap0 (Ev.mono V ?_)
        rintro r h' ⟨x33, n32, rfl, rfl, V⟩
        show Rn w mX11_run (d + 1) G Q 63 [(0, vr 0), (1, vi x1), (2, vi x2), (3, vi x3)] [vi x33, vr 0] (B0, n32)
        refine r_callV (args := [vi x33]) dX11_run_63 kX11_98 ob_0 ⟨_, _, rfl⟩ (by decide) rfl rfl (Nat.le_of_ble_eq_true rfl) cap0 (Ev.mono V ?_)
        rintro r h' ⟨x35, n34, rfl, rfl, V⟩
        show Rn w mX11_run (d + 1) G Q 66 [(0, vr 0), (1, vi x1), (2, vi x2), (3, vi x3)] [vi x35] (B0, n34)
        exact r_iret dX11_run_66 rfl V
      · have V := V2 c31
        refine r_aload_n dX11_run_41 rfl rfl ?_
        refine r_bipush (x := -2) dX11_run_42 (by decide +kernel) (by decide) ?_
        refine r_callV (args := [vi (-2)]) dX11_run_44 kX11_84 ob_0 ⟨_, _, rfl⟩ (by decide) rfl rfl (Nat.le_of_ble_eq_true rfl) cap0 (Ev.mono V ?_)
        rintro r h' ⟨x37, n36, rfl, rfl, V⟩
        show Rn w mX11_run (d + 1) G Q 47 [(0, vr 0), (1, vi x1), (2, vi x2), (3, vi x3)] [vi x37] (B0, n36)
        exact r_iret dX11_run_47 rfl V
    · have V := V2 c28
      refine r_aload_n dX11_run_21 rfl rfl ?_
      refine r_iconst (x := -1) dX11_run_22 rfl (by decide) ?_
      refine r_callV (args := [vi (-1)]) dX11_run_23 kX11_84 ob_0 ⟨_, _, rfl⟩ (by decide) rfl rfl (Nat.le_of_ble_eq_true rfl) cap0 (Ev.mono V ?_)
      rintro r h' ⟨x39, n38, rfl, rfl, V⟩
      show Rn w mX11_run (d + 1) G Q 26 [(0, vr 0), (1, vi x1), (2, vi x2), (3, vi x3)] [vi x39] (B0, n38)
      exact r_iret dX11_run_26 rfl V

theorem gX11_world_0 {w : WD} {d : Nat} {G : GM} {Q : Option AV → Hp → Prop} {n : NM} {x1 x2 : Int}
    (V :
    (Ev w d 0 0 mX11_within [vi x1, vi 0, vi 2] (B0, n) (fun r h' => ∃ (x22 : Int) (n21 : NM), r = some (vi x22) ∧ h' = (B0, n21) ∧ 
      ((x22 ≠ 0 →
        ((x2 ≠ (-1) →
          (Ev w d 0 0 mX10_seenBy [vr 77, vi x2, vi x1] (B0, n21) (fun r h' => ∃ (x26 : Int) (n25 : NM), r = some (vi x26) ∧ h' = (B0, n25) ∧ 
            Q (some (vi x26)) (B0, n25)))) ∧
        (x2 = (-1) →
          (Ev w d 0 0 mX10_seenByAll [vr 77, vi x1] (B0, n21) (fun r h' => ∃ (x28 : Int) (n27 : NM), r = some (vi x28) ∧ h' = (B0, n27) ∧ 
            Q (some (vi x28)) (B0, n27)))))) ∧
      (x22 = 0 →
        Q (some (vi (-1))) (B0, n21)))))) :
    Rn w mX11_world (d + 1) G Q 0 [(0, vr 0), (1, vi x1), (2, vi x2)] [] (B0, n) := by
  refine r_iload_n dX11_world_0 rfl rfl ?_
  refine r_iconst (x := 0) dX11_world_1 rfl (by decide) ?_
  refine r_iconst (x := 2) dX11_world_2 rfl (by decide) ?_
  refine r_callS (args := [vi x1, vi 0, vi 2]) dX11_world_3 kX11_80 rfl rfl (Nat.le_of_ble_eq_true rfl) cap0 (Ev.mono V ?_)
  rintro r h' ⟨x22, n21, rfl, rfl, V⟩
  show Rn w mX11_world (d + 1) G Q 6 [(0, vr 0), (1, vi x1), (2, vi x2)] [vi x22] (B0, n21)
  obtain ⟨V1, V2⟩ := V
  refine r_zne (tgt := 11) dX11_world_6 (by decide) (fun c23 => ?_) (fun c23 => ?_)
  · have V := V1 c23
    refine r_iload_n dX11_world_11 rfl rfl ?_
    refine r_iconst (x := -1) dX11_world_12 rfl (by decide) ?_
    obtain ⟨V1, V2⟩ := V
    refine r_jne (tgt := 27) dX11_world_13 (by decide) (fun c24 => ?_) (fun c24 => ?_)
    · have V := V1 c24
      refine r_aload_n dX11_world_27 rfl rfl ?_
      refine r_getR (b := 77) dX11_world_28 fX11_62 ob_0 (by decide) rfl rfl ?_
      refine r_iload_n dX11_world_31 rfl rfl ?_
      refine r_iload_n dX11_world_32 rfl rfl ?_
      refine r_callV (args := [vi x2, vi x1]) dX11_world_33 kX11_273 ob_77 ⟨_, _, rfl⟩ (by decide) rfl rfl (Nat.le_of_ble_eq_true rfl) cap0 (Ev.mono V ?_)
      rintro r h' ⟨x26, n25, rfl, rfl, V⟩
      show Rn w mX11_world (d + 1) G Q 36 [(0, vr 0), (1, vi x1), (2, vi x2)] [vi x26] (B0, n25)
      exact r_iret dX11_world_36 rfl V
    · have V := V2 c24
      refine r_aload_n dX11_world_16 rfl rfl ?_
      refine r_getR (b := 77) dX11_world_17 fX11_62 ob_0 (by decide) rfl rfl ?_
      refine r_iload_n dX11_world_20 rfl rfl ?_
      refine r_callV (args := [vi x1]) dX11_world_21 kX11_270 ob_77 ⟨_, _, rfl⟩ (by decide) rfl rfl (Nat.le_of_ble_eq_true rfl) cap0 (Ev.mono V ?_)
      rintro r h' ⟨x28, n27, rfl, rfl, V⟩
      show Rn w mX11_world (d + 1) G Q 24 [(0, vr 0), (1, vi x1), (2, vi x2)] [vi x28] (B0, n27)
      refine r_goto (tgt := 36) dX11_world_24 (by decide) ?_
      exact r_iret dX11_world_36 rfl V
  · have V := V2 c23
    refine r_iconst (x := -1) dX11_world_9 rfl (by decide) ?_
    exact r_iret dX11_world_10 rfl V

theorem gX11_image_0 {w : WD} {d : Nat} {G : GM} {Q : Option AV → Hp → Prop} {n : NM} {x1 : Int}
    (V :
    (Ev w d 0 0 mX11_within [vi x1, vi 0, vi 1] (B0, n) (fun r h' => ∃ (x22 : Int) (n21 : NM), r = some (vi x22) ∧ h' = (B0, n21) ∧ 
      ((x22 ≠ 0 →
        (0 ≤ x1) ∧
        (x1 < 2) ∧
        (Ev w d 0 0 mX1_copyFrom [vr (imgA x1), vr 1] (B0, n21) (fun r h' => ∃ n26 : NM, r = none ∧ h' = (B0, n26) ∧ 
          (0 ≤ x1) ∧
          (x1 < 2) ∧
          (Ev w d 0 0 mX11_accept [vr 0, vi 0] (B0, upn n26 34 x1 1) (fun r h' => ∃ (x30 : Int) (n29 : NM), r = some (vi x30) ∧ h' = (B0, n29) ∧ 
            Q (some (vi x30)) (B0, n29)))))) ∧
      (x22 = 0 →
        (Ev w d 0 0 mX11_refuse [vr 0, vi (-1)] (B0, n21) (fun r h' => ∃ (x32 : Int) (n31 : NM), r = some (vi x32) ∧ h' = (B0, n31) ∧ 
          Q (some (vi x32)) (B0, n31)))))))) :
    Rn w mX11_image (d + 1) G Q 0 [(0, vr 0), (1, vi x1)] [] (B0, n) := by
  refine r_iload_n dX11_image_0 rfl rfl ?_
  refine r_iconst (x := 0) dX11_image_1 rfl (by decide) ?_
  refine r_iconst (x := 1) dX11_image_2 rfl (by decide) ?_
  refine r_callS (args := [vi x1, vi 0, vi 1]) dX11_image_3 kX11_80 rfl rfl (Nat.le_of_ble_eq_true rfl) cap0 (Ev.mono V ?_)
  rintro r h' ⟨x22, n21, rfl, rfl, V⟩
  show Rn w mX11_image (d + 1) G Q 6 [(0, vr 0), (1, vi x1)] [vi x22] (B0, n21)
  obtain ⟨V1, V2⟩ := V
  refine r_zne (tgt := 15) dX11_image_6 (by decide) (fun c23 => ?_) (fun c23 => ?_)
  · have V := V1 c23
    refine r_aload_n dX11_image_15 rfl rfl ?_
    refine r_getR (b := 33) dX11_image_16 fX11_16 ob_0 (by decide) rfl rfl ?_
    refine r_iload_n dX11_image_19 rfl rfl ?_
    obtain ⟨s24, V⟩ := V
    obtain ⟨s25, V⟩ := V
    refine r_aald (c := 0) (Cn := "LakeWatch$Lake") (b := imgA x1) dX11_image_20 ob_33 rfl s24 s25 (rf_img s24 s25) ?_
    refine r_aload_n dX11_image_21 rfl rfl ?_
    refine r_getR (b := 1) dX11_image_22 fX11_10 ob_0 (by decide) rfl rfl ?_
    refine r_callV (args := [vr 1]) dX11_image_25 kX11_276 (ob_imgA s24 s25) ⟨_, _, rfl⟩ (by decide) rfl rfl (Nat.le_of_ble_eq_true rfl) cap0 (Ev.mono V ?_)
    rintro r h' ⟨n26, rfl, rfl, V⟩
    show Rn w mX11_image (d + 1) G Q 28 [(0, vr 0), (1, vi x1)] [] (B0, n26)
    refine r_aload_n dX11_image_28 rfl rfl ?_
    refine r_getR (b := 34) dX11_image_29 fX11_20 ob_0 (by decide) rfl rfl ?_
    refine r_iload_n dX11_image_32 rfl rfl ?_
    refine r_iconst (x := 1) dX11_image_33 rfl (by decide) ?_
    obtain ⟨s27, V⟩ := V
    obtain ⟨s28, V⟩ := V
    refine r_zast (h' := (B0, upn n26 34 x1 1)) dX11_image_34 ob_34 s27 s28 (by decide) rfl ?_
    refine r_aload_n dX11_image_35 rfl rfl ?_
    refine r_iconst (x := 0) dX11_image_36 rfl (by decide) ?_
    refine r_callV (args := [vi 0]) dX11_image_37 kX11_98 ob_0 ⟨_, _, rfl⟩ (by decide) rfl rfl (Nat.le_of_ble_eq_true rfl) cap0 (Ev.mono V ?_)
    rintro r h' ⟨x30, n29, rfl, rfl, V⟩
    show Rn w mX11_image (d + 1) G Q 40 [(0, vr 0), (1, vi x1)] [vi x30] (B0, n29)
    exact r_iret dX11_image_40 rfl V
  · have V := V2 c23
    refine r_aload_n dX11_image_9 rfl rfl ?_
    refine r_iconst (x := -1) dX11_image_10 rfl (by decide) ?_
    refine r_callV (args := [vi (-1)]) dX11_image_11 kX11_84 ob_0 ⟨_, _, rfl⟩ (by decide) rfl rfl (Nat.le_of_ble_eq_true rfl) cap0 (Ev.mono V ?_)
    rintro r h' ⟨x32, n31, rfl, rfl, V⟩
    show Rn w mX11_image (d + 1) G Q 14 [(0, vr 0), (1, vi x1)] [vi x32] (B0, n31)
    exact r_iret dX11_image_14 rfl V

theorem gX11_back_0 {w : WD} {d : Nat} {G : GM} {Q : Option AV → Hp → Prop} {n : NM} {x1 : Int}
    (V :
    (Ev w d 0 0 mX11_within [vi x1, vi 0, vi 1] (B0, n) (fun r h' => ∃ (x22 : Int) (n21 : NM), r = some (vi x22) ∧ h' = (B0, n21) ∧ 
      ((x22 ≠ 0 →
        (0 ≤ x1) ∧
        (x1 < 2) ∧
        ((n21 34 x1 ≠ 0 →
          (0 ≤ x1) ∧
          (x1 < 2) ∧
          (Ev w d 0 0 mX1_copyFrom [vr 1, vr (imgA x1)] (B0, n21) (fun r h' => ∃ n29 : NM, r = none ∧ h' = (B0, n29) ∧ 
            (Ev w d 0 0 mX11_accept [vr 0, vi 0] (B0, n29) (fun r h' => ∃ (x31 : Int) (n30 : NM), r = some (vi x31) ∧ h' = (B0, n30) ∧ 
              Q (some (vi x31)) (B0, n30)))))) ∧
        (n21 34 x1 = 0 →
          (Ev w d 0 0 mX11_refuse [vr 0, vi (-2)] (B0, n21) (fun r h' => ∃ (x33 : Int) (n32 : NM), r = some (vi x33) ∧ h' = (B0, n32) ∧ 
            Q (some (vi x33)) (B0, n32)))))) ∧
      (x22 = 0 →
        (Ev w d 0 0 mX11_refuse [vr 0, vi (-1)] (B0, n21) (fun r h' => ∃ (x35 : Int) (n34 : NM), r = some (vi x35) ∧ h' = (B0, n34) ∧ 
          Q (some (vi x35)) (B0, n34)))))))) :
    Rn w mX11_back (d + 1) G Q 0 [(0, vr 0), (1, vi x1)] [] (B0, n) := by
  refine r_iload_n dX11_back_0 rfl rfl ?_
  refine r_iconst (x := 0) dX11_back_1 rfl (by decide) ?_
  refine r_iconst (x := 1) dX11_back_2 rfl (by decide) ?_
  refine r_callS (args := [vi x1, vi 0, vi 1]) dX11_back_3 kX11_80 rfl rfl (Nat.le_of_ble_eq_true rfl) cap0 (Ev.mono V ?_)
  rintro r h' ⟨x22, n21, rfl, rfl, V⟩
  show Rn w mX11_back (d + 1) G Q 6 [(0, vr 0), (1, vi x1)] [vi x22] (B0, n21)
  obtain ⟨V1, V2⟩ := V
  refine r_zne (tgt := 15) dX11_back_6 (by decide) (fun c23 => ?_) (fun c23 => ?_)
  · have V := V1 c23
    refine r_aload_n dX11_back_15 rfl rfl ?_
    refine r_getR (b := 34) dX11_back_16 fX11_20 ob_0 (by decide) rfl rfl ?_
    refine r_iload_n dX11_back_19 rfl rfl ?_
    obtain ⟨s24, V⟩ := V
    obtain ⟨s25, V⟩ := V
    refine r_zald dX11_back_20 ob_34 s24 s25 (fun _ => ?_)
    obtain ⟨V1, V2⟩ := V
    refine r_zne (tgt := 31) dX11_back_21 (by decide) (fun c26 => ?_) (fun c26 => ?_)
    · have V := V1 c26
      refine r_aload_n dX11_back_31 rfl rfl ?_
      refine r_getR (b := 1) dX11_back_32 fX11_10 ob_0 (by decide) rfl rfl ?_
      refine r_aload_n dX11_back_35 rfl rfl ?_
      refine r_getR (b := 33) dX11_back_36 fX11_16 ob_0 (by decide) rfl rfl ?_
      refine r_iload_n dX11_back_39 rfl rfl ?_
      obtain ⟨s27, V⟩ := V
      obtain ⟨s28, V⟩ := V
      refine r_aald (c := 0) (Cn := "LakeWatch$Lake") (b := imgA x1) dX11_back_40 ob_33 rfl s27 s28 (rf_img s27 s28) ?_
      refine r_callV (args := [vr (imgA x1)]) dX11_back_41 kX11_276 ob_1 ⟨_, _, rfl⟩ (by decide) rfl rfl (Nat.le_of_ble_eq_true rfl) cap0 (Ev.mono V ?_)
      rintro r h' ⟨n29, rfl, rfl, V⟩
      show Rn w mX11_back (d + 1) G Q 44 [(0, vr 0), (1, vi x1)] [] (B0, n29)
      refine r_aload_n dX11_back_44 rfl rfl ?_
      refine r_iconst (x := 0) dX11_back_45 rfl (by decide) ?_
      refine r_callV (args := [vi 0]) dX11_back_46 kX11_98 ob_0 ⟨_, _, rfl⟩ (by decide) rfl rfl (Nat.le_of_ble_eq_true rfl) cap0 (Ev.mono V ?_)
      rintro r h' ⟨x31, n30, rfl, rfl, V⟩
      show Rn w mX11_back (d + 1) G Q 49 [(0, vr 0), (1, vi x1)] [vi x31] (B0, n30)
      exact r_iret dX11_back_49 rfl V
    · have V := V2 c26
      refine r_aload_n dX11_back_24 rfl rfl ?_
      refine r_bipush (x := -2) dX11_back_25 (by decide +kernel) (by decide) ?_
      refine r_callV (args := [vi (-2)]) dX11_back_27 kX11_84 ob_0 ⟨_, _, rfl⟩ (by decide) rfl rfl (Nat.le_of_ble_eq_true rfl) cap0 (Ev.mono V ?_)
      rintro r h' ⟨x33, n32, rfl, rfl, V⟩
      show Rn w mX11_back (d + 1) G Q 30 [(0, vr 0), (1, vi x1)] [vi x33] (B0, n32)
      exact r_iret dX11_back_30 rfl V
  · have V := V2 c23
    refine r_aload_n dX11_back_9 rfl rfl ?_
    refine r_iconst (x := -1) dX11_back_10 rfl (by decide) ?_
    refine r_callV (args := [vi (-1)]) dX11_back_11 kX11_84 ob_0 ⟨_, _, rfl⟩ (by decide) rfl rfl (Nat.le_of_ble_eq_true rfl) cap0 (Ev.mono V ?_)
    rintro r h' ⟨x35, n34, rfl, rfl, V⟩
    show Rn w mX11_back (d + 1) G Q 14 [(0, vr 0), (1, vi x1)] [vi x35] (B0, n34)
    exact r_iret dX11_back_14 rfl V

theorem gX11_count_0 {w : WD} {d : Nat} {G : GM} {Q : Option AV → Hp → Prop} {n : NM} {x1 : Int}
    (V :
    (x1 = 0 →
      (Ev w d 0 0 mX7_size [vr 4] (B0, n) (fun r h' => ∃ (x22 : Int) (n21 : NM), r = some (vi x22) ∧ h' = (B0, n21) ∧ 
        Q (some (vi x22)) (B0, n21)))) ∧
    (x1 = 1 →
      (Ev w d 0 0 mX7_size [vr 6] (B0, n) (fun r h' => ∃ (x24 : Int) (n23 : NM), r = some (vi x24) ∧ h' = (B0, n23) ∧ 
        Q (some (vi x24)) (B0, n23)))) ∧
    (x1 = 2 →
      (Ev w d 0 0 mX7_size [vr 8] (B0, n) (fun r h' => ∃ (x26 : Int) (n25 : NM), r = some (vi x26) ∧ h' = (B0, n25) ∧ 
        Q (some (vi x26)) (B0, n25)))) ∧
    (x1 = 3 →
      (Ev w d 0 0 mX7_size [vr 10] (B0, n) (fun r h' => ∃ (x28 : Int) (n27 : NM), r = some (vi x28) ∧ h' = (B0, n27) ∧ 
        Q (some (vi x28)) (B0, n27)))) ∧
    (x1 = 4 →
      (Ev w d 0 0 mX7_size [vr 12] (B0, n) (fun r h' => ∃ (x30 : Int) (n29 : NM), r = some (vi x30) ∧ h' = (B0, n29) ∧ 
        Q (some (vi x30)) (B0, n29)))) ∧
    (x1 = 5 →
      (Ev w d 0 0 mX7_size [vr 14] (B0, n) (fun r h' => ∃ (x32 : Int) (n31 : NM), r = some (vi x32) ∧ h' = (B0, n31) ∧ 
        Q (some (vi x32)) (B0, n31)))) ∧
    (x1 = 6 →
      (Ev w d 0 0 mX2_size [vr 16] (B0, n) (fun r h' => ∃ (x34 : Int) (n33 : NM), r = some (vi x34) ∧ h' = (B0, n33) ∧ 
        Q (some (vi x34)) (B0, n33)))) ∧
    (x1 = 7 →
      (Ev w d 0 0 mX7_size [vr 21] (B0, n) (fun r h' => ∃ (x36 : Int) (n35 : NM), r = some (vi x36) ∧ h' = (B0, n35) ∧ 
        Q (some (vi x36)) (B0, n35)))) ∧
    (x1 = 8 →
      (Ev w d 0 0 mX7_size [vr 23] (B0, n) (fun r h' => ∃ (x38 : Int) (n37 : NM), r = some (vi x38) ∧ h' = (B0, n37) ∧ 
        Q (some (vi x38)) (B0, n37)))) ∧
    (x1 = 9 →
      (Ev w d 0 0 mX7_size [vr 25] (B0, n) (fun r h' => ∃ (x40 : Int) (n39 : NM), r = some (vi x40) ∧ h' = (B0, n39) ∧ 
        Q (some (vi x40)) (B0, n39)))) ∧
    (x1 = 10 →
      (Ev w d 0 0 mX8_size [vr 35] (B0, n) (fun r h' => ∃ (x42 : Int) (n41 : NM), r = some (vi x42) ∧ h' = (B0, n41) ∧ 
        Q (some (vi x42)) (B0, n41)))) ∧
    (x1 = 11 →
      Q (some (vi (n 80 0))) (B0, n)) ∧
    (x1 = 12 →
      Q (some (vi (n 80 1))) (B0, n)) ∧
    (x1 = 13 →
      Q (some (vi (n 80 2))) (B0, n)) ∧
    (x1 = 14 →
      Q (some (vi (n 80 3))) (B0, n)) ∧
    (¬ x1 = 0 → ¬ x1 = 1 → ¬ x1 = 2 → ¬ x1 = 3 → ¬ x1 = 4 → ¬ x1 = 5 → ¬ x1 = 6 → ¬ x1 = 7 → ¬ x1 = 8 → ¬ x1 = 9 → ¬ x1 = 10 → ¬ x1 = 11 → ¬ x1 = 12 → ¬ x1 = 13 → ¬ x1 = 14 →
      Q (some (vi (-1))) (B0, n))) :
    Rn w mX11_count (d + 1) G Q 0 [(0, vr 0), (1, vi x1)] [] (B0, n) := by
  refine r_iload_n dX11_count_0 rfl rfl ?_
  obtain ⟨V0, V1, V2, V3, V4, V5, V6, V7, V8, V9, V10, V11, V12, V13, V14, VD⟩ := V
  by_cases c0 : x1 = 0
  · have V := V0 c0
    refine r_tableIn (k := 0) (tgt := 76) dX11_count_1 c0 (by decide) (by decide) rfl (by decide) ?_
    refine r_aload_n dX11_count_76 rfl rfl ?_
    refine r_getR (b := 1) dX11_count_77 fX11_10 ob_0 (by decide) rfl rfl ?_
    refine r_getR (b := 4) dX11_count_80 fX11_101 ob_1 (by decide) rfl rfl ?_
    refine r_callV (args := []) dX11_count_83 kX11_200 ob_4 ⟨_, _, rfl⟩ (by decide) rfl rfl (Nat.le_of_ble_eq_true rfl) cap0 (Ev.mono V ?_)
    rintro r h' ⟨x22, n21, rfl, rfl, V⟩
    show Rn w mX11_count (d + 1) G Q 86 [(0, vr 0), (1, vi x1)] [vi x22] (B0, n21)
    exact r_iret dX11_count_86 rfl V
  by_cases c1 : x1 = 1
  · have V := V1 c1
    refine r_tableIn (k := 1) (tgt := 87) dX11_count_1 c1 (by decide) (by decide) rfl (by decide) ?_
    refine r_aload_n dX11_count_87 rfl rfl ?_
    refine r_getR (b := 1) dX11_count_88 fX11_10 ob_0 (by decide) rfl rfl ?_
    refine r_getR (b := 6) dX11_count_91 fX11_108 ob_1 (by decide) rfl rfl ?_
    refine r_callV (args := []) dX11_count_94 kX11_200 ob_6 ⟨_, _, rfl⟩ (by decide) rfl rfl (Nat.le_of_ble_eq_true rfl) cap0 (Ev.mono V ?_)
    rintro r h' ⟨x24, n23, rfl, rfl, V⟩
    show Rn w mX11_count (d + 1) G Q 97 [(0, vr 0), (1, vi x1)] [vi x24] (B0, n23)
    exact r_iret dX11_count_97 rfl V
  by_cases c2 : x1 = 2
  · have V := V2 c2
    refine r_tableIn (k := 2) (tgt := 98) dX11_count_1 c2 (by decide) (by decide) rfl (by decide) ?_
    refine r_aload_n dX11_count_98 rfl rfl ?_
    refine r_getR (b := 1) dX11_count_99 fX11_10 ob_0 (by decide) rfl rfl ?_
    refine r_getR (b := 8) dX11_count_102 fX11_111 ob_1 (by decide) rfl rfl ?_
    refine r_callV (args := []) dX11_count_105 kX11_200 ob_8 ⟨_, _, rfl⟩ (by decide) rfl rfl (Nat.le_of_ble_eq_true rfl) cap0 (Ev.mono V ?_)
    rintro r h' ⟨x26, n25, rfl, rfl, V⟩
    show Rn w mX11_count (d + 1) G Q 108 [(0, vr 0), (1, vi x1)] [vi x26] (B0, n25)
    exact r_iret dX11_count_108 rfl V
  by_cases c3 : x1 = 3
  · have V := V3 c3
    refine r_tableIn (k := 3) (tgt := 109) dX11_count_1 c3 (by decide) (by decide) rfl (by decide) ?_
    refine r_aload_n dX11_count_109 rfl rfl ?_
    refine r_getR (b := 1) dX11_count_110 fX11_10 ob_0 (by decide) rfl rfl ?_
    refine r_getR (b := 10) dX11_count_113 fX11_114 ob_1 (by decide) rfl rfl ?_
    refine r_callV (args := []) dX11_count_116 kX11_200 ob_10 ⟨_, _, rfl⟩ (by decide) rfl rfl (Nat.le_of_ble_eq_true rfl) cap0 (Ev.mono V ?_)
    rintro r h' ⟨x28, n27, rfl, rfl, V⟩
    show Rn w mX11_count (d + 1) G Q 119 [(0, vr 0), (1, vi x1)] [vi x28] (B0, n27)
    exact r_iret dX11_count_119 rfl V
  by_cases c4 : x1 = 4
  · have V := V4 c4
    refine r_tableIn (k := 4) (tgt := 120) dX11_count_1 c4 (by decide) (by decide) rfl (by decide) ?_
    refine r_aload_n dX11_count_120 rfl rfl ?_
    refine r_getR (b := 1) dX11_count_121 fX11_10 ob_0 (by decide) rfl rfl ?_
    refine r_getR (b := 12) dX11_count_124 fX11_121 ob_1 (by decide) rfl rfl ?_
    refine r_callV (args := []) dX11_count_127 kX11_200 ob_12 ⟨_, _, rfl⟩ (by decide) rfl rfl (Nat.le_of_ble_eq_true rfl) cap0 (Ev.mono V ?_)
    rintro r h' ⟨x30, n29, rfl, rfl, V⟩
    show Rn w mX11_count (d + 1) G Q 130 [(0, vr 0), (1, vi x1)] [vi x30] (B0, n29)
    exact r_iret dX11_count_130 rfl V
  by_cases c5 : x1 = 5
  · have V := V5 c5
    refine r_tableIn (k := 5) (tgt := 131) dX11_count_1 c5 (by decide) (by decide) rfl (by decide) ?_
    refine r_aload_n dX11_count_131 rfl rfl ?_
    refine r_getR (b := 1) dX11_count_132 fX11_10 ob_0 (by decide) rfl rfl ?_
    refine r_getR (b := 14) dX11_count_135 fX11_171 ob_1 (by decide) rfl rfl ?_
    refine r_callV (args := []) dX11_count_138 kX11_200 ob_14 ⟨_, _, rfl⟩ (by decide) rfl rfl (Nat.le_of_ble_eq_true rfl) cap0 (Ev.mono V ?_)
    rintro r h' ⟨x32, n31, rfl, rfl, V⟩
    show Rn w mX11_count (d + 1) G Q 141 [(0, vr 0), (1, vi x1)] [vi x32] (B0, n31)
    exact r_iret dX11_count_141 rfl V
  by_cases c6 : x1 = 6
  · have V := V6 c6
    refine r_tableIn (k := 6) (tgt := 142) dX11_count_1 c6 (by decide) (by decide) rfl (by decide) ?_
    refine r_aload_n dX11_count_142 rfl rfl ?_
    refine r_getR (b := 1) dX11_count_143 fX11_10 ob_0 (by decide) rfl rfl ?_
    refine r_getR (b := 16) dX11_count_146 fX11_156 ob_1 (by decide) rfl rfl ?_
    refine r_callV (args := []) dX11_count_149 kX11_170 ob_16 ⟨_, _, rfl⟩ (by decide) rfl rfl (Nat.le_of_ble_eq_true rfl) cap0 (Ev.mono V ?_)
    rintro r h' ⟨x34, n33, rfl, rfl, V⟩
    show Rn w mX11_count (d + 1) G Q 152 [(0, vr 0), (1, vi x1)] [vi x34] (B0, n33)
    exact r_iret dX11_count_152 rfl V
  by_cases c7 : x1 = 7
  · have V := V7 c7
    refine r_tableIn (k := 7) (tgt := 153) dX11_count_1 c7 (by decide) (by decide) rfl (by decide) ?_
    refine r_aload_n dX11_count_153 rfl rfl ?_
    refine r_getR (b := 1) dX11_count_154 fX11_10 ob_0 (by decide) rfl rfl ?_
    refine r_getR (b := 21) dX11_count_157 fX11_207 ob_1 (by decide) rfl rfl ?_
    refine r_callV (args := []) dX11_count_160 kX11_200 ob_21 ⟨_, _, rfl⟩ (by decide) rfl rfl (Nat.le_of_ble_eq_true rfl) cap0 (Ev.mono V ?_)
    rintro r h' ⟨x36, n35, rfl, rfl, V⟩
    show Rn w mX11_count (d + 1) G Q 163 [(0, vr 0), (1, vi x1)] [vi x36] (B0, n35)
    exact r_iret dX11_count_163 rfl V
  by_cases c8 : x1 = 8
  · have V := V8 c8
    refine r_tableIn (k := 8) (tgt := 164) dX11_count_1 c8 (by decide) (by decide) rfl (by decide) ?_
    refine r_aload_n dX11_count_164 rfl rfl ?_
    refine r_getR (b := 1) dX11_count_165 fX11_10 ob_0 (by decide) rfl rfl ?_
    refine r_getR (b := 23) dX11_count_168 fX11_213 ob_1 (by decide) rfl rfl ?_
    refine r_callV (args := []) dX11_count_171 kX11_200 ob_23 ⟨_, _, rfl⟩ (by decide) rfl rfl (Nat.le_of_ble_eq_true rfl) cap0 (Ev.mono V ?_)
    rintro r h' ⟨x38, n37, rfl, rfl, V⟩
    show Rn w mX11_count (d + 1) G Q 174 [(0, vr 0), (1, vi x1)] [vi x38] (B0, n37)
    exact r_iret dX11_count_174 rfl V
  by_cases c9 : x1 = 9
  · have V := V9 c9
    refine r_tableIn (k := 9) (tgt := 175) dX11_count_1 c9 (by decide) (by decide) rfl (by decide) ?_
    refine r_aload_n dX11_count_175 rfl rfl ?_
    refine r_getR (b := 1) dX11_count_176 fX11_10 ob_0 (by decide) rfl rfl ?_
    refine r_getR (b := 25) dX11_count_179 fX11_236 ob_1 (by decide) rfl rfl ?_
    refine r_callV (args := []) dX11_count_182 kX11_200 ob_25 ⟨_, _, rfl⟩ (by decide) rfl rfl (Nat.le_of_ble_eq_true rfl) cap0 (Ev.mono V ?_)
    rintro r h' ⟨x40, n39, rfl, rfl, V⟩
    show Rn w mX11_count (d + 1) G Q 185 [(0, vr 0), (1, vi x1)] [vi x40] (B0, n39)
    exact r_iret dX11_count_185 rfl V
  by_cases c10 : x1 = 10
  · have V := V10 c10
    refine r_tableIn (k := 10) (tgt := 186) dX11_count_1 c10 (by decide) (by decide) rfl (by decide) ?_
    refine r_aload_n dX11_count_186 rfl rfl ?_
    refine r_getR (b := 35) dX11_count_187 fX11_27 ob_0 (by decide) rfl rfl ?_
    refine r_callV (args := []) dX11_count_190 kX11_139 ob_35 ⟨_, _, rfl⟩ (by decide) rfl rfl (Nat.le_of_ble_eq_true rfl) cap0 (Ev.mono V ?_)
    rintro r h' ⟨x42, n41, rfl, rfl, V⟩
    show Rn w mX11_count (d + 1) G Q 193 [(0, vr 0), (1, vi x1)] [vi x42] (B0, n41)
    exact r_iret dX11_count_193 rfl V
  by_cases c11 : x1 = 11
  · have V := V11 c11
    refine r_tableIn (k := 11) (tgt := 194) dX11_count_1 c11 (by decide) (by decide) rfl (by decide) ?_
    refine r_aload_n dX11_count_194 rfl rfl ?_
    refine r_getR (b := 80) dX11_count_195 fX11_66 ob_0 (by decide) rfl rfl ?_
    refine r_iconst (x := 0) dX11_count_198 rfl (by decide) ?_
    refine r_iald dX11_count_199 ob_80 (by decide) (by decide) ?_
    exact r_iret dX11_count_200 rfl V
  by_cases c12 : x1 = 12
  · have V := V12 c12
    refine r_tableIn (k := 12) (tgt := 201) dX11_count_1 c12 (by decide) (by decide) rfl (by decide) ?_
    refine r_aload_n dX11_count_201 rfl rfl ?_
    refine r_getR (b := 80) dX11_count_202 fX11_66 ob_0 (by decide) rfl rfl ?_
    refine r_iconst (x := 1) dX11_count_205 rfl (by decide) ?_
    refine r_iald dX11_count_206 ob_80 (by decide) (by decide) ?_
    exact r_iret dX11_count_207 rfl V
  by_cases c13 : x1 = 13
  · have V := V13 c13
    refine r_tableIn (k := 13) (tgt := 208) dX11_count_1 c13 (by decide) (by decide) rfl (by decide) ?_
    refine r_aload_n dX11_count_208 rfl rfl ?_
    refine r_getR (b := 80) dX11_count_209 fX11_66 ob_0 (by decide) rfl rfl ?_
    refine r_iconst (x := 2) dX11_count_212 rfl (by decide) ?_
    refine r_iald dX11_count_213 ob_80 (by decide) (by decide) ?_
    exact r_iret dX11_count_214 rfl V
  by_cases c14 : x1 = 14
  · have V := V14 c14
    refine r_tableIn (k := 14) (tgt := 215) dX11_count_1 c14 (by decide) (by decide) rfl (by decide) ?_
    refine r_aload_n dX11_count_215 rfl rfl ?_
    refine r_getR (b := 80) dX11_count_216 fX11_66 ob_0 (by decide) rfl rfl ?_
    refine r_iconst (x := 3) dX11_count_219 rfl (by decide) ?_
    refine r_iald dX11_count_220 ob_80 (by decide) (by decide) ?_
    exact r_iret dX11_count_221 rfl V
  have V := VD c0 c1 c2 c3 c4 c5 c6 c7 c8 c9 c10 c11 c12 c13 c14
  refine r_tableOut (tgt := 222) dX11_count_1 (by omega) (by decide) ?_
  refine r_iconst (x := -1) dX11_count_222 rfl (by decide) ?_
  exact r_iret dX11_count_223 rfl V

theorem gX11_status_0 {w : WD} {d : Nat} {G : GM} {Q : Option AV → Hp → Prop} {n : NM}
    (V :
    Q (some (vi (n 0 10))) (B0, n)) :
    Rn w mX11_status d G Q 0 [(0, vr 0)] [] (B0, n) := by
  refine r_aload_n dX11_status_0 rfl rfl ?_
  refine r_getI (fi := 10) dX11_status_1 fX11_70 ob_0 (by decide) (by decide) rfl ?_
  exact r_iret dX11_status_4 rfl V

theorem gX11_within_0 {w : WD} {d : Nat} {G : GM} {Q : Option AV → Hp → Prop} {n : NM} {x0 x1 x2 : Int}
    (V :
    ((x0 < x1 →
      Q (some (vi 0)) (B0, n)) ∧
    (x1 ≤ x0 →
      ((x2 < x0 →
        Q (some (vi 0)) (B0, n)) ∧
      (x0 ≤ x2 →
        Q (some (vi 1)) (B0, n)))))) :
    Rn w mX11_within d G Q 0 [(0, vi x0), (1, vi x1), (2, vi x2)] [] (B0, n) := by
  refine r_iload_n dX11_within_0 rfl rfl ?_
  refine r_iload_n dX11_within_1 rfl rfl ?_
  obtain ⟨V1, V2⟩ := V
  refine r_jlt (tgt := 14) dX11_within_2 (by decide) (fun c21 => ?_) (fun c21 => ?_)
  · have V := V1 c21
    refine r_iconst (x := 0) dX11_within_14 rfl (by decide) ?_
    exact r_zret dX11_within_15 rfl (by decide) V
  · have V := V2 c21
    refine r_iload_n dX11_within_5 rfl rfl ?_
    refine r_iload_n dX11_within_6 rfl rfl ?_
    obtain ⟨V1, V2⟩ := V
    refine r_jgt (tgt := 14) dX11_within_7 (by decide) (fun c22 => ?_) (fun c22 => ?_)
    · have V := V1 c22
      refine r_iconst (x := 0) dX11_within_14 rfl (by decide) ?_
      exact r_zret dX11_within_15 rfl (by decide) V
    · have V := V2 c22
      refine r_iconst (x := 1) dX11_within_10 rfl (by decide) ?_
      refine r_goto (tgt := 15) dX11_within_11 (by decide) ?_
      exact r_zret dX11_within_15 rfl (by decide) V

theorem gX11_accept_0 {w : WD} {d : Nat} {G : GM} {Q : Option AV → Hp → Prop} {n : NM} {x1 : Int}
    (V :
    Q (some (vi x1)) (B0, upn n 0 10 0)) :
    Rn w mX11_accept d G Q 0 [(0, vr 0), (1, vi x1)] [] (B0, n) := by
  refine r_aload_n dX11_accept_0 rfl rfl ?_
  refine r_iconst (x := 0) dX11_accept_1 rfl (by decide) ?_
  refine r_putI (fi := 10) (h' := (B0, upn n 0 10 0)) dX11_accept_2 pX11_70 ob_0 (by decide) rfl rfl rfl ?_
  refine r_iload_n dX11_accept_5 rfl rfl ?_
  exact r_iret dX11_accept_6 rfl V

theorem gX11_refuse_0 {w : WD} {d : Nat} {G : GM} {Q : Option AV → Hp → Prop} {n : NM} {x1 : Int}
    (V :
    (x1 = (-5) →
      (inI ((n 80 2) + 1)) ∧
      Q (some (vi x1)) (B0, upn (upn n 0 10 x1) 80 2 ((n 80 2) + 1))) ∧
    (x1 = (-2) →
      (inI ((n 80 1) + 1)) ∧
      Q (some (vi x1)) (B0, upn (upn n 0 10 x1) 80 1 ((n 80 1) + 1))) ∧
    (x1 = (-1) →
      (inI ((n 80 0) + 1)) ∧
      Q (some (vi x1)) (B0, upn (upn n 0 10 x1) 80 0 ((n 80 0) + 1))) ∧
    (¬ x1 = (-5) → ¬ x1 = (-2) → ¬ x1 = (-1) →
      (inI ((n 80 3) + 1)) ∧
      Q (some (vi x1)) (B0, upn (upn n 0 10 x1) 80 3 ((n 80 3) + 1)))) :
    Rn w mX11_refuse d G Q 0 [(0, vr 0), (1, vi x1)] [] (B0, n) := by
  refine r_aload_n dX11_refuse_0 rfl rfl ?_
  refine r_iload_n dX11_refuse_1 rfl rfl ?_
  refine r_putI (fi := 10) (h' := (B0, upn n 0 10 x1)) dX11_refuse_2 pX11_70 ob_0 (by decide) rfl rfl rfl ?_
  refine r_iload_n dX11_refuse_5 rfl rfl ?_
  obtain ⟨V0, V1, V2, VD⟩ := V
  by_cases c0 : x1 = (-5)
  · have V := V0 c0
    refine r_tableIn (k := (-5)) (tgt := 66) dX11_refuse_6 c0 (by decide) (by decide) rfl (by decide) ?_
    refine r_aload_n dX11_refuse_66 rfl rfl ?_
    refine r_getR (b := 80) dX11_refuse_67 fX11_66 ob_0 (by decide) rfl rfl ?_
    refine r_iconst (x := 2) dX11_refuse_70 rfl (by decide) ?_
    refine r_dup2 dX11_refuse_71 rfl rfl ?_
    refine r_iald dX11_refuse_72 ob_80 (by decide) (by decide) ?_
    show Rn w mX11_refuse d G Q 73 [(0, vr 0), (1, vi x1)] [vi (n 80 2), vi 2, vr 80] (B0, upn n 0 10 x1)
    refine r_iconst (x := 1) dX11_refuse_73 rfl (by decide) ?_
    obtain ⟨s21, V⟩ := V
    refine r_iadd dX11_refuse_74 s21 ?_
    refine r_iast (h' := (B0, upn (upn n 0 10 x1) 80 2 ((n 80 2) + 1))) dX11_refuse_75 ob_80 (by decide) (by decide) rfl ?_
    refine r_goto (tgt := 89) dX11_refuse_76 (by decide) ?_
    refine r_iload_n dX11_refuse_89 rfl rfl ?_
    exact r_iret dX11_refuse_90 rfl V
  by_cases c1 : x1 = (-2)
  · have V := V1 c1
    refine r_tableIn (k := (-2)) (tgt := 53) dX11_refuse_6 c1 (by decide) (by decide) rfl (by decide) ?_
    refine r_aload_n dX11_refuse_53 rfl rfl ?_
    refine r_getR (b := 80) dX11_refuse_54 fX11_66 ob_0 (by decide) rfl rfl ?_
    refine r_iconst (x := 1) dX11_refuse_57 rfl (by decide) ?_
    refine r_dup2 dX11_refuse_58 rfl rfl ?_
    refine r_iald dX11_refuse_59 ob_80 (by decide) (by decide) ?_
    show Rn w mX11_refuse d G Q 60 [(0, vr 0), (1, vi x1)] [vi (n 80 1), vi 1, vr 80] (B0, upn n 0 10 x1)
    refine r_iconst (x := 1) dX11_refuse_60 rfl (by decide) ?_
    obtain ⟨s22, V⟩ := V
    refine r_iadd dX11_refuse_61 s22 ?_
    refine r_iast (h' := (B0, upn (upn n 0 10 x1) 80 1 ((n 80 1) + 1))) dX11_refuse_62 ob_80 (by decide) (by decide) rfl ?_
    refine r_goto (tgt := 89) dX11_refuse_63 (by decide) ?_
    refine r_iload_n dX11_refuse_89 rfl rfl ?_
    exact r_iret dX11_refuse_90 rfl V
  by_cases c2 : x1 = (-1)
  · have V := V2 c2
    refine r_tableIn (k := (-1)) (tgt := 40) dX11_refuse_6 c2 (by decide) (by decide) rfl (by decide) ?_
    refine r_aload_n dX11_refuse_40 rfl rfl ?_
    refine r_getR (b := 80) dX11_refuse_41 fX11_66 ob_0 (by decide) rfl rfl ?_
    refine r_iconst (x := 0) dX11_refuse_44 rfl (by decide) ?_
    refine r_dup2 dX11_refuse_45 rfl rfl ?_
    refine r_iald dX11_refuse_46 ob_80 (by decide) (by decide) ?_
    show Rn w mX11_refuse d G Q 47 [(0, vr 0), (1, vi x1)] [vi (n 80 0), vi 0, vr 80] (B0, upn n 0 10 x1)
    refine r_iconst (x := 1) dX11_refuse_47 rfl (by decide) ?_
    obtain ⟨s23, V⟩ := V
    refine r_iadd dX11_refuse_48 s23 ?_
    refine r_iast (h' := (B0, upn (upn n 0 10 x1) 80 0 ((n 80 0) + 1))) dX11_refuse_49 ob_80 (by decide) (by decide) rfl ?_
    refine r_goto (tgt := 89) dX11_refuse_50 (by decide) ?_
    refine r_iload_n dX11_refuse_89 rfl rfl ?_
    exact r_iret dX11_refuse_90 rfl V
  have V := VD c0 c1 c2
  by_cases e0 : x1 = (-4)
  · refine r_tableIn (k := (-4)) (tgt := 79) dX11_refuse_6 e0 (by decide) (by decide) rfl (by decide) ?_
    refine r_aload_n dX11_refuse_79 rfl rfl ?_
    refine r_getR (b := 80) dX11_refuse_80 fX11_66 ob_0 (by decide) rfl rfl ?_
    refine r_iconst (x := 3) dX11_refuse_83 rfl (by decide) ?_
    refine r_dup2 dX11_refuse_84 rfl rfl ?_
    refine r_iald dX11_refuse_85 ob_80 (by decide) (by decide) ?_
    show Rn w mX11_refuse d G Q 86 [(0, vr 0), (1, vi x1)] [vi (n 80 3), vi 3, vr 80] (B0, upn n 0 10 x1)
    refine r_iconst (x := 1) dX11_refuse_86 rfl (by decide) ?_
    obtain ⟨s24, V⟩ := V
    refine r_iadd dX11_refuse_87 s24 ?_
    refine r_iast (h' := (B0, upn (upn n 0 10 x1) 80 3 ((n 80 3) + 1))) dX11_refuse_88 ob_80 (by decide) (by decide) rfl ?_
    refine r_iload_n dX11_refuse_89 rfl rfl ?_
    exact r_iret dX11_refuse_90 rfl V
  by_cases e1 : x1 = (-3)
  · refine r_tableIn (k := (-3)) (tgt := 79) dX11_refuse_6 e1 (by decide) (by decide) rfl (by decide) ?_
    refine r_aload_n dX11_refuse_79 rfl rfl ?_
    refine r_getR (b := 80) dX11_refuse_80 fX11_66 ob_0 (by decide) rfl rfl ?_
    refine r_iconst (x := 3) dX11_refuse_83 rfl (by decide) ?_
    refine r_dup2 dX11_refuse_84 rfl rfl ?_
    refine r_iald dX11_refuse_85 ob_80 (by decide) (by decide) ?_
    show Rn w mX11_refuse d G Q 86 [(0, vr 0), (1, vi x1)] [vi (n 80 3), vi 3, vr 80] (B0, upn n 0 10 x1)
    refine r_iconst (x := 1) dX11_refuse_86 rfl (by decide) ?_
    obtain ⟨s24, V⟩ := V
    refine r_iadd dX11_refuse_87 s24 ?_
    refine r_iast (h' := (B0, upn (upn n 0 10 x1) 80 3 ((n 80 3) + 1))) dX11_refuse_88 ob_80 (by decide) (by decide) rfl ?_
    refine r_iload_n dX11_refuse_89 rfl rfl ?_
    exact r_iret dX11_refuse_90 rfl V
  refine r_tableOut (tgt := 79) dX11_refuse_6 (by omega) (by decide) ?_
  refine r_aload_n dX11_refuse_79 rfl rfl ?_
  refine r_getR (b := 80) dX11_refuse_80 fX11_66 ob_0 (by decide) rfl rfl ?_
  refine r_iconst (x := 3) dX11_refuse_83 rfl (by decide) ?_
  refine r_dup2 dX11_refuse_84 rfl rfl ?_
  refine r_iald dX11_refuse_85 ob_80 (by decide) (by decide) ?_
  show Rn w mX11_refuse d G Q 86 [(0, vr 0), (1, vi x1)] [vi (n 80 3), vi 3, vr 80] (B0, upn n 0 10 x1)
  refine r_iconst (x := 1) dX11_refuse_86 rfl (by decide) ?_
  obtain ⟨s24, V⟩ := V
  refine r_iadd dX11_refuse_87 s24 ?_
  refine r_iast (h' := (B0, upn (upn n 0 10 x1) 80 3 ((n 80 3) + 1))) dX11_refuse_88 ob_80 (by decide) (by decide) rfl ?_
  refine r_iload_n dX11_refuse_89 rfl rfl ?_
  exact r_iret dX11_refuse_90 rfl V

theorem gX11_addTo_0 {w : WD} {d : Nat} {G : GM} {Q : Option AV → Hp → Prop} {t : Nat} {n : NM} {x2 x3 x4 x5 : Int} (ot : Obj B0 t 7 4)
    (V :
    (Ev w d 0 0 mX7_isFull [vr t] (B0, n) (fun r h' => ∃ (x22 : Int) (n21 : NM), r = some (vi x22) ∧ h' = (B0, n21) ∧ 
      ((x22 = 0 →
        (Ev w d 0 0 mX7_add [vr t, vi x2, vi x3, vi x4, vi x5] (B0, n21) (fun r h' => ∃ (x25 : Int) (n24 : NM), r = some (vi x25) ∧ h' = (B0, n24) ∧ 
          (Ev w d 0 0 mX11_accept [vr 0, vi x25] (B0, n24) (fun r h' => ∃ (x27 : Int) (n26 : NM), r = some (vi x27) ∧ h' = (B0, n26) ∧ 
            Q (some (vi x27)) (B0, n26)))))) ∧
      (x22 ≠ 0 →
        (Ev w d 0 0 mX11_refuse [vr 0, vi (-5)] (B0, n21) (fun r h' => ∃ (x29 : Int) (n28 : NM), r = some (vi x29) ∧ h' = (B0, n28) ∧ 
          Q (some (vi x29)) (B0, n28)))))))) :
    Rn w mX11_addTo (d + 1) G Q 0 [(0, vr 0), (1, vr t), (2, vi x2), (3, vi x3), (4, vi x4), (5, vi x5)] [] (B0, n) := by
  refine r_aload_n dX11_addTo_0 rfl rfl ?_
  refine r_callV (args := []) dX11_addTo_1 kX11_279 ot ⟨_, _, rfl⟩ (by decide) rfl rfl (Nat.le_of_ble_eq_true rfl) cap0 (Ev.mono V ?_)
  rintro r h' ⟨x22, n21, rfl, rfl, V⟩
  show Rn w mX11_addTo (d + 1) G Q 4 [(0, vr 0), (1, vr t), (2, vi x2), (3, vi x3), (4, vi x4), (5, vi x5)] [vi x22] (B0, n21)
  obtain ⟨V1, V2⟩ := V
  refine r_zeq (tgt := 14) dX11_addTo_4 (by decide) (fun c23 => ?_) (fun c23 => ?_)
  · have V := V1 c23
    refine r_aload_n dX11_addTo_14 rfl rfl ?_
    refine r_aload_n dX11_addTo_15 rfl rfl ?_
    refine r_iload_n dX11_addTo_16 rfl rfl ?_
    refine r_iload_n dX11_addTo_17 rfl rfl ?_
    refine r_iload dX11_addTo_18 rfl ?_
    refine r_iload dX11_addTo_20 rfl ?_
    refine r_callV (args := [vi x2, vi x3, vi x4, vi x5]) dX11_addTo_22 kX11_282 ot ⟨_, _, rfl⟩ (by decide) rfl rfl (Nat.le_of_ble_eq_true rfl) cap0 (Ev.mono V ?_)
    rintro r h' ⟨x25, n24, rfl, rfl, V⟩
    show Rn w mX11_addTo (d + 1) G Q 25 [(0, vr 0), (1, vr t), (2, vi x2), (3, vi x3), (4, vi x4), (5, vi x5)] [vi x25, vr 0] (B0, n24)
    refine r_callV (args := [vi x25]) dX11_addTo_25 kX11_98 ob_0 ⟨_, _, rfl⟩ (by decide) rfl rfl (Nat.le_of_ble_eq_true rfl) cap0 (Ev.mono V ?_)
    rintro r h' ⟨x27, n26, rfl, rfl, V⟩
    show Rn w mX11_addTo (d + 1) G Q 28 [(0, vr 0), (1, vr t), (2, vi x2), (3, vi x3), (4, vi x4), (5, vi x5)] [vi x27] (B0, n26)
    exact r_iret dX11_addTo_28 rfl V
  · have V := V2 c23
    refine r_aload_n dX11_addTo_7 rfl rfl ?_
    refine r_bipush (x := -5) dX11_addTo_8 (by decide +kernel) (by decide) ?_
    refine r_callV (args := [vi (-5)]) dX11_addTo_10 kX11_84 ob_0 ⟨_, _, rfl⟩ (by decide) rfl rfl (Nat.le_of_ble_eq_true rfl) cap0 (Ev.mono V ?_)
    rintro r h' ⟨x29, n28, rfl, rfl, V⟩
    show Rn w mX11_addTo (d + 1) G Q 13 [(0, vr 0), (1, vr t), (2, vi x2), (3, vi x3), (4, vi x4), (5, vi x5)] [vi x29] (B0, n28)
    exact r_iret dX11_addTo_13 rfl V

theorem gX11_sightCameFrom_0 {w : WD} {d : Nat} {G : GM} {Q : Option AV → Hp → Prop} {n : NM} {x1 : Int}
    (V :
    (Ev w d 0 0 mX8_size [vr 35] (B0, n) (fun r h' => ∃ (x22 : Int) (n21 : NM), r = some (vi x22) ∧ h' = (B0, n21) ∧ 
      (inI (x22 - x1)) ∧
      ((7 ≤ x22 - x1 →
        (Ev w d 0 0 mX8_at [vr 35, vi x1] (B0, n21) (fun r h' => ∃ (x26 : Int) (n25 : NM), r = some (vi x26) ∧ h' = (B0, n25) ∧ 
          (inI (x1 + 1)) ∧
          (Ev w d 0 0 mX8_at [vr 35, vi (x1 + 1)] (B0, n25) (fun r h' => ∃ (x29 : Int) (n28 : NM), r = some (vi x29) ∧ h' = (B0, n28) ∧ 
            (inI (x29 * 10)) ∧
            (inI (x1 + 2)) ∧
            (Ev w d 0 0 mX8_at [vr 35, vi (x1 + 2)] (B0, n28) (fun r h' => ∃ (x33 : Int) (n32 : NM), r = some (vi x33) ∧ h' = (B0, n32) ∧ 
              (inI (x1 + 3)) ∧
              (Ev w d 0 0 mX8_at [vr 35, vi (x1 + 3)] (B0, n32) (fun r h' => ∃ (x36 : Int) (n35 : NM), r = some (vi x36) ∧ h' = (B0, n35) ∧ 
                (inI (x1 + 4)) ∧
                (Ev w d 0 0 mX8_at [vr 35, vi (x1 + 4)] (B0, n35) (fun r h' => ∃ (x39 : Int) (n38 : NM), r = some (vi x39) ∧ h' = (B0, n38) ∧ 
                  (inI (x1 + 5)) ∧
                  (Ev w d 0 0 mX8_at [vr 35, vi (x1 + 5)] (B0, n38) (fun r h' => ∃ (x42 : Int) (n41 : NM), r = some (vi x42) ∧ h' = (B0, n41) ∧ 
                    (inI (x1 + 6)) ∧
                    (Ev w d 0 0 mX8_at [vr 35, vi (x1 + 6)] (B0, n41) (fun r h' => ∃ (x45 : Int) (n44 : NM), r = some (vi x45) ∧ h' = (B0, n44) ∧ 
                      (inI (x26 + x45)) ∧
                      (Ev w d 0 0 mX1_whyNoSight [vr 1, vi x26, vi (x29 * 10), vi x33, vi x36, vi x39, vi x42, vi (x26 + x45)] (B0, n44) (fun r h' => ∃ (x48 : Int) (n47 : NM), r = some (vi x48) ∧ h' = (B0, n47) ∧ 
                        ((x48 = 0 →
                          (Ev w d 0 0 mX1_addSight [vr 1, vi x26, vi (x29 * 10), vi x33, vi x36, vi x39, vi x42, vi (x26 + x45)] (B0, n47) (fun r h' => ∃ (x51 : Int) (n50 : NM), r = some (vi x51) ∧ h' = (B0, n50) ∧ 
                            Q (some (vi 1)) (B0, n50)))) ∧
                        (x48 ≠ 0 →
                          Q (some (vi 0)) (B0, n47)))))))))))))))))))) ∧
      (x22 - x1 < 7 →
        Q (some (vi 0)) (B0, n21)))))) :
    Rn w mX11_sightCameFrom (d + 1) G Q 0 [(0, vr 0), (1, vi x1)] [] (B0, n) := by
  refine r_aload_n dX11_sightCameFrom_0 rfl rfl ?_
  refine r_getR (b := 35) dX11_sightCameFrom_1 fX11_27 ob_0 (by decide) rfl rfl ?_
  refine r_callV (args := []) dX11_sightCameFrom_4 kX11_139 ob_35 ⟨_, _, rfl⟩ (by decide) rfl rfl (Nat.le_of_ble_eq_true rfl) cap0 (Ev.mono V ?_)
  rintro r h' ⟨x22, n21, rfl, rfl, V⟩
  show Rn w mX11_sightCameFrom (d + 1) G Q 7 [(0, vr 0), (1, vi x1)] [vi x22] (B0, n21)
  refine r_iload_n dX11_sightCameFrom_7 rfl rfl ?_
  obtain ⟨s23, V⟩ := V
  refine r_isub dX11_sightCameFrom_8 s23 ?_
  refine r_bipush (x := 7) dX11_sightCameFrom_9 (by decide +kernel) (by decide) ?_
  obtain ⟨V1, V2⟩ := V
  refine r_jge (tgt := 16) dX11_sightCameFrom_11 (by decide) (fun c24 => ?_) (fun c24 => ?_)
  · have V := V1 c24
    refine r_aload_n dX11_sightCameFrom_16 rfl rfl ?_
    refine r_getR (b := 35) dX11_sightCameFrom_17 fX11_27 ob_0 (by decide) rfl rfl ?_
    refine r_iload_n dX11_sightCameFrom_20 rfl rfl ?_
    refine r_callV (args := [vi x1]) dX11_sightCameFrom_21 kX11_286 ob_35 ⟨_, _, rfl⟩ (by decide) rfl rfl (Nat.le_of_ble_eq_true rfl) cap0 (Ev.mono V ?_)
    rintro r h' ⟨x26, n25, rfl, rfl, V⟩
    show Rn w mX11_sightCameFrom (d + 1) G Q 24 [(0, vr 0), (1, vi x1)] [vi x26] (B0, n25)
    refine r_istore_n (ls' := [(0, vr 0), (1, vi x1), (2, vi x26)]) dX11_sightCameFrom_24 rfl (by decide) rfl ?_
    refine r_aload_n dX11_sightCameFrom_25 rfl rfl ?_
    refine r_getR (b := 35) dX11_sightCameFrom_26 fX11_27 ob_0 (by decide) rfl rfl ?_
    refine r_iload_n dX11_sightCameFrom_29 rfl rfl ?_
    refine r_iconst (x := 1) dX11_sightCameFrom_30 rfl (by decide) ?_
    obtain ⟨s27, V⟩ := V
    refine r_iadd dX11_sightCameFrom_31 s27 ?_
    refine r_callV (args := [vi (x1 + 1)]) dX11_sightCameFrom_32 kX11_286 ob_35 ⟨_, _, rfl⟩ (by decide) rfl rfl (Nat.le_of_ble_eq_true rfl) cap0 (Ev.mono V ?_)
    rintro r h' ⟨x29, n28, rfl, rfl, V⟩
    show Rn w mX11_sightCameFrom (d + 1) G Q 35 [(0, vr 0), (1, vi x1), (2, vi x26)] [vi x29] (B0, n28)
    refine r_bipush (x := 10) dX11_sightCameFrom_35 (by decide +kernel) (by decide) ?_
    obtain ⟨s30, V⟩ := V
    refine r_imul dX11_sightCameFrom_37 s30 ?_
    refine r_istore_n (ls' := [(0, vr 0), (1, vi x1), (2, vi x26), (3, vi (x29 * 10))]) dX11_sightCameFrom_38 rfl (by decide) rfl ?_
    refine r_aload_n dX11_sightCameFrom_39 rfl rfl ?_
    refine r_getR (b := 35) dX11_sightCameFrom_40 fX11_27 ob_0 (by decide) rfl rfl ?_
    refine r_iload_n dX11_sightCameFrom_43 rfl rfl ?_
    refine r_iconst (x := 2) dX11_sightCameFrom_44 rfl (by decide) ?_
    obtain ⟨s31, V⟩ := V
    refine r_iadd dX11_sightCameFrom_45 s31 ?_
    refine r_callV (args := [vi (x1 + 2)]) dX11_sightCameFrom_46 kX11_286 ob_35 ⟨_, _, rfl⟩ (by decide) rfl rfl (Nat.le_of_ble_eq_true rfl) cap0 (Ev.mono V ?_)
    rintro r h' ⟨x33, n32, rfl, rfl, V⟩
    show Rn w mX11_sightCameFrom (d + 1) G Q 49 [(0, vr 0), (1, vi x1), (2, vi x26), (3, vi (x29 * 10))] [vi x33] (B0, n32)
    refine r_istore (ls' := [(0, vr 0), (1, vi x1), (2, vi x26), (3, vi (x29 * 10)), (4, vi x33)]) dX11_sightCameFrom_49 (by decide) rfl ?_
    refine r_aload_n dX11_sightCameFrom_51 rfl rfl ?_
    refine r_getR (b := 35) dX11_sightCameFrom_52 fX11_27 ob_0 (by decide) rfl rfl ?_
    refine r_iload_n dX11_sightCameFrom_55 rfl rfl ?_
    refine r_iconst (x := 3) dX11_sightCameFrom_56 rfl (by decide) ?_
    obtain ⟨s34, V⟩ := V
    refine r_iadd dX11_sightCameFrom_57 s34 ?_
    refine r_callV (args := [vi (x1 + 3)]) dX11_sightCameFrom_58 kX11_286 ob_35 ⟨_, _, rfl⟩ (by decide) rfl rfl (Nat.le_of_ble_eq_true rfl) cap0 (Ev.mono V ?_)
    rintro r h' ⟨x36, n35, rfl, rfl, V⟩
    show Rn w mX11_sightCameFrom (d + 1) G Q 61 [(0, vr 0), (1, vi x1), (2, vi x26), (3, vi (x29 * 10)), (4, vi x33)] [vi x36] (B0, n35)
    refine r_istore (ls' := [(0, vr 0), (1, vi x1), (2, vi x26), (3, vi (x29 * 10)), (4, vi x33), (5, vi x36)]) dX11_sightCameFrom_61 (by decide) rfl ?_
    refine r_aload_n dX11_sightCameFrom_63 rfl rfl ?_
    refine r_getR (b := 35) dX11_sightCameFrom_64 fX11_27 ob_0 (by decide) rfl rfl ?_
    refine r_iload_n dX11_sightCameFrom_67 rfl rfl ?_
    refine r_iconst (x := 4) dX11_sightCameFrom_68 rfl (by decide) ?_
    obtain ⟨s37, V⟩ := V
    refine r_iadd dX11_sightCameFrom_69 s37 ?_
    refine r_callV (args := [vi (x1 + 4)]) dX11_sightCameFrom_70 kX11_286 ob_35 ⟨_, _, rfl⟩ (by decide) rfl rfl (Nat.le_of_ble_eq_true rfl) cap0 (Ev.mono V ?_)
    rintro r h' ⟨x39, n38, rfl, rfl, V⟩
    show Rn w mX11_sightCameFrom (d + 1) G Q 73 [(0, vr 0), (1, vi x1), (2, vi x26), (3, vi (x29 * 10)), (4, vi x33), (5, vi x36)] [vi x39] (B0, n38)
    refine r_istore (ls' := [(0, vr 0), (1, vi x1), (2, vi x26), (3, vi (x29 * 10)), (4, vi x33), (5, vi x36), (6, vi x39)]) dX11_sightCameFrom_73 (by decide) rfl ?_
    refine r_aload_n dX11_sightCameFrom_75 rfl rfl ?_
    refine r_getR (b := 35) dX11_sightCameFrom_76 fX11_27 ob_0 (by decide) rfl rfl ?_
    refine r_iload_n dX11_sightCameFrom_79 rfl rfl ?_
    refine r_iconst (x := 5) dX11_sightCameFrom_80 rfl (by decide) ?_
    obtain ⟨s40, V⟩ := V
    refine r_iadd dX11_sightCameFrom_81 s40 ?_
    refine r_callV (args := [vi (x1 + 5)]) dX11_sightCameFrom_82 kX11_286 ob_35 ⟨_, _, rfl⟩ (by decide) rfl rfl (Nat.le_of_ble_eq_true rfl) cap0 (Ev.mono V ?_)
    rintro r h' ⟨x42, n41, rfl, rfl, V⟩
    show Rn w mX11_sightCameFrom (d + 1) G Q 85 [(0, vr 0), (1, vi x1), (2, vi x26), (3, vi (x29 * 10)), (4, vi x33), (5, vi x36), (6, vi x39)] [vi x42] (B0, n41)
    refine r_istore (ls' := [(0, vr 0), (1, vi x1), (2, vi x26), (3, vi (x29 * 10)), (4, vi x33), (5, vi x36), (6, vi x39), (7, vi x42)]) dX11_sightCameFrom_85 (by decide) rfl ?_
    refine r_iload_n dX11_sightCameFrom_87 rfl rfl ?_
    refine r_aload_n dX11_sightCameFrom_88 rfl rfl ?_
    refine r_getR (b := 35) dX11_sightCameFrom_89 fX11_27 ob_0 (by decide) rfl rfl ?_
    refine r_iload_n dX11_sightCameFrom_92 rfl rfl ?_
    refine r_bipush (x := 6) dX11_sightCameFrom_93 (by decide +kernel) (by decide) ?_
    obtain ⟨s43, V⟩ := V
    refine r_iadd dX11_sightCameFrom_95 s43 ?_
    refine r_callV (args := [vi (x1 + 6)]) dX11_sightCameFrom_96 kX11_286 ob_35 ⟨_, _, rfl⟩ (by decide) rfl rfl (Nat.le_of_ble_eq_true rfl) cap0 (Ev.mono V ?_)
    rintro r h' ⟨x45, n44, rfl, rfl, V⟩
    show Rn w mX11_sightCameFrom (d + 1) G Q 99 [(0, vr 0), (1, vi x1), (2, vi x26), (3, vi (x29 * 10)), (4, vi x33), (5, vi x36), (6, vi x39), (7, vi x42)] [vi x45, vi x26] (B0, n44)
    obtain ⟨s46, V⟩ := V
    refine r_iadd dX11_sightCameFrom_99 s46 ?_
    refine r_istore (ls' := [(0, vr 0), (1, vi x1), (2, vi x26), (3, vi (x29 * 10)), (4, vi x33), (5, vi x36), (6, vi x39), (7, vi x42), (8, vi (x26 + x45))]) dX11_sightCameFrom_100 (by decide) rfl ?_
    refine r_aload_n dX11_sightCameFrom_102 rfl rfl ?_
    refine r_getR (b := 1) dX11_sightCameFrom_103 fX11_10 ob_0 (by decide) rfl rfl ?_
    refine r_iload_n dX11_sightCameFrom_106 rfl rfl ?_
    refine r_iload_n dX11_sightCameFrom_107 rfl rfl ?_
    refine r_iload dX11_sightCameFrom_108 rfl ?_
    refine r_iload dX11_sightCameFrom_110 rfl ?_
    refine r_iload dX11_sightCameFrom_112 rfl ?_
    refine r_iload dX11_sightCameFrom_114 rfl ?_
    refine r_iload dX11_sightCameFrom_116 rfl ?_
    refine r_callV (args := [vi x26, vi (x29 * 10), vi x33, vi x36, vi x39, vi x42, vi (x26 + x45)]) dX11_sightCameFrom_118 kX11_124 ob_1 ⟨_, _, rfl⟩ (by decide) rfl rfl (Nat.le_of_ble_eq_true rfl) cap0 (Ev.mono V ?_)
    rintro r h' ⟨x48, n47, rfl, rfl, V⟩
    show Rn w mX11_sightCameFrom (d + 1) G Q 121 [(0, vr 0), (1, vi x1), (2, vi x26), (3, vi (x29 * 10)), (4, vi x33), (5, vi x36), (6, vi x39), (7, vi x42), (8, vi (x26 + x45))] [vi x48] (B0, n47)
    obtain ⟨V1, V2⟩ := V
    refine r_zeq (tgt := 126) dX11_sightCameFrom_121 (by decide) (fun c49 => ?_) (fun c49 => ?_)
    · have V := V1 c49
      refine r_aload_n dX11_sightCameFrom_126 rfl rfl ?_
      refine r_getR (b := 1) dX11_sightCameFrom_127 fX11_10 ob_0 (by decide) rfl rfl ?_
      refine r_iload_n dX11_sightCameFrom_130 rfl rfl ?_
      refine r_iload_n dX11_sightCameFrom_131 rfl rfl ?_
      refine r_iload dX11_sightCameFrom_132 rfl ?_
      refine r_iload dX11_sightCameFrom_134 rfl ?_
      refine r_iload dX11_sightCameFrom_136 rfl ?_
      refine r_iload dX11_sightCameFrom_138 rfl ?_
      refine r_iload dX11_sightCameFrom_140 rfl ?_
      refine r_callV (args := [vi x26, vi (x29 * 10), vi x33, vi x36, vi x39, vi x42, vi (x26 + x45)]) dX11_sightCameFrom_142 kX11_128 ob_1 ⟨_, _, rfl⟩ (by decide) rfl rfl (Nat.le_of_ble_eq_true rfl) cap0 (Ev.mono V ?_)
      rintro r h' ⟨x51, n50, rfl, rfl, V⟩
      show Rn w mX11_sightCameFrom (d + 1) G Q 145 [(0, vr 0), (1, vi x1), (2, vi x26), (3, vi (x29 * 10)), (4, vi x33), (5, vi x36), (6, vi x39), (7, vi x42), (8, vi (x26 + x45))] [vi x51] (B0, n50)
      refine r_pop dX11_sightCameFrom_145 rfl ?_
      refine r_iconst (x := 1) dX11_sightCameFrom_146 rfl (by decide) ?_
      exact r_zret dX11_sightCameFrom_147 rfl (by decide) V
    · have V := V2 c49
      refine r_iconst (x := 0) dX11_sightCameFrom_124 rfl (by decide) ?_
      exact r_zret dX11_sightCameFrom_125 rfl (by decide) V
  · have V := V2 c24
    refine r_iconst (x := 0) dX11_sightCameFrom_14 rfl (by decide) ?_
    exact r_zret dX11_sightCameFrom_15 rfl (by decide) V

theorem gX11_canListen_0 {w : WD} {d : Nat} {G : GM} {Q : Option AV → Hp → Prop} {n : NM} {x0 x1 x2 : Int}
    (V :
    (Ev w d 0 0 mX11_within [vi x0, vi 0, vi 100] (B0, n) (fun r h' => ∃ (x22 : Int) (n21 : NM), r = some (vi x22) ∧ h' = (B0, n21) ∧ 
      ((x22 = 0 →
        Q (some (vi 0)) (B0, n21)) ∧
      (x22 ≠ 0 →
        (Ev w d 0 0 mX11_within [vi x1, vi 1, vi 60] (B0, n21) (fun r h' => ∃ (x25 : Int) (n24 : NM), r = some (vi x25) ∧ h' = (B0, n24) ∧ 
          ((x25 = 0 →
            Q (some (vi 0)) (B0, n24)) ∧
          (x25 ≠ 0 →
            (Ev w d 0 0 mX11_within [vi x2, vi 0, vi 99] (B0, n24) (fun r h' => ∃ (x28 : Int) (n27 : NM), r = some (vi x28) ∧ h' = (B0, n27) ∧ 
              ((x28 = 0 →
                Q (some (vi 0)) (B0, n27)) ∧
              (x28 ≠ 0 →
                Q (some (vi 1)) (B0, n27)))))))))))))) :
    Rn w mX11_canListen (d + 1) G Q 0 [(0, vi x0), (1, vi x1), (2, vi x2)] [] (B0, n) := by
  refine r_iload_n dX11_canListen_0 rfl rfl ?_
  refine r_iconst (x := 0) dX11_canListen_1 rfl (by decide) ?_
  refine r_bipush (x := 100) dX11_canListen_2 (by decide +kernel) (by decide) ?_
  refine r_callS (args := [vi x0, vi 0, vi 100]) dX11_canListen_4 kX11_80 rfl rfl (Nat.le_of_ble_eq_true rfl) cap0 (Ev.mono V ?_)
  rintro r h' ⟨x22, n21, rfl, rfl, V⟩
  show Rn w mX11_canListen (d + 1) G Q 7 [(0, vi x0), (1, vi x1), (2, vi x2)] [vi x22] (B0, n21)
  obtain ⟨V1, V2⟩ := V
  refine r_zeq (tgt := 34) dX11_canListen_7 (by decide) (fun c23 => ?_) (fun c23 => ?_)
  · have V := V1 c23
    refine r_iconst (x := 0) dX11_canListen_34 rfl (by decide) ?_
    exact r_zret dX11_canListen_35 rfl (by decide) V
  · have V := V2 c23
    refine r_iload_n dX11_canListen_10 rfl rfl ?_
    refine r_iconst (x := 1) dX11_canListen_11 rfl (by decide) ?_
    refine r_bipush (x := 60) dX11_canListen_12 (by decide +kernel) (by decide) ?_
    refine r_callS (args := [vi x1, vi 1, vi 60]) dX11_canListen_14 kX11_80 rfl rfl (Nat.le_of_ble_eq_true rfl) cap0 (Ev.mono V ?_)
    rintro r h' ⟨x25, n24, rfl, rfl, V⟩
    show Rn w mX11_canListen (d + 1) G Q 17 [(0, vi x0), (1, vi x1), (2, vi x2)] [vi x25] (B0, n24)
    obtain ⟨V1, V2⟩ := V
    refine r_zeq (tgt := 34) dX11_canListen_17 (by decide) (fun c26 => ?_) (fun c26 => ?_)
    · have V := V1 c26
      refine r_iconst (x := 0) dX11_canListen_34 rfl (by decide) ?_
      exact r_zret dX11_canListen_35 rfl (by decide) V
    · have V := V2 c26
      refine r_iload_n dX11_canListen_20 rfl rfl ?_
      refine r_iconst (x := 0) dX11_canListen_21 rfl (by decide) ?_
      refine r_bipush (x := 99) dX11_canListen_22 (by decide +kernel) (by decide) ?_
      refine r_callS (args := [vi x2, vi 0, vi 99]) dX11_canListen_24 kX11_80 rfl rfl (Nat.le_of_ble_eq_true rfl) cap0 (Ev.mono V ?_)
      rintro r h' ⟨x28, n27, rfl, rfl, V⟩
      show Rn w mX11_canListen (d + 1) G Q 27 [(0, vi x0), (1, vi x1), (2, vi x2)] [vi x28] (B0, n27)
      obtain ⟨V1, V2⟩ := V
      refine r_zeq (tgt := 34) dX11_canListen_27 (by decide) (fun c29 => ?_) (fun c29 => ?_)
      · have V := V1 c29
        refine r_iconst (x := 0) dX11_canListen_34 rfl (by decide) ?_
        exact r_zret dX11_canListen_35 rfl (by decide) V
      · have V := V2 c29
        refine r_iconst (x := 1) dX11_canListen_30 rfl (by decide) ?_
        refine r_goto (tgt := 35) dX11_canListen_31 (by decide) ?_
        exact r_zret dX11_canListen_35 rfl (by decide) V

theorem gX11_kinCanBe_0 {w : WD} {d : Nat} {G : GM} {Q : Option AV → Hp → Prop} {n : NM} {x0 x1 : Int}
    (V :
    (x0 = 0 →
      (Ev w d 0 0 mX11_within [vi x1, vi 0, vi 50] (B0, n) (fun r h' => ∃ (x22 : Int) (n21 : NM), r = some (vi x22) ∧ h' = (B0, n21) ∧ 
        (x22 = 0 ∨ x22 = 1) ∧
        Q (some (vi x22)) (B0, n21)))) ∧
    (x0 = 1 →
      (Ev w d 0 0 mX11_within [vi x1, vi 0, vi 10000] (B0, n) (fun r h' => ∃ (x25 : Int) (n24 : NM), r = some (vi x25) ∧ h' = (B0, n24) ∧ 
        (x25 = 0 ∨ x25 = 1) ∧
        Q (some (vi x25)) (B0, n24)))) ∧
    (x0 = 2 →
      (Ev w d 0 0 mX11_within [vi x1, vi 1, vi 100] (B0, n) (fun r h' => ∃ (x28 : Int) (n27 : NM), r = some (vi x28) ∧ h' = (B0, n27) ∧ 
        (x28 = 0 ∨ x28 = 1) ∧
        Q (some (vi x28)) (B0, n27)))) ∧
    (¬ x0 = 0 → ¬ x0 = 1 → ¬ x0 = 2 →
      Q (some (vi 0)) (B0, n))) :
    Rn w mX11_kinCanBe (d + 1) G Q 0 [(0, vi x0), (1, vi x1)] [] (B0, n) := by
  refine r_iload_n dX11_kinCanBe_0 rfl rfl ?_
  obtain ⟨V0, V1, V2, VD⟩ := V
  by_cases c0 : x0 = 0
  · have V := V0 c0
    refine r_tableIn (k := 0) (tgt := 28) dX11_kinCanBe_1 c0 (by decide) (by decide) rfl (by decide) ?_
    refine r_iload_n dX11_kinCanBe_28 rfl rfl ?_
    refine r_iconst (x := 0) dX11_kinCanBe_29 rfl (by decide) ?_
    refine r_bipush (x := 50) dX11_kinCanBe_30 (by decide +kernel) (by decide) ?_
    refine r_callS (args := [vi x1, vi 0, vi 50]) dX11_kinCanBe_32 kX11_80 rfl rfl (Nat.le_of_ble_eq_true rfl) cap0 (Ev.mono V ?_)
    rintro r h' ⟨x22, n21, rfl, rfl, V⟩
    show Rn w mX11_kinCanBe (d + 1) G Q 35 [(0, vi x0), (1, vi x1)] [vi x22] (B0, n21)
    obtain ⟨s23, V⟩ := V
    exact r_zret dX11_kinCanBe_35 rfl s23 V
  by_cases c1 : x0 = 1
  · have V := V1 c1
    refine r_tableIn (k := 1) (tgt := 36) dX11_kinCanBe_1 c1 (by decide) (by decide) rfl (by decide) ?_
    refine r_iload_n dX11_kinCanBe_36 rfl rfl ?_
    refine r_iconst (x := 0) dX11_kinCanBe_37 rfl (by decide) ?_
    refine r_sipush (x := 10000) dX11_kinCanBe_38 (by decide +kernel) (by decide) ?_
    refine r_callS (args := [vi x1, vi 0, vi 10000]) dX11_kinCanBe_41 kX11_80 rfl rfl (Nat.le_of_ble_eq_true rfl) cap0 (Ev.mono V ?_)
    rintro r h' ⟨x25, n24, rfl, rfl, V⟩
    show Rn w mX11_kinCanBe (d + 1) G Q 44 [(0, vi x0), (1, vi x1)] [vi x25] (B0, n24)
    obtain ⟨s26, V⟩ := V
    exact r_zret dX11_kinCanBe_44 rfl s26 V
  by_cases c2 : x0 = 2
  · have V := V2 c2
    refine r_tableIn (k := 2) (tgt := 45) dX11_kinCanBe_1 c2 (by decide) (by decide) rfl (by decide) ?_
    refine r_iload_n dX11_kinCanBe_45 rfl rfl ?_
    refine r_iconst (x := 1) dX11_kinCanBe_46 rfl (by decide) ?_
    refine r_bipush (x := 100) dX11_kinCanBe_47 (by decide +kernel) (by decide) ?_
    refine r_callS (args := [vi x1, vi 1, vi 100]) dX11_kinCanBe_49 kX11_80 rfl rfl (Nat.le_of_ble_eq_true rfl) cap0 (Ev.mono V ?_)
    rintro r h' ⟨x28, n27, rfl, rfl, V⟩
    show Rn w mX11_kinCanBe (d + 1) G Q 52 [(0, vi x0), (1, vi x1)] [vi x28] (B0, n27)
    obtain ⟨s29, V⟩ := V
    exact r_zret dX11_kinCanBe_52 rfl s29 V
  have V := VD c0 c1 c2
  refine r_tableOut (tgt := 53) dX11_kinCanBe_1 (by omega) (by decide) ?_
  refine r_iconst (x := 0) dX11_kinCanBe_53 rfl (by decide) ?_
  exact r_zret dX11_kinCanBe_54 rfl (by decide) V

theorem gX11_isBase_0 {w : WD} {d : Nat} {G : GM} {Q : Option AV → Hp → Prop} {n : NM} {x1 : Int}
    (V :
    (Ev w d 0 0 mX11_within [vi x1, vi 0, vi 29] (B0, n) (fun r h' => ∃ (x22 : Int) (n21 : NM), r = some (vi x22) ∧ h' = (B0, n21) ∧ 
      ((x22 = 0 →
        Q (some (vi 0)) (B0, n21)) ∧
      (x22 ≠ 0 →
        (Ev w d 0 0 mX7_get [vr 27, vi x1, vi 0] (B0, n21) (fun r h' => ∃ (x25 : Int) (n24 : NM), r = some (vi x25) ∧ h' = (B0, n24) ∧ 
          ((x25 ≤ 0 →
            Q (some (vi 0)) (B0, n24)) ∧
          (0 < x25 →
            Q (some (vi 1)) (B0, n24)))))))))) :
    Rn w mX11_isBase (d + 1) G Q 0 [(0, vr 0), (1, vi x1)] [] (B0, n) := by
  refine r_iload_n dX11_isBase_0 rfl rfl ?_
  refine r_iconst (x := 0) dX11_isBase_1 rfl (by decide) ?_
  refine r_bipush (x := 29) dX11_isBase_2 (by decide +kernel) (by decide) ?_
  refine r_callS (args := [vi x1, vi 0, vi 29]) dX11_isBase_4 kX11_80 rfl rfl (Nat.le_of_ble_eq_true rfl) cap0 (Ev.mono V ?_)
  rintro r h' ⟨x22, n21, rfl, rfl, V⟩
  show Rn w mX11_isBase (d + 1) G Q 7 [(0, vr 0), (1, vi x1)] [vi x22] (B0, n21)
  obtain ⟨V1, V2⟩ := V
  refine r_zeq (tgt := 29) dX11_isBase_7 (by decide) (fun c23 => ?_) (fun c23 => ?_)
  · have V := V1 c23
    refine r_iconst (x := 0) dX11_isBase_29 rfl (by decide) ?_
    exact r_zret dX11_isBase_30 rfl (by decide) V
  · have V := V2 c23
    refine r_aload_n dX11_isBase_10 rfl rfl ?_
    refine r_getR (b := 1) dX11_isBase_11 fX11_10 ob_0 (by decide) rfl rfl ?_
    refine r_getR (b := 27) dX11_isBase_14 fX11_246 ob_1 (by decide) rfl rfl ?_
    refine r_iload_n dX11_isBase_17 rfl rfl ?_
    refine r_iconst (x := 0) dX11_isBase_18 rfl (by decide) ?_
    refine r_callV (args := [vi x1, vi 0]) dX11_isBase_19 kX11_184 ob_27 ⟨_, _, rfl⟩ (by decide) rfl rfl (Nat.le_of_ble_eq_true rfl) cap0 (Ev.mono V ?_)
    rintro r h' ⟨x25, n24, rfl, rfl, V⟩
    show Rn w mX11_isBase (d + 1) G Q 22 [(0, vr 0), (1, vi x1)] [vi x25] (B0, n24)
    obtain ⟨V1, V2⟩ := V
    refine r_zle (tgt := 29) dX11_isBase_22 (by decide) (fun c26 => ?_) (fun c26 => ?_)
    · have V := V1 c26
      refine r_iconst (x := 0) dX11_isBase_29 rfl (by decide) ?_
      exact r_zret dX11_isBase_30 rfl (by decide) V
    · have V := V2 c26
      refine r_iconst (x := 1) dX11_isBase_25 rfl (by decide) ?_
      refine r_goto (tgt := 30) dX11_isBase_26 (by decide) ?_
      exact r_zret dX11_isBase_30 rfl (by decide) V

theorem gX11_greatestDivisor_0 {w : WD} {d : Nat} {G : GM} {Q : Option AV → Hp → Prop} {n : NM} {x0 x1 : Int}
    (V :
    Rn w mX11_greatestDivisor d G Q 7 [(2, vi x0), (3, vi x1), (4, vi 0)] [] (B0, n)) :
    Rn w mX11_greatestDivisor d G Q 0 [(0, vi x0), (1, vi x1)] [] (B0, n) := by
  refine r_iload_n dX11_greatestDivisor_0 rfl rfl ?_
  refine r_istore_n (ls' := [(0, vi x0), (1, vi x1), (2, vi x0)]) dX11_greatestDivisor_1 rfl (by decide) rfl ?_
  refine r_iload_n dX11_greatestDivisor_2 rfl rfl ?_
  refine r_istore_n (ls' := [(0, vi x0), (1, vi x1), (2, vi x0), (3, vi x1)]) dX11_greatestDivisor_3 rfl (by decide) rfl ?_
  refine r_iconst (x := 0) dX11_greatestDivisor_4 rfl (by decide) ?_
  refine r_istore (ls' := [(0, vi x0), (1, vi x1), (2, vi x0), (3, vi x1), (4, vi 0)]) dX11_greatestDivisor_5 (by decide) rfl ?_
  refine r_pick [2, 3, 4] (ls' := [(2, vi x0), (3, vi x1), (4, vi 0)]) rfl ?_
  exact V

theorem gX11_greatestDivisor_7 {w : WD} {d : Nat} {G : GM} {Q : Option AV → Hp → Prop} {n : NM} {x2 x3 x4 : Int}
    (V :
    ((64 ≤ x4 →
      Q (some (vi x2)) (B0, n)) ∧
    (x4 < 64 →
      ((x3 = 0 →
        Q (some (vi x2)) (B0, n)) ∧
      (x3 ≠ 0 →
        (0 ≤ x2) ∧
        (0 < x3) ∧
        (inI (x4 + 1)) ∧
        Rn w mX11_greatestDivisor d G Q 7 [(2, vi x3), (3, vi (x2 % x3)), (4, vi (x4 + 1))] [] (B0, n)))))) :
    Rn w mX11_greatestDivisor d G Q 7 [(2, vi x2), (3, vi x3), (4, vi x4)] [] (B0, n) := by
  refine r_iload dX11_greatestDivisor_7 rfl ?_
  refine r_bipush (x := 64) dX11_greatestDivisor_9 (by decide +kernel) (by decide) ?_
  obtain ⟨V1, V2⟩ := V
  refine r_jge (tgt := 34) dX11_greatestDivisor_11 (by decide) (fun c21 => ?_) (fun c21 => ?_)
  · have V := V1 c21
    refine r_iload_n dX11_greatestDivisor_34 rfl rfl ?_
    exact r_iret dX11_greatestDivisor_35 rfl V
  · have V := V2 c21
    refine r_iload_n dX11_greatestDivisor_14 rfl rfl ?_
    obtain ⟨V1, V2⟩ := V
    refine r_zeq (tgt := 34) dX11_greatestDivisor_15 (by decide) (fun c22 => ?_) (fun c22 => ?_)
    · have V := V1 c22
      refine r_iload_n dX11_greatestDivisor_34 rfl rfl ?_
      exact r_iret dX11_greatestDivisor_35 rfl V
    · have V := V2 c22
      refine r_iload_n dX11_greatestDivisor_18 rfl rfl ?_
      refine r_iload_n dX11_greatestDivisor_19 rfl rfl ?_
      obtain ⟨s23, V⟩ := V
      obtain ⟨s24, V⟩ := V
      refine r_irem dX11_greatestDivisor_20 s23 s24 ?_
      refine r_istore (ls' := [(2, vi x2), (3, vi x3), (4, vi x4), (5, vi (x2 % x3))]) dX11_greatestDivisor_21 (by decide) rfl ?_
      refine r_iload_n dX11_greatestDivisor_23 rfl rfl ?_
      refine r_istore_n (ls' := [(2, vi x3), (3, vi x3), (4, vi x4), (5, vi (x2 % x3))]) dX11_greatestDivisor_24 rfl (by decide) rfl ?_
      refine r_iload dX11_greatestDivisor_25 rfl ?_
      refine r_istore_n (ls' := [(2, vi x3), (3, vi (x2 % x3)), (4, vi x4), (5, vi (x2 % x3))]) dX11_greatestDivisor_27 rfl (by decide) rfl ?_
      obtain ⟨s25, V⟩ := V
      refine r_iinc (y := x4 + 1) (ls' := [(2, vi x3), (3, vi (x2 % x3)), (4, vi (x4 + 1)), (5, vi (x2 % x3))]) dX11_greatestDivisor_28 rfl rfl s25 (by decide) rfl ?_
      refine r_goto (tgt := 7) dX11_greatestDivisor_31 (by decide) ?_
      refine r_pick [0, 1, 2] (ls' := [(2, vi x3), (3, vi (x2 % x3)), (4, vi (x4 + 1))]) rfl ?_
      exact V
