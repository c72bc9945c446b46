section LAKEINIT
variable {w : WD} {d : Nat}
theorem newT1 : NewAt RX1 9 7 := ⟨_, _, _, clk_7, gT_in (by decide +kernel) (by decide +kernel), gT_in (by decide +kernel) (by decide +kernel), gT_in (by decide +kernel) (by decide +kernel)⟩
theorem newL1 : NewAt RX1 38 2 := ⟨_, _, _, clk_2, gT_in (by decide +kernel) (by decide +kernel), gT_in (by decide +kernel) (by decide +kernel), gT_in (by decide +kernel) (by decide +kernel)⟩
theorem tyLw : ∀ k, k < 4 → ftA 2 k = .int ∨ ftA 2 k = .boolean ∨ ftA 2 k = .long ∨ (∃ n, ftA 2 k = .object n) ∨ ∃ t, ftA 2 k = .array t
  | 0, _ => Or.inr (Or.inr (Or.inr (Or.inr ⟨_, rfl⟩)))
  | 1, _ => Or.inr (Or.inr (Or.inr (Or.inr ⟨_, rfl⟩)))
  | 2, _ => Or.inl rfl
  | 3, _ => Or.inr (Or.inr (Or.inr (Or.inl ⟨_, rfl⟩)))
  | k + 4, h => by omega
theorem t_initP {a j L : Nat} {W R : Int} {n : NM} (hk : kindL[a]? = some (7, 4)) (hk1 : kindL[a + 1]? = some (100, L)) (hj : putsL[j]? = some (a, 0, a + 1)) (hp : ∀ y, y ∈ putsL.take j → y.1 < a + 1) (hW : 1 ≤ W ∧ W ≤ 1000) (hR : 1 ≤ R ∧ R ≤ 1000) (hL : R * W = (L : Int)) (hle : L ≤ 100000) (z : ∀ i, n (a + 1) i = 0) :
    Ev w (d + 1) 1 L mX7_init [vr a, vi R, vi W] (BK (a + 1) j, n) (fun r h' => ∃ n' : NM, r = none ∧ h' = (BK (a + 2) (j + 1), n') ∧ (∀ t : Nat, t ≠ a → n' t = n t) ∧ n' a 1 = W ∧ n' a 2 = R ∧ n' a 3 = 0) :=
  Ev.mono (t_init hk hk1 hj hp hW hR hL hle z) (fun r h' y => ⟨_, y.1, y.2, fun t ht => by rw [upn_ne ht, upn_ne ht, upn_ne ht], upn_self _ _ _ _, by rw [upn_i (by decide), upn_self], by rw [upn_i (by decide), upn_i (by decide), upn_self]⟩)
theorem l_initP {a j : Nat} {n : NM} (hk : kindL[a]? = some (2, 4)) (k1 : kindL[a + 1]? = some (100, 400)) (k2 : kindL[a + 2]? = some (100, 400)) (k3 : kindL[a + 3]? = some (7, 4)) (k4 : kindL[a + 4]? = some (100, 48)) (p0 : putsL[j]? = some (a, 0, a + 1)) (p1 : putsL[j + 1]? = some (a, 1, a + 2)) (p2 : putsL[j + 2]? = some (a + 3, 0, a + 4)) (p3 : putsL[j + 3]? = some (a, 3, a + 3)) (q0 : ∀ y, y ∈ putsL.take j → y.1 < a + 1) (q1 : ∀ y, y ∈ putsL.take (j + 1) → y.1 < a + 2) (q2 : ∀ y, y ∈ putsL.take (j + 2) → y.1 < a + 3) (z : ∀ t : Nat, a < t → ∀ i, n t i = 0) :
    Ev w (d + 2) 4 852 mX2_init [vr a] (BK (a + 1) j, n) (fun r h' => ∃ n' : NM, r = none ∧ h' = (BK (a + 5) (j + 4), n') ∧ (∀ t : Nat, t ≠ a → t ≠ a + 3 → n' t = n t) ∧ n' a 2 = 0 ∧ n' (a + 3) 1 = 4 ∧ n' (a + 3) 2 = 12 ∧ n' (a + 3) 3 = 0) :=
  Ev.mono (l_init hk k1 k2 k3 k4 p0 p1 p2 p3 q0 q1 q2 z) (fun r h' y => ⟨_, y.1, y.2, fun t ht ht2 => by rw [upn_ne ht2, upn_ne ht2, upn_ne ht2, upn_ne ht], by rw [upn_a (by omega), upn_a (by omega), upn_a (by omega), upn_self], upn_self _ _ _ _, by rw [upn_i (by decide), upn_self], by rw [upn_i (by decide), upn_i (by decide), upn_self]⟩)
theorem t_fillB {B : HB} {t c L : Nat} {R v : Int} {n : NM} (ot : Obj B t 7 4) (rt : rf B t 0 = some c) (oc : Obj B c 100 L) (hR : n t 2 = R) (h0 : 0 ≤ R) (hL : L ≤ 100000) : EV w (d + 3) mX7_fill [vr t, vi R, vi v] B n (wrow (upn n t 3 R) c 0 (L : Int) (fun _ => v)) := by
  have fa : EV w (d + 2) mJ7_fill_53178 [vr c, vi v] B (upn n t 3 R) (wrow (upn n t 3 R) c 0 (L : Int) (fun _ => v)) := by
    refine EV.of (by decide +kernel) (Nat.le_of_ble_eq_true rfl) rfl (fun _ G => gJ7_fill_53178_0 oc ⟨⟨by omega, by omega⟩, ?_⟩)
    have := s_fillL (w := w) (d := d + 2) (G := G) (n := upn n t 3 R) (x := v) oc (by omega) L 0 (Nat.zero_add _)
    rw [show wrow (upn n t 3 R) c 0 ((0 : Nat) : Int) (fun _ => v) = upn n t 3 R from wrow_0] at this
    exact this
  refine EV.of (by decide +kernel) (Nat.le_of_ble_eq_true rfl) rfl (fun _ G => gX7_fill_0 ot (c := c) rt oc ?_)
  rw [hR, show max 0 (min R R) = R by omega]
  exact EV.use fa ⟨rfl, rfl⟩
/-- what a lake's constructor leaves (a draft) -/
def LkI (n' n : NM) (a : Nat) : Prop := ∀ t : Nat, t < a ∨ a + 32 ≤ t → n' t = n t
theorem lake_init_1 {n : NM} (z : ∀ t : Nat, 2 ≤ t → ∀ i, n t i = 0) : Ev w (d + 5) 31 1749 mX1_init [vr 1] (BK 2 0, n) (fun r h' => ∃ n' : NM, r = none ∧ h' = (BK 33 31, n') ∧ LkI n' n 1) := by
  refine Ev.of (by decide +kernel) (Nat.le_of_ble_eq_true rfl) rfl (fun ho G hcz hcu => ?_)
  have hcz : gcz G = 33 := hcz
  have hcu : gcu G = 1776 := hcu.trans (show hu (BK 2 0) + 1749 = 1776 by decide +kernel)
  have hlk : kindL[1]? = some (1, 14) := rfl
  refine r_aload_n dX1_init_0 rfl rfl ?_
  refine r_objInit dX1_init_1 kX1_3 (by decide) ?_
  refine r_aload_n dX1_init_4 rfl rfl ?_
  refine r_new (ci := 7) (nf := 4) dX1_init_5 newT1 ⟨_, rfl, rfl⟩ tyT (z 2 (by decide)) (by rw [hcz]; exact Nat.le_of_ble_eq_true rfl) (by rw [hcu]; exact (show hu (BK 2 0) + 4 ≤ 1776 by decide +kernel)) ?_
  dsimp only
  rw [newB_BK (k := 2) (j := 0) (x := (7, 4)) rfl (by decide +kernel)]
  refine r_dup dX1_init_8 rfl ?_
  refine r_bipush (x := 60) dX1_init_9 (by decide) (by decide) ?_
  refine r_iconst (x := 3) dX1_init_11 rfl (by decide) ?_
  refine r_callI (mc := 1) (ms := 180) (a := 2) (args := [vi 60, vi 3]) (st := [vr 2, vr 1]) dX1_init_12 kX1_11 rfl rfl (Nat.le_of_ble_eq_true rfl) (fun _ _ => ⟨by rw [hcz]; exact Nat.le_of_ble_eq_true rfl, by rw [hcu]; exact (show hu (BK 3 0) + 180 ≤ 1776 by decide +kernel)⟩) ?_
  refine Ev.mono (Ev.deep (by omega) (t_initP (d := d) (a := 2) (j := 0) (L := 180) (W := 3) (R := 60) rfl rfl rfl (by decide +kernel) (by decide) (by decide) rfl (by decide) (z 3 (by decide)))) (fun r h' y => ?_)
  obtain ⟨n1, y1, y2, f1, w1, r1, s1⟩ := y
  subst y1 y2
  have z1 : ∀ t : Nat, 3 ≤ t → ∀ i, n1 t i = 0 := fun t h i => by rw [f1 t (by omega)]; exact z t (by omega) i
  refine r_putFR (b := 2) dX1_init_15 pfX1_14 rfl (BK_obj (x := (1, 14)) (by decide) hlk) (by decide) rfl ?_
  dsimp only
  rw [putB_BK (j := 1) rfl]
  refine r_aload_n dX1_init_18 rfl rfl ?_
  refine r_new (ci := 7) (nf := 4) dX1_init_19 newT1 ⟨_, rfl, rfl⟩ tyT (z1 4 (by decide)) (by rw [hcz]; exact Nat.le_of_ble_eq_true rfl) (by rw [hcu]; exact (show hu (BK 4 2) + 4 ≤ 1776 by decide +kernel)) ?_
  dsimp only
  rw [newB_BK (k := 4) (j := 2) (x := (7, 4)) rfl (by decide +kernel)]
  refine r_dup dX1_init_22 rfl ?_
  refine r_bipush (x := 12) dX1_init_23 (by decide) (by decide) ?_
  refine r_iconst (x := 4) dX1_init_25 rfl (by decide) ?_
  refine r_callI (mc := 1) (ms := 48) (a := 4) (args := [vi 12, vi 4]) (st := [vr 4, vr 1]) dX1_init_26 kX1_11 rfl rfl (Nat.le_of_ble_eq_true rfl) (fun _ _ => ⟨by rw [hcz]; exact Nat.le_of_ble_eq_true rfl, by rw [hcu]; exact (show hu (BK 5 2) + 48 ≤ 1776 by decide +kernel)⟩) ?_
  refine Ev.mono (Ev.deep (by omega) (t_initP (d := d) (a := 4) (j := 2) (L := 48) (W := 4) (R := 12) rfl rfl rfl (by decide +kernel) (by decide) (by decide) rfl (by decide) (z1 5 (by decide)))) (fun r h' y => ?_)
  obtain ⟨n2, y1, y2, f2, w2, r2, s2⟩ := y
  subst y1 y2
  have z2 : ∀ t : Nat, 5 ≤ t → ∀ i, n2 t i = 0 := fun t h i => by rw [f2 t (by omega)]; exact z1 t (by omega) i
  refine r_putFR (b := 4) dX1_init_29 pfX1_20 rfl (BK_obj (x := (1, 14)) (by decide) hlk) (by decide) rfl ?_
  dsimp only
  rw [putB_BK (j := 3) rfl]
  refine r_aload_n dX1_init_32 rfl rfl ?_
  refine r_new (ci := 7) (nf := 4) dX1_init_33 newT1 ⟨_, rfl, rfl⟩ tyT (z2 6 (by decide)) (by rw [hcz]; exact Nat.le_of_ble_eq_true rfl) (by rw [hcu]; exact (show hu (BK 6 4) + 4 ≤ 1776 by decide +kernel)) ?_
  dsimp only
  rw [newB_BK (k := 6) (j := 4) (x := (7, 4)) rfl (by decide +kernel)]
  refine r_dup dX1_init_36 rfl ?_
  refine r_bipush (x := 12) dX1_init_37 (by decide) (by decide) ?_
  refine r_iconst (x := 4) dX1_init_39 rfl (by decide) ?_
  refine r_callI (mc := 1) (ms := 48) (a := 6) (args := [vi 12, vi 4]) (st := [vr 6, vr 1]) dX1_init_40 kX1_11 rfl rfl (Nat.le_of_ble_eq_true rfl) (fun _ _ => ⟨by rw [hcz]; exact Nat.le_of_ble_eq_true rfl, by rw [hcu]; exact (show hu (BK 7 4) + 48 ≤ 1776 by decide +kernel)⟩) ?_
  refine Ev.mono (Ev.deep (by omega) (t_initP (d := d) (a := 6) (j := 4) (L := 48) (W := 4) (R := 12) rfl rfl rfl (by decide +kernel) (by decide) (by decide) rfl (by decide) (z2 7 (by decide)))) (fun r h' y => ?_)
  obtain ⟨n3, y1, y2, f3, w3, r3, s3⟩ := y
  subst y1 y2
  have z3 : ∀ t : Nat, 7 ≤ t → ∀ i, n3 t i = 0 := fun t h i => by rw [f3 t (by omega)]; exact z2 t (by omega) i
  refine r_putFR (b := 6) dX1_init_43 pfX1_23 rfl (BK_obj (x := (1, 14)) (by decide) hlk) (by decide) rfl ?_
  dsimp only
  rw [putB_BK (j := 5) rfl]
  refine r_aload_n dX1_init_46 rfl rfl ?_
  refine r_new (ci := 7) (nf := 4) dX1_init_47 newT1 ⟨_, rfl, rfl⟩ tyT (z3 8 (by decide)) (by rw [hcz]; exact Nat.le_of_ble_eq_true rfl) (by rw [hcu]; exact (show hu (BK 8 6) + 4 ≤ 1776 by decide +kernel)) ?_
  dsimp only
  rw [newB_BK (k := 8) (j := 6) (x := (7, 4)) rfl (by decide +kernel)]
  refine r_dup dX1_init_50 rfl ?_
  refine r_bipush (x := 12) dX1_init_51 (by decide) (by decide) ?_
  refine r_iconst (x := 2) dX1_init_53 rfl (by decide) ?_
  refine r_callI (mc := 1) (ms := 24) (a := 8) (args := [vi 12, vi 2]) (st := [vr 8, vr 1]) dX1_init_54 kX1_11 rfl rfl (Nat.le_of_ble_eq_true rfl) (fun _ _ => ⟨by rw [hcz]; exact Nat.le_of_ble_eq_true rfl, by rw [hcu]; exact (show hu (BK 9 6) + 24 ≤ 1776 by decide +kernel)⟩) ?_
  refine Ev.mono (Ev.deep (by omega) (t_initP (d := d) (a := 8) (j := 6) (L := 24) (W := 2) (R := 12) rfl rfl rfl (by decide +kernel) (by decide) (by decide) rfl (by decide) (z3 9 (by decide)))) (fun r h' y => ?_)
  obtain ⟨n4, y1, y2, f4, w4, r4, s4⟩ := y
  subst y1 y2
  have z4 : ∀ t : Nat, 9 ≤ t → ∀ i, n4 t i = 0 := fun t h i => by rw [f4 t (by omega)]; exact z3 t (by omega) i
  refine r_putFR (b := 8) dX1_init_57 pfX1_26 rfl (BK_obj (x := (1, 14)) (by decide) hlk) (by decide) rfl ?_
  dsimp only
  rw [putB_BK (j := 7) rfl]
  refine r_aload_n dX1_init_60 rfl rfl ?_
  refine r_new (ci := 7) (nf := 4) dX1_init_61 newT1 ⟨_, rfl, rfl⟩ tyT (z4 10 (by decide)) (by rw [hcz]; exact Nat.le_of_ble_eq_true rfl) (by rw [hcu]; exact (show hu (BK 10 8) + 4 ≤ 1776 by decide +kernel)) ?_
  dsimp only
  rw [newB_BK (k := 10) (j := 8) (x := (7, 4)) rfl (by decide +kernel)]
  refine r_dup dX1_init_64 rfl ?_
  refine r_bipush (x := 12) dX1_init_65 (by decide) (by decide) ?_
  refine r_iconst (x := 1) dX1_init_67 rfl (by decide) ?_
  refine r_callI (mc := 1) (ms := 12) (a := 10) (args := [vi 12, vi 1]) (st := [vr 10, vr 1]) dX1_init_68 kX1_11 rfl rfl (Nat.le_of_ble_eq_true rfl) (fun _ _ => ⟨by rw [hcz]; exact Nat.le_of_ble_eq_true rfl, by rw [hcu]; exact (show hu (BK 11 8) + 12 ≤ 1776 by decide +kernel)⟩) ?_
  refine Ev.mono (Ev.deep (by omega) (t_initP (d := d) (a := 10) (j := 8) (L := 12) (W := 1) (R := 12) rfl rfl rfl (by decide +kernel) (by decide) (by decide) rfl (by decide) (z4 11 (by decide)))) (fun r h' y => ?_)
  obtain ⟨n5, y1, y2, f5, w5, r5, s5⟩ := y
  subst y1 y2
  have z5 : ∀ t : Nat, 11 ≤ t → ∀ i, n5 t i = 0 := fun t h i => by rw [f5 t (by omega)]; exact z4 t (by omega) i
  refine r_putFR (b := 10) dX1_init_71 pfX1_29 rfl (BK_obj (x := (1, 14)) (by decide) hlk) (by decide) rfl ?_
  dsimp only
  rw [putB_BK (j := 9) rfl]
  refine r_aload_n dX1_init_74 rfl rfl ?_
  refine r_new (ci := 7) (nf := 4) dX1_init_75 newT1 ⟨_, rfl, rfl⟩ tyT (z5 12 (by decide)) (by rw [hcz]; exact Nat.le_of_ble_eq_true rfl) (by rw [hcu]; exact (show hu (BK 12 10) + 4 ≤ 1776 by decide +kernel)) ?_
  dsimp only
  rw [newB_BK (k := 12) (j := 10) (x := (7, 4)) rfl (by decide +kernel)]
  refine r_dup dX1_init_78 rfl ?_
  refine r_bipush (x := 20) dX1_init_79 (by decide) (by decide) ?_
  refine r_iconst (x := 3) dX1_init_81 rfl (by decide) ?_
  refine r_callI (mc := 1) (ms := 60) (a := 12) (args := [vi 20, vi 3]) (st := [vr 12, vr 1]) dX1_init_82 kX1_11 rfl rfl (Nat.le_of_ble_eq_true rfl) (fun _ _ => ⟨by rw [hcz]; exact Nat.le_of_ble_eq_true rfl, by rw [hcu]; exact (show hu (BK 13 10) + 60 ≤ 1776 by decide +kernel)⟩) ?_
  refine Ev.mono (Ev.deep (by omega) (t_initP (d := d) (a := 12) (j := 10) (L := 60) (W := 3) (R := 20) rfl rfl rfl (by decide +kernel) (by decide) (by decide) rfl (by decide) (z5 13 (by decide)))) (fun r h' y => ?_)
  obtain ⟨n6, y1, y2, f6, w6, r6, s6⟩ := y
  subst y1 y2
  have z6 : ∀ t : Nat, 13 ≤ t → ∀ i, n6 t i = 0 := fun t h i => by rw [f6 t (by omega)]; exact z5 t (by omega) i
  refine r_putFR (b := 12) dX1_init_85 pfX1_32 rfl (BK_obj (x := (1, 14)) (by decide) hlk) (by decide) rfl ?_
  dsimp only
  rw [putB_BK (j := 11) rfl]
  refine r_aload_n dX1_init_88 rfl rfl ?_
  refine r_new (ci := 7) (nf := 4) dX1_init_89 newT1 ⟨_, rfl, rfl⟩ tyT (z6 14 (by decide)) (by rw [hcz]; exact Nat.le_of_ble_eq_true rfl) (by rw [hcu]; exact (show hu (BK 14 12) + 4 ≤ 1776 by decide +kernel)) ?_
  dsimp only
  rw [newB_BK (k := 14) (j := 12) (x := (7, 4)) rfl (by decide +kernel)]
  refine r_dup dX1_init_92 rfl ?_
  refine r_bipush (x := 40) dX1_init_93 (by decide) (by decide) ?_
  refine r_bipush (x := 7) dX1_init_95 (by decide) (by decide) ?_
  refine r_callI (mc := 1) (ms := 280) (a := 14) (args := [vi 40, vi 7]) (st := [vr 14, vr 1]) dX1_init_97 kX1_11 rfl rfl (Nat.le_of_ble_eq_true rfl) (fun _ _ => ⟨by rw [hcz]; exact Nat.le_of_ble_eq_true rfl, by rw [hcu]; exact (show hu (BK 15 12) + 280 ≤ 1776 by decide +kernel)⟩) ?_
  refine Ev.mono (Ev.deep (by omega) (t_initP (d := d) (a := 14) (j := 12) (L := 280) (W := 7) (R := 40) rfl rfl rfl (by decide +kernel) (by decide) (by decide) rfl (by decide) (z6 15 (by decide)))) (fun r h' y => ?_)
  obtain ⟨n7, y1, y2, f7, w7, r7, s7⟩ := y
  subst y1 y2
  have z7 : ∀ t : Nat, 15 ≤ t → ∀ i, n7 t i = 0 := fun t h i => by rw [f7 t (by omega)]; exact z6 t (by omega) i
  refine r_putFR (b := 14) dX1_init_100 pfX1_35 rfl (BK_obj (x := (1, 14)) (by decide) hlk) (by decide) rfl ?_
  dsimp only
  rw [putB_BK (j := 13) rfl]
  refine r_aload_n dX1_init_103 rfl rfl ?_
  refine r_new (ci := 2) (nf := 4) dX1_init_104 newL1 ⟨_, rfl, rfl⟩ tyLw (z7 16 (by decide)) (by rw [hcz]; exact Nat.le_of_ble_eq_true rfl) (by rw [hcu]; exact (show hu (BK 16 14) + 4 ≤ 1776 by decide +kernel)) ?_
  dsimp only
  rw [newB_BK (k := 16) (j := 14) (x := (2, 4)) rfl (by decide +kernel)]
  refine r_dup dX1_init_107 rfl ?_
  refine r_callIN (mc := 4) (ms := 852) (a := 16) (args := []) (st := [vr 16, vr 1]) dX1_init_108 kX1_40 rfl rfl (Nat.le_of_ble_eq_true rfl) (fun _ _ => ⟨by rw [hcz]; exact Nat.le_of_ble_eq_true rfl, by rw [hcu]; exact (show hu (BK 17 14) + 852 ≤ 1776 by decide +kernel)⟩) ?_
  refine Ev.mono (Ev.deep (by omega) (l_initP (d := d) (a := 16) (j := 14) rfl rfl rfl rfl rfl rfl rfl rfl rfl (by decide +kernel) (by decide +kernel) (by decide +kernel) (fun t h => z7 t (by omega)))) (fun r h' y => ?_)
  obtain ⟨n8, y1, y2, f8, q8, w8, r8, s8⟩ := y
  subst y1 y2
  have z8 : ∀ t : Nat, 20 ≤ t → ∀ i, n8 t i = 0 := fun t h i => by rw [f8 t (by omega) (by omega)]; exact z7 t (by omega) i
  refine r_putFR (b := 16) dX1_init_111 pfX1_41 rfl (BK_obj (x := (1, 14)) (by decide) hlk) (by decide) rfl ?_
  dsimp only
  rw [putB_BK (j := 18) rfl]
  refine r_aload_n dX1_init_114 rfl rfl ?_
  refine r_new (ci := 7) (nf := 4) dX1_init_115 newT1 ⟨_, rfl, rfl⟩ tyT (z8 21 (by decide)) (by rw [hcz]; exact Nat.le_of_ble_eq_true rfl) (by rw [hcu]; exact (show hu (BK 21 19) + 4 ≤ 1776 by decide +kernel)) ?_
  dsimp only
  rw [newB_BK (k := 21) (j := 19) (x := (7, 4)) rfl (by decide +kernel)]
  refine r_dup dX1_init_118 rfl ?_
  refine r_bipush (x := 6) dX1_init_119 (by decide) (by decide) ?_
  refine r_iconst (x := 3) dX1_init_121 rfl (by decide) ?_
  refine r_callI (mc := 1) (ms := 18) (a := 21) (args := [vi 6, vi 3]) (st := [vr 21, vr 1]) dX1_init_122 kX1_11 rfl rfl (Nat.le_of_ble_eq_true rfl) (fun _ _ => ⟨by rw [hcz]; exact Nat.le_of_ble_eq_true rfl, by rw [hcu]; exact (show hu (BK 22 19) + 18 ≤ 1776 by decide +kernel)⟩) ?_
  refine Ev.mono (Ev.deep (by omega) (t_initP (d := d) (a := 21) (j := 19) (L := 18) (W := 3) (R := 6) rfl rfl rfl (by decide +kernel) (by decide) (by decide) rfl (by decide) (z8 22 (by decide)))) (fun r h' y => ?_)
  obtain ⟨n9, y1, y2, f9, w9, r9, s9⟩ := y
  subst y1 y2
  have z9 : ∀ t : Nat, 22 ≤ t → ∀ i, n9 t i = 0 := fun t h i => by rw [f9 t (by omega)]; exact z8 t (by omega) i
  refine r_putFR (b := 21) dX1_init_125 pfX1_45 rfl (BK_obj (x := (1, 14)) (by decide) hlk) (by decide) rfl ?_
  dsimp only
  rw [putB_BK (j := 20) rfl]
  refine r_aload_n dX1_init_128 rfl rfl ?_
  refine r_new (ci := 7) (nf := 4) dX1_init_129 newT1 ⟨_, rfl, rfl⟩ tyT (z9 23 (by decide)) (by rw [hcz]; exact Nat.le_of_ble_eq_true rfl) (by rw [hcu]; exact (show hu (BK 23 21) + 4 ≤ 1776 by decide +kernel)) ?_
  dsimp only
  rw [newB_BK (k := 23) (j := 21) (x := (7, 4)) rfl (by decide +kernel)]
  refine r_dup dX1_init_132 rfl ?_
  refine r_bipush (x := 12) dX1_init_133 (by decide) (by decide) ?_
  refine r_iconst (x := 4) dX1_init_135 rfl (by decide) ?_
  refine r_callI (mc := 1) (ms := 48) (a := 23) (args := [vi 12, vi 4]) (st := [vr 23, vr 1]) dX1_init_136 kX1_11 rfl rfl (Nat.le_of_ble_eq_true rfl) (fun _ _ => ⟨by rw [hcz]; exact Nat.le_of_ble_eq_true rfl, by rw [hcu]; exact (show hu (BK 24 21) + 48 ≤ 1776 by decide +kernel)⟩) ?_
  refine Ev.mono (Ev.deep (by omega) (t_initP (d := d) (a := 23) (j := 21) (L := 48) (W := 4) (R := 12) rfl rfl rfl (by decide +kernel) (by decide) (by decide) rfl (by decide) (z9 24 (by decide)))) (fun r h' y => ?_)
  obtain ⟨n10, y1, y2, f10, w10, r10, s10⟩ := y
  subst y1 y2
  have z10 : ∀ t : Nat, 24 ≤ t → ∀ i, n10 t i = 0 := fun t h i => by rw [f10 t (by omega)]; exact z9 t (by omega) i
  refine r_putFR (b := 23) dX1_init_139 pfX1_48 rfl (BK_obj (x := (1, 14)) (by decide) hlk) (by decide) rfl ?_
  dsimp only
  rw [putB_BK (j := 22) rfl]
  refine r_aload_n dX1_init_142 rfl rfl ?_
  refine r_new (ci := 7) (nf := 4) dX1_init_143 newT1 ⟨_, rfl, rfl⟩ tyT (z10 25 (by decide)) (by rw [hcz]; exact Nat.le_of_ble_eq_true rfl) (by rw [hcu]; exact (show hu (BK 25 23) + 4 ≤ 1776 by decide +kernel)) ?_
  dsimp only
  rw [newB_BK (k := 25) (j := 23) (x := (7, 4)) rfl (by decide +kernel)]
  refine r_dup dX1_init_146 rfl ?_
  refine r_bipush (x := 10) dX1_init_147 (by decide) (by decide) ?_
  refine r_iconst (x := 4) dX1_init_149 rfl (by decide) ?_
  refine r_callI (mc := 1) (ms := 40) (a := 25) (args := [vi 10, vi 4]) (st := [vr 25, vr 1]) dX1_init_150 kX1_11 rfl rfl (Nat.le_of_ble_eq_true rfl) (fun _ _ => ⟨by rw [hcz]; exact Nat.le_of_ble_eq_true rfl, by rw [hcu]; exact (show hu (BK 26 23) + 40 ≤ 1776 by decide +kernel)⟩) ?_
  refine Ev.mono (Ev.deep (by omega) (t_initP (d := d) (a := 25) (j := 23) (L := 40) (W := 4) (R := 10) rfl rfl rfl (by decide +kernel) (by decide) (by decide) rfl (by decide) (z10 26 (by decide)))) (fun r h' y => ?_)
  obtain ⟨n11, y1, y2, f11, w11, r11, s11⟩ := y
  subst y1 y2
  have z11 : ∀ t : Nat, 26 ≤ t → ∀ i, n11 t i = 0 := fun t h i => by rw [f11 t (by omega)]; exact z10 t (by omega) i
  refine r_putFR (b := 25) dX1_init_153 pfX1_51 rfl (BK_obj (x := (1, 14)) (by decide) hlk) (by decide) rfl ?_
  dsimp only
  rw [putB_BK (j := 24) rfl]
  refine r_aload_n dX1_init_156 rfl rfl ?_
  refine r_new (ci := 7) (nf := 4) dX1_init_157 newT1 ⟨_, rfl, rfl⟩ tyT (z11 27 (by decide)) (by rw [hcz]; exact Nat.le_of_ble_eq_true rfl) (by rw [hcu]; exact (show hu (BK 27 25) + 4 ≤ 1776 by decide +kernel)) ?_
  dsimp only
  rw [newB_BK (k := 27) (j := 25) (x := (7, 4)) rfl (by decide +kernel)]
  refine r_dup dX1_init_160 rfl ?_
  refine r_bipush (x := 30) dX1_init_161 (by decide) (by decide) ?_
  refine r_iconst (x := 2) dX1_init_163 rfl (by decide) ?_
  refine r_callI (mc := 1) (ms := 60) (a := 27) (args := [vi 30, vi 2]) (st := [vr 27, vr 1]) dX1_init_164 kX1_11 rfl rfl (Nat.le_of_ble_eq_true rfl) (fun _ _ => ⟨by rw [hcz]; exact Nat.le_of_ble_eq_true rfl, by rw [hcu]; exact (show hu (BK 28 25) + 60 ≤ 1776 by decide +kernel)⟩) ?_
  refine Ev.mono (Ev.deep (by omega) (t_initP (d := d) (a := 27) (j := 25) (L := 60) (W := 2) (R := 30) rfl rfl rfl (by decide +kernel) (by decide) (by decide) rfl (by decide) (z11 28 (by decide)))) (fun r h' y => ?_)
  obtain ⟨n12, y1, y2, f12, w12, r12, s12⟩ := y
  subst y1 y2
  have z12 : ∀ t : Nat, 28 ≤ t → ∀ i, n12 t i = 0 := fun t h i => by rw [f12 t (by omega)]; exact z11 t (by omega) i
  refine r_putFR (b := 27) dX1_init_167 pfX1_54 rfl (BK_obj (x := (1, 14)) (by decide) hlk) (by decide) rfl ?_
  dsimp only
  rw [putB_BK (j := 26) rfl]
  refine r_aload_n dX1_init_170 rfl rfl ?_
  refine r_new (ci := 7) (nf := 4) dX1_init_171 newT1 ⟨_, rfl, rfl⟩ tyT (z12 29 (by decide)) (by rw [hcz]; exact Nat.le_of_ble_eq_true rfl) (by rw [hcu]; exact (show hu (BK 29 27) + 4 ≤ 1776 by decide +kernel)) ?_
  dsimp only
  rw [newB_BK (k := 29) (j := 27) (x := (7, 4)) rfl (by decide +kernel)]
  refine r_dup dX1_init_174 rfl ?_
  refine r_bipush (x := 10) dX1_init_175 (by decide) (by decide) ?_
  refine r_iconst (x := 2) dX1_init_177 rfl (by decide) ?_
  refine r_callI (mc := 1) (ms := 20) (a := 29) (args := [vi 10, vi 2]) (st := [vr 29, vr 1]) dX1_init_178 kX1_11 rfl rfl (Nat.le_of_ble_eq_true rfl) (fun _ _ => ⟨by rw [hcz]; exact Nat.le_of_ble_eq_true rfl, by rw [hcu]; exact (show hu (BK 30 27) + 20 ≤ 1776 by decide +kernel)⟩) ?_
  refine Ev.mono (Ev.deep (by omega) (t_initP (d := d) (a := 29) (j := 27) (L := 20) (W := 2) (R := 10) rfl rfl rfl (by decide +kernel) (by decide) (by decide) rfl (by decide) (z12 30 (by decide)))) (fun r h' y => ?_)
  obtain ⟨n13, y1, y2, f13, w13, r13, s13⟩ := y
  subst y1 y2
  have z13 : ∀ t : Nat, 30 ≤ t → ∀ i, n13 t i = 0 := fun t h i => by rw [f13 t (by omega)]; exact z12 t (by omega) i
  refine r_putFR (b := 29) dX1_init_181 pfX1_57 rfl (BK_obj (x := (1, 14)) (by decide) hlk) (by decide) rfl ?_
  dsimp only
  rw [putB_BK (j := 28) rfl]
  refine r_aload_n dX1_init_184 rfl rfl ?_
  refine r_new (ci := 7) (nf := 4) dX1_init_185 newT1 ⟨_, rfl, rfl⟩ tyT (z13 31 (by decide)) (by rw [hcz]; exact Nat.le_of_ble_eq_true rfl) (by rw [hcu]; exact (show hu (BK 31 29) + 4 ≤ 1776 by decide +kernel)) ?_
  dsimp only
  rw [newB_BK (k := 31) (j := 29) (x := (7, 4)) rfl (by decide +kernel)]
  refine r_dup dX1_init_188 rfl ?_
  refine r_iconst (x := 1) dX1_init_189 rfl (by decide) ?_
  refine r_iconst (x := 3) dX1_init_190 rfl (by decide) ?_
  refine r_callI (mc := 1) (ms := 3) (a := 31) (args := [vi 1, vi 3]) (st := [vr 31, vr 1]) dX1_init_191 kX1_11 rfl rfl (Nat.le_of_ble_eq_true rfl) (fun _ _ => ⟨by rw [hcz]; exact Nat.le_of_ble_eq_true rfl, by rw [hcu]; exact (show hu (BK 32 29) + 3 ≤ 1776 by decide +kernel)⟩) ?_
  refine Ev.mono (Ev.deep (by omega) (t_initP (d := d) (a := 31) (j := 29) (L := 3) (W := 3) (R := 1) rfl rfl rfl (by decide +kernel) (by decide) (by decide) rfl (by decide) (z13 32 (by decide)))) (fun r h' y => ?_)
  obtain ⟨n14, y1, y2, f14, w14, r14, s14⟩ := y
  subst y1 y2
  have z14 : ∀ t : Nat, 32 ≤ t → ∀ i, n14 t i = 0 := fun t h i => by rw [f14 t (by omega)]; exact z13 t (by omega) i
  refine r_putFR (b := 31) dX1_init_194 pfX1_60 rfl (BK_obj (x := (1, 14)) (by decide) hlk) (by decide) rfl ?_
  dsimp only
  rw [putB_BK (j := 30) rfl]
  have e2 : n14 2 = n1 2 := by rw [f14 2 (by decide), f13 2 (by decide), f12 2 (by decide), f11 2 (by decide), f10 2 (by decide), f9 2 (by decide), f8 2 (by decide) (by decide), f7 2 (by decide), f6 2 (by decide), f5 2 (by decide), f4 2 (by decide), f3 2 (by decide), f2 2 (by decide)]
  have e27 : n14 27 = n12 27 := by rw [f14 27 (by decide), f13 27 (by decide)]
  have e29 : n14 29 = n13 29 := by rw [f14 29 (by decide)]
  have e31 : n14 31 = n14 31 := by rfl
  refine r_aload_n dX1_init_197 rfl rfl ?_
  refine r_getR (b := 2) dX1_init_198 fX1_14 (BK_obj (x := (1, 14)) (by decide) hlk) (by decide) rfl (show rf (BK 33 31) 1 0 = some 2 by decide +kernel) ?_
  refine r_bipush (x := 60) dX1_init_201 (by decide) (by decide) ?_
  refine r_iconst (x := 0) dX1_init_203 rfl (by decide) ?_
  refine r_callV (mc := 0) (ms := 0) (ci := 7) (nf := 4) (a := 2) (args := [vi 60, vi 0]) (st := []) dX1_init_204 kX1_63 (BK_obj (x := (7, 4)) (by decide) rfl) ⟨_, _, rfl⟩ (by decide) rfl rfl (by decide) (fun a b => ⟨a, b⟩) ?_
  refine Ev.mono (Ev.deep (by omega) (t_fillB (d := d) (c := 3) (L := 180) (R := 60) (v := 0) (n := n14) (BK_obj (x := (7, 4)) (by decide) rfl) (show rf (BK 33 31) 2 0 = some 3 by decide +kernel) (BK_obj (x := (100, 180)) (by decide) rfl) (by rw [e2]; exact r1) (by decide) (by decide))) (fun r h' y => ?_)
  obtain ⟨y1, y2⟩ := y
  subst y1 y2
  generalize hp1 : wrow (upn n14 2 3 60) 3 0 ((180 : Nat) : Int) (fun _ => 0) = p1
  have m1 : ∀ u : Nat, u ≠ 2 → u ≠ 3 → p1 u = n14 u := fun u a b => by rw [← hp1, wrow_ne b, upn_ne a]
  refine r_aload_n dX1_init_207 rfl rfl ?_
  refine r_getR (b := 27) dX1_init_208 fX1_54 (BK_obj (x := (1, 14)) (by decide) hlk) (by decide) rfl (show rf (BK 33 31) 1 11 = some 27 by decide +kernel) ?_
  refine r_bipush (x := 30) dX1_init_211 (by decide) (by decide) ?_
  refine r_iconst (x := 0) dX1_init_213 rfl (by decide) ?_
  refine r_callV (mc := 0) (ms := 0) (ci := 7) (nf := 4) (a := 27) (args := [vi 30, vi 0]) (st := []) dX1_init_214 kX1_63 (BK_obj (x := (7, 4)) (by decide) rfl) ⟨_, _, rfl⟩ (by decide) rfl rfl (by decide) (fun a b => ⟨a, b⟩) ?_
  refine Ev.mono (Ev.deep (by omega) (t_fillB (d := d) (c := 28) (L := 60) (R := 30) (v := 0) (n := p1) (BK_obj (x := (7, 4)) (by decide) rfl) (show rf (BK 33 31) 27 0 = some 28 by decide +kernel) (BK_obj (x := (100, 60)) (by decide) rfl) (by rw [m1 27 (by decide) (by decide), e27]; exact r12) (by decide) (by decide))) (fun r h' y => ?_)
  obtain ⟨y1, y2⟩ := y
  subst y1 y2
  generalize hp2 : wrow (upn p1 27 3 30) 28 0 ((60 : Nat) : Int) (fun _ => 0) = p2
  have m2 : ∀ u : Nat, u ≠ 27 → u ≠ 28 → p2 u = p1 u := fun u a b => by rw [← hp2, wrow_ne b, upn_ne a]
  refine r_aload_n dX1_init_217 rfl rfl ?_
  refine r_getR (b := 29) dX1_init_218 fX1_57 (BK_obj (x := (1, 14)) (by decide) hlk) (by decide) rfl (show rf (BK 33 31) 1 12 = some 29 by decide +kernel) ?_
  refine r_bipush (x := 10) dX1_init_221 (by decide) (by decide) ?_
  refine r_iconst (x := 1) dX1_init_223 rfl (by decide) ?_
  refine r_callV (mc := 0) (ms := 0) (ci := 7) (nf := 4) (a := 29) (args := [vi 10, vi 1]) (st := []) dX1_init_224 kX1_63 (BK_obj (x := (7, 4)) (by decide) rfl) ⟨_, _, rfl⟩ (by decide) rfl rfl (by decide) (fun a b => ⟨a, b⟩) ?_
  refine Ev.mono (Ev.deep (by omega) (t_fillB (d := d) (c := 30) (L := 20) (R := 10) (v := 1) (n := p2) (BK_obj (x := (7, 4)) (by decide) rfl) (show rf (BK 33 31) 29 0 = some 30 by decide +kernel) (BK_obj (x := (100, 20)) (by decide) rfl) (by rw [m2 29 (by decide) (by decide), m1 29 (by decide) (by decide), e29]; exact r13) (by decide) (by decide))) (fun r h' y => ?_)
  obtain ⟨y1, y2⟩ := y
  subst y1 y2
  generalize hp3 : wrow (upn p2 29 3 10) 30 0 ((20 : Nat) : Int) (fun _ => 1) = p3
  have m3 : ∀ u : Nat, u ≠ 29 → u ≠ 30 → p3 u = p2 u := fun u a b => by rw [← hp3, wrow_ne b, upn_ne a]
  refine r_aload_n dX1_init_227 rfl rfl ?_
  refine r_getR (b := 31) dX1_init_228 fX1_60 (BK_obj (x := (1, 14)) (by decide) hlk) (by decide) rfl (show rf (BK 33 31) 1 13 = some 31 by decide +kernel) ?_
  refine r_iconst (x := 1) dX1_init_231 rfl (by decide) ?_
  refine r_iconst (x := 0) dX1_init_232 rfl (by decide) ?_
  refine r_callV (mc := 0) (ms := 0) (ci := 7) (nf := 4) (a := 31) (args := [vi 1, vi 0]) (st := []) dX1_init_233 kX1_63 (BK_obj (x := (7, 4)) (by decide) rfl) ⟨_, _, rfl⟩ (by decide) rfl rfl (by decide) (fun a b => ⟨a, b⟩) ?_
  refine Ev.mono (Ev.deep (by omega) (t_fillB (d := d) (c := 32) (L := 3) (R := 1) (v := 0) (n := p3) (BK_obj (x := (7, 4)) (by decide) rfl) (show rf (BK 33 31) 31 0 = some 32 by decide +kernel) (BK_obj (x := (100, 3)) (by decide) rfl) (by rw [m3 31 (by decide) (by decide), m2 31 (by decide) (by decide), m1 31 (by decide) (by decide), e31]; exact r14) (by decide) (by decide))) (fun r h' y => ?_)
  obtain ⟨y1, y2⟩ := y
  subst y1 y2
  generalize hp4 : wrow (upn p3 31 3 1) 32 0 ((3 : Nat) : Int) (fun _ => 0) = p4
  have m4 : ∀ u : Nat, u ≠ 31 → u ≠ 32 → p4 u = p3 u := fun u a b => by rw [← hp4, wrow_ne b, upn_ne a]
  have TWk : TW p4 31 3 1 ∧ p4 31 3 = 1 := by
    have k1 : ∀ i : Int, i ≠ 3 → p4 31 i = n14 31 i := fun i hi => by rw [← hp4, wrow_a (by decide), upn_i hi, m3 31 (by decide) (by decide), m2 31 (by decide) (by decide), m1 31 (by decide) (by decide)]
    have k3 : p4 31 3 = 1 := by rw [← hp4, wrow_a (by decide), upn_self]
    exact ⟨⟨(k1 1 (by decide)).trans w14, (k1 2 (by decide)).trans r14, by rw [k3]; decide, by rw [k3]; decide⟩, k3⟩
  refine r_aload_n dX1_init_236 rfl rfl ?_
  refine r_getR (b := 31) dX1_init_237 fX1_60 (BK_obj (x := (1, 14)) (by decide) hlk) (by decide) rfl (show rf (BK 33 31) 1 13 = some 31 by decide +kernel) ?_
  refine r_iconst (x := 0) dX1_init_240 rfl (by decide) ?_
  refine r_iconst (x := 0) dX1_init_241 rfl (by decide) ?_
  refine r_iconst (x := 2) dX1_init_242 rfl (by decide) ?_
  refine r_callV (mc := 0) (ms := 0) (ci := 7) (nf := 4) (a := 31) (args := [vi 0, vi 0, vi 2]) (st := []) dX1_init_243 kX1_66 (BK_obj (x := (7, 4)) (by decide) rfl) ⟨_, _, rfl⟩ (by decide) rfl rfl (by decide) (fun a b => ⟨a, b⟩) ?_
  refine Ev.mono (Ev.deep (by omega) (s_set (d := d) (c := 32) (L := 3) (n := p4) (BK_obj (x := (7, 4)) (by decide) rfl) (show rf (BK 33 31) 31 0 = some 32 by decide +kernel) (BK_obj (x := (100, 3)) (by decide) rfl) TWk.1 rfl (by decide) 0 0 2)) (fun r h' y => ?_)
  obtain ⟨y1, y2⟩ := y
  subst y1 y2
  rw [tset_eq TWk.1 (by decide) (by rw [TWk.2]; decide) (by decide), if_pos (by decide)]
  generalize hp5 : upn p4 32 (0 * 3 + 0) 2 = p5
  have m5 : ∀ u : Nat, u ≠ 32 → p5 u = p4 u := fun u a => by rw [← hp5, upn_ne a]
  have TW0 : TW p5 31 3 1 ∧ p5 31 3 = 1 := ⟨TWk.1.congr (m5 31 (by decide)), by rw [m5 31 (by decide)]; exact TWk.2⟩
  refine r_aload_n dX1_init_246 rfl rfl ?_
  refine r_getR (b := 31) dX1_init_247 fX1_60 (BK_obj (x := (1, 14)) (by decide) hlk) (by decide) rfl (show rf (BK 33 31) 1 13 = some 31 by decide +kernel) ?_
  refine r_iconst (x := 0) dX1_init_250 rfl (by decide) ?_
  refine r_iconst (x := 1) dX1_init_251 rfl (by decide) ?_
  refine r_bipush (x := 100) dX1_init_252 (by decide) (by decide) ?_
  refine r_callV (mc := 0) (ms := 0) (ci := 7) (nf := 4) (a := 31) (args := [vi 0, vi 1, vi 100]) (st := []) dX1_init_254 kX1_66 (BK_obj (x := (7, 4)) (by decide) rfl) ⟨_, _, rfl⟩ (by decide) rfl rfl (by decide) (fun a b => ⟨a, b⟩) ?_
  refine Ev.mono (Ev.deep (by omega) (s_set (d := d) (c := 32) (L := 3) (n := p5) (BK_obj (x := (7, 4)) (by decide) rfl) (show rf (BK 33 31) 31 0 = some 32 by decide +kernel) (BK_obj (x := (100, 3)) (by decide) rfl) TW0.1 rfl (by decide) 0 1 100)) (fun r h' y => ?_)
  obtain ⟨y1, y2⟩ := y
  subst y1 y2
  rw [tset_eq TW0.1 (by decide) (by rw [TW0.2]; decide) (by decide), if_pos (by decide)]
  generalize hp6 : upn p5 32 (0 * 3 + 1) 100 = p6
  have m6 : ∀ u : Nat, u ≠ 32 → p6 u = p5 u := fun u a => by rw [← hp6, upn_ne a]
  have TW1 : TW p6 31 3 1 ∧ p6 31 3 = 1 := ⟨TW0.1.congr (m6 31 (by decide)), by rw [m6 31 (by decide)]; exact TW0.2⟩
  refine r_aload_n dX1_init_257 rfl rfl ?_
  refine r_getR (b := 31) dX1_init_258 fX1_60 (BK_obj (x := (1, 14)) (by decide) hlk) (by decide) rfl (show rf (BK 33 31) 1 13 = some 31 by decide +kernel) ?_
  refine r_iconst (x := 0) dX1_init_261 rfl (by decide) ?_
  refine r_iconst (x := 2) dX1_init_262 rfl (by decide) ?_
  refine r_iconst (x := 1) dX1_init_263 rfl (by decide) ?_
  refine r_callV (mc := 0) (ms := 0) (ci := 7) (nf := 4) (a := 31) (args := [vi 0, vi 2, vi 1]) (st := []) dX1_init_264 kX1_66 (BK_obj (x := (7, 4)) (by decide) rfl) ⟨_, _, rfl⟩ (by decide) rfl rfl (by decide) (fun a b => ⟨a, b⟩) ?_
  refine Ev.mono (Ev.deep (by omega) (s_set (d := d) (c := 32) (L := 3) (n := p6) (BK_obj (x := (7, 4)) (by decide) rfl) (show rf (BK 33 31) 31 0 = some 32 by decide +kernel) (BK_obj (x := (100, 3)) (by decide) rfl) TW1.1 rfl (by decide) 0 2 1)) (fun r h' y => ?_)
  obtain ⟨y1, y2⟩ := y
  subst y1 y2
  rw [tset_eq TW1.1 (by decide) (by rw [TW1.2]; decide) (by decide), if_pos (by decide)]
  generalize hp7 : upn p6 32 (0 * 3 + 2) 1 = p7
  have m7 : ∀ u : Nat, u ≠ 32 → p7 u = p6 u := fun u a => by rw [← hp7, upn_ne a]
  have TW2 : TW p7 31 3 1 ∧ p7 31 3 = 1 := ⟨TW1.1.congr (m7 31 (by decide)), by rw [m7 31 (by decide)]; exact TW1.2⟩
  refine r_ret dX1_init_267 rfl ⟨⟨_, rfl, rfl, ?_⟩, rfl, ?_⟩
  · sorry
  · exact (show hu (BK 33 31) = hu (BK 2 0) + 1749 by decide +kernel)
end LAKEINIT
