section TINIT
variable {w : WD} {d : Nat}
theorem arI : Cond.arrayClass .int ∈ gT := gT_in (by decide +kernel) (by decide +kernel)
theorem BK_hz {k j : Nat} : hz (BK k j) = k := rfl
theorem t_init {a j L : Nat} {W R : Int} {n : NM} (hk : kindL[a]? = some (7, 4)) (hk1 : kindL[a + 1]? = some (100, L)) (hj : putsL[j]? = some (a, 0, a + 1)) (hp : ∀ y, y ∈ putsL.take j → y.1 < a + 1) (hW : 1 ≤ W ∧ W ≤ 1000) (hR : 1 ≤ R ∧ R ≤ 1000) (hL : R * W = (L : Int)) (hle : L ≤ 100000) (z : ∀ i, n (a + 1) i = 0) :
    Ev w (d + 1) 1 L mX7_init [vr a, vi R, vi W] (BK (a + 1) j, n) (fun r h' => r = none ∧ h' = (BK (a + 2) (j + 1), upn (upn (upn n a 3 0) a 2 R) a 1 W)) := by
  refine Ev.of (by decide +kernel) (Nat.le_of_ble_eq_true rfl) rfl (fun ho G hcz hcu => ?_)
  have o1 : Obj (BK (a + 1) j) a 7 4 := BK_obj (x := (7, 4)) (by omega) hk
  have nb : newB (BK (a + 1) j) (100, L) = BK (a + 2) j := newB_BK hk1 hp
  have hum : hu (BK (a + 2) j) = hu (BK (a + 1) j) + L := by
    rw [← nb]
    rfl
  have o2 : Obj (BK (a + 2) j) a 7 4 := BK_obj (x := (7, 4)) (by omega) hk
  refine r_aload_n dX7_init_0 rfl rfl ?_
  refine r_objInit dX7_init_1 kX7_3 (by decide) ?_
  refine r_aload_n dX7_init_4 rfl rfl ?_
  refine r_iconst (x := 0) dX7_init_5 rfl (by decide) ?_
  refine r_putI (h' := (BK (a + 1) j, upn n a 3 0)) dX7_init_6 pX7_9 o1 (by decide) rfl rfl rfl ?_
  refine r_aload_n dX7_init_9 rfl rfl ?_
  refine r_iload_n dX7_init_10 rfl rfl ?_
  refine r_iconst (x := 1) dX7_init_11 rfl (by decide) ?_
  refine r_mmax dX7_init_12 kX7_15 (Nat.le_of_ble_eq_true rfl) ?_
  rw [show max R 1 = R by omega]
  refine r_putFI (h' := (BK (a + 1) j, upn (upn n a 3 0) a 2 R)) dX7_init_15 pfX7_21 rfl o1 (by decide) rfl rfl rfl ?_
  refine r_aload_n dX7_init_18 rfl rfl ?_
  refine r_iload_n dX7_init_19 rfl rfl ?_
  refine r_iconst (x := 1) dX7_init_20 rfl (by decide) ?_
  refine r_mmax dX7_init_21 kX7_15 (Nat.le_of_ble_eq_true rfl) ?_
  rw [show max W 1 = W by omega]
  refine r_putFI (h' := (BK (a + 1) j, upn (upn (upn n a 3 0) a 2 R) a 1 W)) dX7_init_24 pfX7_24 rfl o1 (by decide) rfl rfl rfl ?_
  have e2 : (upn (upn (upn n a 3 0) a 2 R) a 1 W) a 2 = R := by rw [upn_i (by decide), upn_self]
  have e1 : (upn (upn (upn n a 3 0) a 2 R) a 1 W) a 1 = W := upn_self _ _ _ _
  have z3 : ∀ i, (upn (upn (upn n a 3 0) a 2 R) a 1 W) (a + 1) i = 0 := fun i => by
    rw [upn_a (by omega), upn_a (by omega), upn_a (by omega)]
    exact z i
  generalize upn (upn (upn n a 3 0) a 2 R) a 1 W = n3 at e1 e2 z3 ⊢
  refine r_aload_n dX7_init_27 rfl rfl ?_
  refine r_aload_n dX7_init_28 rfl rfl ?_
  refine r_getI (fi := 2) dX7_init_29 fX7_21 o1 (by decide) (Or.inl rfl) rfl ?_
  refine r_aload_n dX7_init_32 rfl rfl ?_
  refine r_getI (fi := 1) dX7_init_33 fX7_24 o1 (by decide) (Or.inl rfl) rfl ?_
  dsimp only
  rw [e1, e2]
  refine r_imul dX7_init_36 ⟨by omega, by omega⟩ ?_
  refine r_newaI (len := L) dX7_init_37 arI hL hle z3 (by rw [hcz]; exact Nat.le_refl _) (by rw [hcu]; exact Nat.le_refl _) ?_
  dsimp only
  rw [nb]
  refine r_putFR (b := a + 1) dX7_init_39 pfX7_27 rfl o2 (by decide) rfl ?_
  dsimp only
  rw [putB_BK hj]
  refine r_ret dX7_init_42 rfl ⟨⟨rfl, rfl⟩, rfl, ?_⟩
  exact hum
end TINIT
