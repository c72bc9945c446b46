section LINIT
variable {w : WD} {d : Nat}
theorem newT2 : NewAt RX2 22 7 := ⟨_, _, _, clk_7, gT_in (by decide +kernel) (by decide +kernel), gT_in (by decide +kernel) (by decide +kernel), gT_in (by decide +kernel) (by decide +kernel)⟩
theorem tyT : ∀ k, k < 4 → ftA 7 k = .int ∨ ftA 7 k = .boolean ∨ ftA 7 k = .long ∨ (∃ n, ftA 7 k = .object n) ∨ ∃ t, ftA 7 k = .array t
  | 0, _ => Or.inr (Or.inr (Or.inr (Or.inr ⟨_, rfl⟩)))
  | 1, _ => Or.inl rfl
  | 2, _ => Or.inl rfl
  | 3, _ => Or.inl rfl
  | k + 4, h => by omega
theorem hu_BK {k j : Nat} {x : HK} (hk : kindL[k]? = some x) : hu (BK (k + 1) j) = hu (BK k j) + x.2 := by
  show ((kindL.take (k + 1)).map (fun x => x.2)).sum = ((kindL.take k).map (fun x => x.2)).sum + x.2
  rw [take_succ1 hk, List.map_append, List.sum_append]
  show _ + (x.2 + 0) = _
  omega
theorem hu_BKj {k j j2 : Nat} : hu (BK k j) = hu (BK k j2) := rfl
theorem l_init {a j : Nat} {n : NM} (hk : kindL[a]? = some (2, 4)) (k1 : kindL[a + 1]? = some (100, 400)) (k2 : kindL[a + 2]? = some (100, 400)) (k3 : kindL[a + 3]? = some (7, 4)) (k4 : kindL[a + 4]? = some (100, 48)) (p0 : putsL[j]? = some (a, 0, a + 1)) (p1 : putsL[j + 1]? = some (a, 1, a + 2)) (p2 : putsL[j + 2]? = some (a + 3, 0, a + 4)) (p3 : putsL[j + 3]? = some (a, 3, a + 3)) (q0 : ∀ y, y ∈ putsL.take j → y.1 < a + 1) (q1 : ∀ y, y ∈ putsL.take (j + 1) → y.1 < a + 2) (q2 : ∀ y, y ∈ putsL.take (j + 2) → y.1 < a + 3) (z : ∀ t : Nat, a < t → ∀ i, n t i = 0) :
    Ev w (d + 2) 4 852 mX2_init [vr a] (BK (a + 1) j, n) (fun r h' => r = none ∧ h' = (BK (a + 5) (j + 4), upn (upn (upn (upn n a 2 0) (a + 3) 3 0) (a + 3) 2 12) (a + 3) 1 4)) := by
  refine Ev.of (by decide +kernel) (Nat.le_of_ble_eq_true rfl) rfl (fun ho G hcz hcu => ?_)
  have hcz : gcz G = a + 1 + 4 := hcz
  have hcu : gcu G = hu (BK (a + 1) j) + 852 := hcu
  have ob : ∀ (k j2 : Nat), a < k → Obj (BK k j2) a 2 4 := fun k j2 h => BK_obj (x := (2, 4)) h hk
  have n1 : newB (BK (a + 1) j) (100, 400) = BK (a + 2) j := newB_BK k1 q0
  have n2 : newB (BK (a + 2) (j + 1)) (100, 400) = BK (a + 3) (j + 1) := newB_BK k2 q1
  have n3 : newB (BK (a + 3) (j + 2)) (7, 4) = BK (a + 4) (j + 2) := newB_BK k3 q2
  have u1 : hu (BK (a + 2) j) = hu (BK (a + 1) j) + 400 := hu_BK k1
  have u2 : hu (BK (a + 3) j) = hu (BK (a + 2) j) + 400 := hu_BK k2
  have u3 : hu (BK (a + 4) j) = hu (BK (a + 3) j) + 4 := hu_BK k3
  have u4 : hu (BK (a + 5) j) = hu (BK (a + 4) j) + 48 := hu_BK k4
  refine r_aload_n dX2_init_0 rfl rfl ?_
  refine r_objInit dX2_init_1 kX2_3 (by decide) ?_
  refine r_aload_n dX2_init_4 rfl rfl ?_
  refine r_sipush (x := 400) dX2_init_5 (by decide) (by decide) ?_
  refine r_newaI (len := 400) dX2_init_8 arI rfl (by decide) (z _ (by show a < a + 1; omega)) (by rw [hcz]; show a + 1 + 1 ≤ _; omega) (by rw [hcu]; show _ ≤ hu (BK (a + 1) j) + 852; omega) ?_
  dsimp only
  rw [n1]
  refine r_putFR (b := a + 1) dX2_init_10 pfX2_9 rfl (ob _ _ (by omega)) (by decide) rfl ?_
  dsimp only
  rw [putB_BK p0]
  refine r_aload_n dX2_init_13 rfl rfl ?_
  refine r_sipush (x := 400) dX2_init_14 (by decide) (by decide) ?_
  refine r_newaI (len := 400) dX2_init_17 arI rfl (by decide) (z _ (by show a < a + 2; omega)) (by rw [hcz]; show a + 2 + 1 ≤ _; omega) (by rw [hcu]; show hu (BK (a + 2) j) + 400 ≤ _; omega) ?_
  dsimp only
  rw [n2]
  refine r_putFR (b := a + 2) dX2_init_19 pfX2_15 rfl (ob _ _ (by omega)) (by decide) rfl ?_
  dsimp only
  rw [putB_BK p1]
  refine r_aload_n dX2_init_22 rfl rfl ?_
  refine r_iconst (x := 0) dX2_init_23 rfl (by decide) ?_
  refine r_putI (h' := (BK (a + 3) (j + 2), upn n a 2 0)) dX2_init_24 pX2_18 (ob _ _ (by omega)) (by decide) rfl rfl rfl ?_
  refine r_aload_n dX2_init_27 rfl rfl ?_
  refine r_new (ci := 7) (nf := 4) dX2_init_28 newT2 ⟨_, rfl, rfl⟩ tyT (fun i => by show upn n a 2 0 (a + 3) i = 0; rw [upn_a (by omega)]; exact z _ (by omega) i) (by rw [hcz]; show a + 3 + 1 ≤ _; omega) (by rw [hcu]; show hu (BK (a + 3) j) + 4 ≤ _; omega) ?_
  dsimp only
  rw [n3]
  refine r_dup dX2_init_31 rfl ?_
  refine r_bipush (x := 12) dX2_init_32 (by decide) (by decide) ?_
  refine r_iconst (x := 4) dX2_init_34 rfl (by decide) ?_
  refine r_callI (mc := 1) (ms := 48) (a := a + 3) (args := [vi 12, vi 4]) (st := [vr (a + 3), vr a]) dX2_init_35 kX2_24 rfl rfl (Nat.le_of_ble_eq_true rfl) (fun _ _ => ⟨by rw [hcz]; show a + 4 + 1 ≤ _; omega, by rw [hcu]; show hu (BK (a + 4) j) + 48 ≤ _; omega⟩) ?_
  refine Ev.mono (t_init (d := d) (a := a + 3) (j := j + 2) (L := 48) (W := 4) (R := 12) k3 k4 p2 (fun y hy => by have := q2 y hy; omega) (by decide) (by decide) rfl (by decide) (fun i => by rw [upn_a (by omega)]; exact z _ (by omega) i)) (fun r h' y => ?_)
  obtain ⟨y1, y2⟩ := y
  subst y1 y2
  refine r_putFR (b := a + 3) dX2_init_38 pfX2_27 rfl (ob _ _ (by omega)) (by decide) rfl ?_
  dsimp only
  rw [putB_BK p3]
  refine r_ret dX2_init_41 rfl ⟨⟨rfl, rfl⟩, rfl, ?_⟩
  show hu (BK (a + 5) j) = hu (BK (a + 1) j) + 852
  omega
end LINIT
