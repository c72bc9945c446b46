section NKS
def numL : List (Nat × Int × Int × Int) := [(2, 3, 4, 0), (2, 2, 3, 60), (2, 1, 2, 3), (4, 3, 4, 0), (4, 2, 3, 12), (4, 1, 2, 4), (6, 3, 4, 0), (6, 2, 3, 12), (6, 1, 2, 4), (8, 3, 4, 0), (8, 2, 3, 12), (8, 1, 2, 2), (10, 3, 4, 0), (10, 2, 3, 12), (10, 1, 2, 1), (12, 3, 4, 0), (12, 2, 3, 20), (12, 1, 2, 3), (14, 3, 4, 0), (14, 2, 3, 40), (14, 1, 2, 7), (16, 2, 3, 0), (19, 3, 4, 0), (19, 2, 3, 12), (19, 1, 2, 4), (21, 3, 4, 0), (21, 2, 3, 6), (21, 1, 2, 3), (23, 3, 4, 0), (23, 2, 3, 12), (23, 1, 2, 4), (25, 3, 4, 0), (25, 2, 3, 10), (25, 1, 2, 4), (27, 3, 4, 0), (27, 2, 3, 30), (27, 1, 2, 2), (29, 3, 4, 0), (29, 2, 3, 10), (29, 1, 2, 2), (31, 3, 4, 0), (31, 2, 3, 1), (31, 1, 2, 3), (2, 3, 4, 60), (3, 0, 180, 0), (27, 3, 4, 30), (28, 0, 60, 0), (29, 3, 4, 10), (30, 0, 20, 1), (31, 3, 4, 1), (32, 0, 3, 0), (32, 0, 1, 2), (32, 1, 2, 100), (32, 2, 3, 1), (35, 1, 2, 0), (38, 3, 4, 0), (42, 2, 3, 0), (45, 3, 4, 0), (45, 2, 3, 12), (45, 1, 2, 4), (37, 2, 3, 0), (37, 3, 4, 0), (37, 4, 5, -1), (47, 1, 2, 0), (47, 2, 3, 0), (47, 5, 6, 0), (53, 1, 2, 0), (55, 1, 2, 0), (57, 1, 2, 0), (59, 1, 2, 0), (61, 1, 2, 0), (63, 1, 2, 0), (65, 1, 2, 0), (67, 1, 2, 0), (69, 1, 2, 0), (71, 1, 2, 0), (78, 3, 4, 0), (78, 2, 3, 12), (78, 1, 2, 3), (77, 1, 2, 0), (77, 2, 3, 0), (0, 10, 11, 0), (0, 11, 12, -1), (0, 12, 13, 0), (82, 3, 4, 0), (82, 2, 3, 60), (82, 1, 2, 3), (84, 3, 4, 0), (84, 2, 3, 12), (84, 1, 2, 4), (86, 3, 4, 0), (86, 2, 3, 12), (86, 1, 2, 4), (88, 3, 4, 0), (88, 2, 3, 12), (88, 1, 2, 2), (90, 3, 4, 0), (90, 2, 3, 12), (90, 1, 2, 1), (92, 3, 4, 0), (92, 2, 3, 20), (92, 1, 2, 3), (94, 3, 4, 0), (94, 2, 3, 40), (94, 1, 2, 7), (96, 2, 3, 0), (99, 3, 4, 0), (99, 2, 3, 12), (99, 1, 2, 4), (101, 3, 4, 0), (101, 2, 3, 6), (101, 1, 2, 3), (103, 3, 4, 0), (103, 2, 3, 12), (103, 1, 2, 4), (105, 3, 4, 0), (105, 2, 3, 10), (105, 1, 2, 4), (107, 3, 4, 0), (107, 2, 3, 30), (107, 1, 2, 2), (109, 3, 4, 0), (109, 2, 3, 10), (109, 1, 2, 2), (111, 3, 4, 0), (111, 2, 3, 1), (111, 1, 2, 3), (82, 3, 4, 60), (83, 0, 180, 0), (107, 3, 4, 30), (108, 0, 60, 0), (109, 3, 4, 10), (110, 0, 20, 1), (111, 3, 4, 1), (112, 0, 3, 0), (112, 0, 1, 2), (112, 1, 2, 100), (112, 2, 3, 1), (114, 3, 4, 0), (114, 2, 3, 60), (114, 1, 2, 3), (116, 3, 4, 0), (116, 2, 3, 12), (116, 1, 2, 4), (118, 3, 4, 0), (118, 2, 3, 12), (118, 1, 2, 4), (120, 3, 4, 0), (120, 2, 3, 12), (120, 1, 2, 2), (122, 3, 4, 0), (122, 2, 3, 12), (122, 1, 2, 1), (124, 3, 4, 0), (124, 2, 3, 20), (124, 1, 2, 3), (126, 3, 4, 0), (126, 2, 3, 40), (126, 1, 2, 7), (128, 2, 3, 0), (131, 3, 4, 0), (131, 2, 3, 12), (131, 1, 2, 4), (133, 3, 4, 0), (133, 2, 3, 6), (133, 1, 2, 3), (135, 3, 4, 0), (135, 2, 3, 12), (135, 1, 2, 4), (137, 3, 4, 0), (137, 2, 3, 10), (137, 1, 2, 4), (139, 3, 4, 0), (139, 2, 3, 30), (139, 1, 2, 2), (141, 3, 4, 0), (141, 2, 3, 10), (141, 1, 2, 2), (143, 3, 4, 0), (143, 2, 3, 1), (143, 1, 2, 3), (114, 3, 4, 60), (115, 0, 180, 0), (139, 3, 4, 30), (140, 0, 60, 0), (141, 3, 4, 10), (142, 0, 20, 1), (143, 3, 4, 1), (144, 0, 3, 0), (144, 0, 1, 2), (144, 1, 2, 100), (144, 2, 3, 1), (145, 13, 14, -1), (145, 37, 38, -1), (147, 10, 11, 2), (147, 11, 12, 100), (147, 12, 13, 1), (147, 870, 871, 1), (147, 871, 872, 1), (147, 872, 873, 1), (147, 873, 874, 1), (147, 874, 875, 1), (147, 875, 876, 1), (147, 876, 877, 1), (147, 877, 878, 1), (147, 878, 879, 1), (147, 879, 880, 1), (147, 880, 881, 1), (147, 881, 882, 1), (147, 882, 883, 1), (147, 883, 884, 1), (147, 884, 885, 1), (147, 885, 886, 1), (147, 886, 887, 1), (147, 887, 888, 1), (147, 888, 889, 1), (147, 889, 890, 1)]
def nuS (g : NM) (x : Nat × Int × Int × Int) : NM := fun b j => if b = x.1 ∧ x.2.1 ≤ j ∧ j < x.2.2.1 then x.2.2.2 else g b j
def nuP (L : List (Nat × Int × Int × Int)) : NM := L.foldl nuS (fun _ _ => 0)
/-- the numbers after i writes -/
def NK (i : Nat) : NM := nuP (numL.take i)
theorem nuP_none {b : Nat} {j : Int} : ∀ (L : List (Nat × Int × Int × Int)) (g : NM), (∀ y, y ∈ L → y.1 ≠ b) → L.foldl nuS g b j = g b j
  | [], _, _ => rfl
  | x :: L, g, h => by
    show L.foldl nuS (nuS g x) b j = g b j
    rw [nuP_none L _ (fun y hy => h y (List.mem_cons_of_mem _ hy))]
    unfold nuS
    rw [if_neg (fun z => h x (List.mem_cons_self ..) z.1.symm)]
theorem NK_zero {i a : Nat} (h : ∀ y, y ∈ numL.take i → y.1 ≠ a) (j : Int) : NK i a j = 0 := nuP_none (numL.take i) (fun _ _ => 0) h
theorem NK_next {i : Nat} {x : Nat × Int × Int × Int} (h : numL[i]? = some x) : NK (i + 1) = nuS (NK i) x := by
  have e : numL.take (i + 1) = numL.take i ++ [x] := by
    rw [List.take_add_one, h]
    rfl
  unfold NK nuP
  rw [e, List.foldl_append]
  rfl
theorem upn_NK {i a : Nat} {f v : Int} (h : numL[i]? = some (a, f, f + 1, v)) : upn (NK i) a f v = NK (i + 1) := by
  rw [NK_next h]
  funext b j
  unfold upn nuS
  by_cases q : b = a ∧ j = f
  · rw [if_pos q, if_pos ⟨q.1, by show f ≤ j; omega, by show j < f + 1; omega⟩]
  · rw [if_neg q, if_neg (fun z => q ⟨z.1, by have h1 : f ≤ j := z.2.1; have h2 : j < f + 1 := z.2.2; omega⟩)]
theorem wrow_NK {i c : Nat} {L v : Int} (h : numL[i]? = some (c, 0, L, v)) : wrow (NK i) c 0 L (fun _ => v) = NK (i + 1) := by
  rw [NK_next h]
  funext b j
  unfold wrow nuS
  by_cases q : b = c ∧ 0 ≤ j ∧ j < 0 + L
  · rw [if_pos q, if_pos ⟨q.1, q.2.1, by have := q.2.2; show j < L; omega⟩]
  · rw [if_neg q, if_neg (fun z => q ⟨z.1, z.2.1, by have h2 : j < L := z.2.2; omega⟩)]
variable {w : WD} {d : Nat}
theorem arJ : Cond.arrayClass .long ∈ gT := gT_in (by decide +kernel) (by decide +kernel)
theorem arZ : Cond.arrayClass .boolean ∈ gT := gT_in (by decide +kernel) (by decide +kernel)
theorem tK {a j i L : Nat} {W R : Int} (hk : kindL[a]? = some (7, 4)) (hk1 : kindL[a + 1]? = some (100, L)) (hj : putsL[j]? = some (a, 0, a + 1)) (hp : ∀ y, y ∈ putsL.take j → y.1 < a + 1) (hW : 1 ≤ W ∧ W ≤ 1000) (hR : 1 ≤ R ∧ R ≤ 1000) (hL : R * W = (L : Int)) (hle : L ≤ 100000) (z : ∀ y, y ∈ numL.take i → y.1 ≠ a + 1) (e0 : numL[i]? = some (a, 3, 3 + 1, 0)) (e1 : numL[i + 1]? = some (a, 2, 2 + 1, R)) (e2 : numL[i + 2]? = some (a, 1, 1 + 1, W)) :
    Ev w (d + 1) 1 L mX7_init [vr a, vi R, vi W] (BK (a + 1) j, NK i) (fun r h' => r = none ∧ h' = (BK (a + 2) (j + 1), NK (i + 3))) := by
  have := t_init (w := w) (d := d) (n := NK i) hk hk1 hj hp hW hR hL hle (NK_zero z)
  rw [upn_NK e0, upn_NK e1, upn_NK e2] at this
  exact this
theorem lK {a j i : Nat} (hk : kindL[a]? = some (2, 4)) (k1 : kindL[a + 1]? = some (100, 400)) (k2 : kindL[a + 2]? = some (100, 400)) (k3 : kindL[a + 3]? = some (7, 4)) (k4 : kindL[a + 4]? = some (100, 48)) (p0 : putsL[j]? = some (a, 0, a + 1)) (p1 : putsL[j + 1]? = some (a, 1, a + 2)) (p2 : putsL[j + 2]? = some (a + 3, 0, a + 4)) (p3 : putsL[j + 3]? = some (a, 3, a + 3)) (q0 : ∀ y, y ∈ putsL.take j → y.1 < a + 1) (q1 : ∀ y, y ∈ putsL.take (j + 1) → y.1 < a + 2) (q2 : ∀ y, y ∈ putsL.take (j + 2) → y.1 < a + 3) (z : ∀ y, y ∈ numL.take i → y.1 ≤ a) (e0 : numL[i]? = some (a, 2, 2 + 1, 0)) (e1 : numL[i + 1]? = some (a + 3, 3, 3 + 1, 0)) (e2 : numL[i + 2]? = some (a + 3, 2, 2 + 1, 12)) (e3 : numL[i + 3]? = some (a + 3, 1, 1 + 1, 4)) :
    Ev w (d + 2) 4 852 mX2_init [vr a] (BK (a + 1) j, NK i) (fun r h' => r = none ∧ h' = (BK (a + 5) (j + 4), NK (i + 4))) := by
  have := l_init (w := w) (d := d) (n := NK i) hk k1 k2 k3 k4 p0 p1 p2 p3 q0 q1 q2 (fun t ht => NK_zero (fun y hy => by have := z y hy; omega))
  rw [upn_NK e0, upn_NK e1, upn_NK e2, upn_NK e3] at this
  exact this
theorem nK {a j i : Nat} (hk : kindL[a]? = some (4, 2)) (hk1 : kindL[a + 1]? = some (101, 64)) (hj : putsL[j]? = some (a, 0, a + 1)) (hp : ∀ y, y ∈ putsL.take j → y.1 < a + 1) (z : ∀ y, y ∈ numL.take i → y.1 ≠ a + 1) (e0 : numL[i]? = some (a, 1, 1 + 1, 0)) :
    Ev w (d + 1) 1 64 mX4_init [vr a] (BK (a + 1) j, NK i) (fun r h' => r = none ∧ h' = (BK (a + 2) (j + 1), NK (i + 1))) := by
  refine Ev.of (by decide +kernel) (Nat.le_of_ble_eq_true rfl) rfl (fun ho G hcz hcu => ?_)
  have hcz : gcz G = a + 1 + 1 := hcz
  have hcu : gcu G = hu (BK (a + 1) j) + 64 := hcu
  have nb : newB (BK (a + 1) j) (101, 64) = BK (a + 2) j := newB_BK hk1 hp
  have hum : hu (BK (a + 2) j) = hu (BK (a + 1) j) + 64 := by
    rw [← nb]
    rfl
  refine r_aload_n dX4_init_0 rfl rfl ?_
  refine r_objInit dX4_init_1 kX4_1 (by decide) ?_
  refine r_aload_n dX4_init_4 rfl rfl ?_
  refine r_bipush (x := 64) dX4_init_5 (by decide) (by decide) ?_
  refine r_newaJ (len := 64) dX4_init_7 arJ rfl (by decide) (NK_zero z) (by rw [hcz]; exact Nat.le_refl _) (by rw [hcu]; exact Nat.le_refl _) ?_
  dsimp only
  rw [nb]
  refine r_putFR (b := a + 1) dX4_init_9 pfX4_9 rfl (BK_obj (x := (4, 2)) (by omega) hk) (by decide) rfl ?_
  dsimp only
  rw [putB_BK hj]
  refine r_aload_n dX4_init_12 rfl rfl ?_
  refine r_iconst (x := 0) dX4_init_13 rfl (by decide) ?_
  refine r_putI (h' := (BK (a + 2) (j + 1), upn (NK i) a 1 0)) dX4_init_14 pX4_13 (BK_obj (x := (4, 2)) (by omega) hk) (by decide) rfl rfl rfl ?_
  rw [upn_NK e0]
  refine r_ret dX4_init_17 rfl ⟨⟨rfl, rfl⟩, rfl, ?_⟩
  exact hum
theorem fK {B : HB} {t c i L : Nat} {R v : Int} (ot : Obj B t 7 4) (rt : rf B t 0 = some c) (oc : Obj B c 100 L) (hR : NK i t 2 = R) (h0 : 0 ≤ R) (hL : L ≤ 100000) (e0 : numL[i]? = some (t, 3, 3 + 1, R)) (e1 : numL[i + 1]? = some (c, 0, (L : Int), v)) : EV w (d + 3) mX7_fill [vr t, vi R, vi v] B (NK i) (NK (i + 2)) := by
  have fa : EV w (d + 2) mJ7_fill_53178 [vr c, vi v] B (upn (NK i) t 3 R) (wrow (upn (NK i) t 3 R) c 0 (L : Int) (fun _ => v)) := by
    refine EV.of (by decide +kernel) (Nat.le_of_ble_eq_true rfl) rfl (fun _ G => gJ7_fill_53178_0 oc ⟨⟨by omega, by omega⟩, ?_⟩)
    have := s_fillL (w := w) (d := d + 2) (G := G) (n := upn (NK i) t 3 R) (x := v) oc (by omega) L 0 (Nat.zero_add _)
    rw [show wrow (upn (NK i) t 3 R) c 0 ((0 : Nat) : Int) (fun _ => v) = upn (NK i) t 3 R from wrow_0] at this
    exact this
  rw [show NK (i + 2) = wrow (upn (NK i) t 3 R) c 0 (L : Int) (fun _ => v) by rw [upn_NK e0, wrow_NK e1]]
  refine EV.of (by decide +kernel) (Nat.le_of_ble_eq_true rfl) rfl (fun _ G => gX7_fill_0 ot (c := c) rt oc ?_)
  rw [hR, show max 0 (min R R) = R by omega]
  exact EV.use fa ⟨rfl, rfl⟩
theorem sK {B : HB} {t c i L : Nat} {W R x y v q : Int} (ot : Obj B t 7 4) (rt : rf B t 0 = some c) (oc : Obj B c 100 L) (a1 : NK i t 1 = W) (a2 : NK i t 2 = R) (a3 : 0 ≤ NK i t 3) (a4 : NK i t 3 ≤ R) (hL : R * W = (L : Int)) (hL2 : (L : Int) ≤ 100000) (h0 : 0 ≤ x) (h1 : x < NK i t 3) (h2 : 0 ≤ y) (h3 : y < W) (hq : x * W + y = q) (e : numL[i]? = some (c, q, q + 1, v)) : EV w (d + 1) mX7_set [vr t, vi x, vi y, vi v] B (NK i) (NK (i + 1)) := by
  have hT : TW (NK i) t W R := ⟨a1, a2, a3, a4⟩
  have := s_set (w := w) (d := d) ot rt oc hT hL hL2 x y v
  rw [tset_eq hT h0 h1 h2, if_pos h3, hq, upn_NK e] at this
  exact this
theorem tyf0 : ∀ k, k < 6 → ftA 0 k = .int ∨ ftA 0 k = .boolean ∨ ftA 0 k = .long ∨ (∃ n, ftA 0 k = .object n) ∨ ∃ t, ftA 0 k = .array t
  | 0, _ => Or.inr (Or.inr (Or.inr (Or.inr ⟨_, rfl⟩)))
  | 1, _ => Or.inl rfl
  | 2, _ => Or.inr (Or.inl rfl)
  | 3, _ => Or.inr (Or.inr (Or.inr (Or.inr ⟨_, rfl⟩)))
  | 4, _ => Or.inr (Or.inr (Or.inr (Or.inr ⟨_, rfl⟩)))
  | 5, _ => Or.inl rfl
  | k + 6, h => by omega
theorem tyf1 : ∀ k, k < 14 → ftA 1 k = .int ∨ ftA 1 k = .boolean ∨ ftA 1 k = .long ∨ (∃ n, ftA 1 k = .object n) ∨ ∃ t, ftA 1 k = .array t
  | 0, _ => Or.inr (Or.inr (Or.inr (Or.inl ⟨_, rfl⟩)))
  | 1, _ => Or.inr (Or.inr (Or.inr (Or.inl ⟨_, rfl⟩)))
  | 2, _ => Or.inr (Or.inr (Or.inr (Or.inl ⟨_, rfl⟩)))
  | 3, _ => Or.inr (Or.inr (Or.inr (Or.inl ⟨_, rfl⟩)))
  | 4, _ => Or.inr (Or.inr (Or.inr (Or.inl ⟨_, rfl⟩)))
  | 5, _ => Or.inr (Or.inr (Or.inr (Or.inl ⟨_, rfl⟩)))
  | 6, _ => Or.inr (Or.inr (Or.inr (Or.inl ⟨_, rfl⟩)))
  | 7, _ => Or.inr (Or.inr (Or.inr (Or.inl ⟨_, rfl⟩)))
  | 8, _ => Or.inr (Or.inr (Or.inr (Or.inl ⟨_, rfl⟩)))
  | 9, _ => Or.inr (Or.inr (Or.inr (Or.inl ⟨_, rfl⟩)))
  | 10, _ => Or.inr (Or.inr (Or.inr (Or.inl ⟨_, rfl⟩)))
  | 11, _ => Or.inr (Or.inr (Or.inr (Or.inl ⟨_, rfl⟩)))
  | 12, _ => Or.inr (Or.inr (Or.inr (Or.inl ⟨_, rfl⟩)))
  | 13, _ => Or.inr (Or.inr (Or.inr (Or.inl ⟨_, rfl⟩)))
  | k + 14, h => by omega
theorem tyf2 : ∀ k, k < 4 → ftA 2 k = .int ∨ ftA 2 k = .boolean ∨ ftA 2 k = .long ∨ (∃ n, ftA 2 k = .object n) ∨ ∃ t, ftA 2 k = .array t
  | 0, _ => Or.inr (Or.inr (Or.inr (Or.inr ⟨_, rfl⟩)))
  | 1, _ => Or.inr (Or.inr (Or.inr (Or.inr ⟨_, rfl⟩)))
  | 2, _ => Or.inl rfl
  | 3, _ => Or.inr (Or.inr (Or.inr (Or.inl ⟨_, rfl⟩)))
  | k + 4, h => by omega
theorem tyf3 : ∀ k, k < 5 → ftA 3 k = .int ∨ ftA 3 k = .boolean ∨ ftA 3 k = .long ∨ (∃ n, ftA 3 k = .object n) ∨ ∃ t, ftA 3 k = .array t
  | 0, _ => Or.inr (Or.inr (Or.inr (Or.inl ⟨_, rfl⟩)))
  | 1, _ => Or.inr (Or.inr (Or.inr (Or.inl ⟨_, rfl⟩)))
  | 2, _ => Or.inl rfl
  | 3, _ => Or.inl rfl
  | 4, _ => Or.inl rfl
  | k + 5, h => by omega
theorem tyf4 : ∀ k, k < 2 → ftA 4 k = .int ∨ ftA 4 k = .boolean ∨ ftA 4 k = .long ∨ (∃ n, ftA 4 k = .object n) ∨ ∃ t, ftA 4 k = .array t
  | 0, _ => Or.inr (Or.inr (Or.inr (Or.inr ⟨_, rfl⟩)))
  | 1, _ => Or.inl rfl
  | k + 2, h => by omega
theorem tyf5 : ∀ k, k < 3 → ftA 5 k = .int ∨ ftA 5 k = .boolean ∨ ftA 5 k = .long ∨ (∃ n, ftA 5 k = .object n) ∨ ∃ t, ftA 5 k = .array t
  | 0, _ => Or.inr (Or.inr (Or.inr (Or.inr ⟨_, rfl⟩)))
  | 1, _ => Or.inr (Or.inr (Or.inr (Or.inr ⟨_, rfl⟩)))
  | 2, _ => Or.inr (Or.inr (Or.inr (Or.inr ⟨_, rfl⟩)))
  | k + 3, h => by omega
theorem tyf6 : ∀ k, k < 5 → ftA 6 k = .int ∨ ftA 6 k = .boolean ∨ ftA 6 k = .long ∨ (∃ n, ftA 6 k = .object n) ∨ ∃ t, ftA 6 k = .array t
  | 0, _ => Or.inr (Or.inr (Or.inr (Or.inr ⟨_, rfl⟩)))
  | 1, _ => Or.inr (Or.inr (Or.inr (Or.inl ⟨_, rfl⟩)))
  | 2, _ => Or.inr (Or.inr (Or.inr (Or.inl ⟨_, rfl⟩)))
  | 3, _ => Or.inr (Or.inr (Or.inr (Or.inl ⟨_, rfl⟩)))
  | 4, _ => Or.inr (Or.inr (Or.inr (Or.inl ⟨_, rfl⟩)))
  | k + 5, h => by omega
theorem tyf7 : ∀ k, k < 4 → ftA 7 k = .int ∨ ftA 7 k = .boolean ∨ ftA 7 k = .long ∨ (∃ n, ftA 7 k = .object n) ∨ ∃ t, ftA 7 k = .array t
  | 0, _ => Or.inr (Or.inr (Or.inr (Or.inr ⟨_, rfl⟩)))
  | 1, _ => Or.inl rfl
  | 2, _ => Or.inl rfl
  | 3, _ => Or.inl rfl
  | k + 4, h => by omega
theorem tyf8 : ∀ k, k < 2 → ftA 8 k = .int ∨ ftA 8 k = .boolean ∨ ftA 8 k = .long ∨ (∃ n, ftA 8 k = .object n) ∨ ∃ t, ftA 8 k = .array t
  | 0, _ => Or.inr (Or.inr (Or.inr (Or.inr ⟨_, rfl⟩)))
  | 1, _ => Or.inl rfl
  | k + 2, h => by omega
theorem tyf9 : ∀ k, k < 4 → ftA 9 k = .int ∨ ftA 9 k = .boolean ∨ ftA 9 k = .long ∨ (∃ n, ftA 9 k = .object n) ∨ ∃ t, ftA 9 k = .array t
  | 0, _ => Or.inr (Or.inr (Or.inr (Or.inr ⟨_, rfl⟩)))
  | 1, _ => Or.inr (Or.inr (Or.inr (Or.inr ⟨_, rfl⟩)))
  | 2, _ => Or.inr (Or.inr (Or.inr (Or.inr ⟨_, rfl⟩)))
  | 3, _ => Or.inl rfl
  | k + 4, h => by omega
theorem tyf10 : ∀ k, k < 3 → ftA 10 k = .int ∨ ftA 10 k = .boolean ∨ ftA 10 k = .long ∨ (∃ n, ftA 10 k = .object n) ∨ ∃ t, ftA 10 k = .array t
  | 0, _ => Or.inr (Or.inr (Or.inr (Or.inl ⟨_, rfl⟩)))
  | 1, _ => Or.inr (Or.inl rfl)
  | 2, _ => Or.inl rfl
  | k + 3, h => by omega
theorem nwRX11_7 : NewAt RX11 7 1 := ⟨_, _, _, clk_1, gT_in (by decide +kernel) (by decide +kernel), gT_in (by decide +kernel) (by decide +kernel), gT_in (by decide +kernel) (by decide +kernel)⟩
theorem nwRX1_9 : NewAt RX1 9 7 := ⟨_, _, _, clk_7, gT_in (by decide +kernel) (by decide +kernel), gT_in (by decide +kernel) (by decide +kernel), gT_in (by decide +kernel) (by decide +kernel)⟩
theorem nwRX1_38 : NewAt RX1 38 2 := ⟨_, _, _, clk_2, gT_in (by decide +kernel) (by decide +kernel), gT_in (by decide +kernel) (by decide +kernel), gT_in (by decide +kernel) (by decide +kernel)⟩
theorem nwRX11_24 : NewAt RX11 24 8 := ⟨_, _, _, clk_8, gT_in (by decide +kernel) (by decide +kernel), gT_in (by decide +kernel) (by decide +kernel), gT_in (by decide +kernel) (by decide +kernel)⟩
theorem nwRX11_31 : NewAt RX11 31 3 := ⟨_, _, _, clk_3, gT_in (by decide +kernel) (by decide +kernel), gT_in (by decide +kernel) (by decide +kernel), gT_in (by decide +kernel) (by decide +kernel)⟩
theorem nwRX3_9 : NewAt RX3 9 9 := ⟨_, _, _, clk_9, gT_in (by decide +kernel) (by decide +kernel), gT_in (by decide +kernel) (by decide +kernel), gT_in (by decide +kernel) (by decide +kernel)⟩
theorem nwRX3_18 : NewAt RX3 18 2 := ⟨_, _, _, clk_2, gT_in (by decide +kernel) (by decide +kernel), gT_in (by decide +kernel) (by decide +kernel), gT_in (by decide +kernel) (by decide +kernel)⟩
theorem nwRX11_38 : NewAt RX11 38 0 := ⟨_, _, _, clk_0, gT_in (by decide +kernel) (by decide +kernel), gT_in (by decide +kernel) (by decide +kernel), gT_in (by decide +kernel) (by decide +kernel)⟩
theorem nwRX11_45 : NewAt RX11 45 6 := ⟨_, _, _, clk_6, gT_in (by decide +kernel) (by decide +kernel), gT_in (by decide +kernel) (by decide +kernel), gT_in (by decide +kernel) (by decide +kernel)⟩
theorem nwRX6_9 : NewAt RX6 9 4 := ⟨_, _, _, clk_4, gT_in (by decide +kernel) (by decide +kernel), gT_in (by decide +kernel) (by decide +kernel), gT_in (by decide +kernel) (by decide +kernel)⟩
theorem nwRX11_52 : NewAt RX11 52 5 := ⟨_, _, _, clk_5, gT_in (by decide +kernel) (by decide +kernel), gT_in (by decide +kernel) (by decide +kernel), gT_in (by decide +kernel) (by decide +kernel)⟩
theorem nwRX11_59 : NewAt RX11 59 10 := ⟨_, _, _, clk_10, gT_in (by decide +kernel) (by decide +kernel), gT_in (by decide +kernel) (by decide +kernel), gT_in (by decide +kernel) (by decide +kernel)⟩
theorem nwRX10_9 : NewAt RX10 9 7 := ⟨_, _, _, clk_7, gT_in (by decide +kernel) (by decide +kernel), gT_in (by decide +kernel) (by decide +kernel), gT_in (by decide +kernel) (by decide +kernel)⟩
end NKS
