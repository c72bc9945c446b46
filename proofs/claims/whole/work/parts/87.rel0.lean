section REL0
theorem nuP_off {b : Nat} {j : Int} : ∀ (L : List (Nat × Int × Int × Int)) (g : NM), (∀ y, y ∈ L → y.1 = b → ¬ (y.2.1 ≤ j ∧ j < y.2.2.1)) → L.foldl nuS g b j = g b j
  | [], _, _ => rfl
  | x :: L, g, h => by
    show L.foldl nuS (nuS g x) b j = g b j
    rw [nuP_off L _ (fun y hy => h y (List.mem_cons_of_mem _ hy))]
    unfold nuS
    rw [if_neg (fun z => h x (List.mem_cons_self ..) z.1.symm z.2)]
theorem NK_off {i b : Nat} {j : Int} (h : ∀ y, y ∈ numL.take i → y.1 = b → ¬ (y.2.1 ≤ j ∧ j < y.2.2.1)) : NK i b j = 0 := nuP_off (numL.take i) (fun _ _ => 0) h
theorem nuP_val {b : Nat} {j v : Int} : ∀ (L : List (Nat × Int × Int × Int)) (g : NM), (∀ y, y ∈ L → y.1 = b → y.2.2.2 = v) → g b j = v → L.foldl nuS g b j = v
  | [], _, _, h => h
  | x :: L, g, h, hg => by
    refine nuP_val L (nuS g x) (fun y hy => h y (List.mem_cons_of_mem _ hy)) ?_
    unfold nuS
    by_cases q : b = x.1 ∧ x.2.1 ≤ j ∧ j < x.2.2.1
    · rw [if_pos q]
      exact h x (List.mem_cons_self ..) q.1.symm
    · rw [if_neg q]
      exact hg
theorem NK_z0 {i b : Nat} (h : ∀ y, y ∈ numL.take i → y.1 = b → y.2.2.2 = 0) (j : Int) : NK i b j = 0 := nuP_val (numL.take i) (fun _ _ => 0) h rfl
theorem row_writes : ∀ y, y ∈ numL.take 217 → y.1 = 147 → (10 ≤ y.2.1 ∧ y.2.2.1 ≤ 13) ∨ (870 ≤ y.2.1 ∧ y.2.2.1 ≤ 890) := by decide +kernel
theorem row_zero {j : Int} (h : j < 10 ∨ (13 ≤ j ∧ j < 870) ∨ 890 ≤ j) : NK 217 147 j = 0 := NK_off (fun y hy e => by have := row_writes y hy e; omega)
theorem row_ones : ∀ k : Nat, k < 20 → NK 217 147 (870 + (k : Int)) = 1 := by decide +kernel
theorem tab_ones : ∀ k : Nat, k < 20 → NK 217 30 (k : Int) = 1 := by decide +kernel
theorem tab_kin : ∀ k : Nat, k < 3 → NK 217 32 (k : Int) = NK 217 147 (10 + (k : Int)) := by decide +kernel
theorem row_one {k : Int} (h0 : 0 ≤ k) (h1 : k < 20) : NK 217 147 (870 + k) = 1 := by
  have := row_ones k.toNat (by omega)
  rw [toN h0] at this
  exact this
theorem law0 {n : NM} {a : Nat} {r : Int → Int} (hT : TW n (a + 18) 4 12) (h1 : n (a + 15) 2 = 0) (h2 : n (a + 18) 3 = 0) (h3 : r 901 = 0) : LawRel n a r := by
  refine ⟨hT, ?_⟩
  unfold LawRelF
  rw [h1, h2]
  refine ⟨?_, by decide, by decide, ⟨by decide, by decide, ?_, fun p a b => absurd b (by omega)⟩, 0, ⟨by decide, by decide, fun p a b => absurd b (by omega)⟩, fun c a b => absurd b (by omega)⟩
  · unfold rowL
    rw [if_pos (by decide), h3]
  · show (0 : Int) ≤ 50
    decide
theorem TR0 {n : NM} {t : Nat} {W R cnt base : Int} {r : Int → Int} (hT : TW n t W R) (h3 : n t 3 = 0) (h0 : r cnt = 0) : TR n t W R cnt base r :=
  ⟨hT, by rw [h3, h0], fun k a b => absurd b (by rw [h0, Int.zero_mul]; omega)⟩
theorem lakeW0 {a : Nat} (t1 : TW (NK 217) (a + 1) 3 60 ∧ NK 217 (a + 1) 3 = 60) (t3 : TW (NK 217) (a + 3) 4 12) (t5 : TW (NK 217) (a + 5) 4 12) (t7 : TW (NK 217) (a + 7) 2 12) (t9 : TW (NK 217) (a + 9) 1 12) (t11 : TW (NK 217) (a + 11) 3 20) (t13 : TW (NK 217) (a + 13) 7 40) (t18 : TW (NK 217) (a + 18) 4 12) (t20 : TW (NK 217) (a + 20) 3 6) (t22 : TW (NK 217) (a + 22) 4 12) (t24 : TW (NK 217) (a + 24) 4 10) (t26 : TW (NK 217) (a + 26) 2 30 ∧ NK 217 (a + 26) 3 = 30) (t28 : TW (NK 217) (a + 28) 2 10 ∧ NK 217 (a + 28) 3 = 10) (t30 : TW (NK 217) (a + 30) 3 1 ∧ NK 217 (a + 30) 3 = 1) : LakeW (NK 217) a :=
  ⟨t1, t3, t5, t7, t9, t11, t13, t18, t20, t22, t24, t26, t28, t30⟩
theorem lakeW_1 : LakeW (NK 217) 1 := by
  refine lakeW0 ?_ ?_ ?_ ?_ ?_ ?_ ?_ ?_ ?_ ?_ ?_ ?_ ?_ ?_ <;> (unfold TW; decide +kernel)
theorem lakeW_81 : LakeW (NK 217) 81 := by
  refine lakeW0 ?_ ?_ ?_ ?_ ?_ ?_ ?_ ?_ ?_ ?_ ?_ ?_ ?_ ?_ <;> (unfold TW; decide +kernel)
theorem lakeW_113 : LakeW (NK 217) 113 := by
  refine lakeW0 ?_ ?_ ?_ ?_ ?_ ?_ ?_ ?_ ?_ ?_ ?_ ?_ ?_ ?_ <;> (unfold TW; decide +kernel)
theorem days0 (j : Int) : NK 217 3 j = 0 := NK_z0 (by decide +kernel) j
theorem years0 (j : Int) : NK 217 28 j = 0 := NK_z0 (by decide +kernel) j
theorem lake0 : LakeRel (NK 217) 1 (NK 217 147) := by
  obtain ⟨t1, t3, t5, t7, t9, t11, t13, t18, t20, t22, t24, t26, t28, t30⟩ := lakeW_1
  have z : ∀ j : Int, j < 10 → NK 217 147 j = 0 := fun j h => row_zero (Or.inl h)
  refine ⟨⟨t1.1, t1.2, fun k a b => ?_⟩, TR0 t3 (by decide +kernel) (z _ (by decide)), TR0 t5 (by decide +kernel) (z _ (by decide)), TR0 t7 (by decide +kernel) (z _ (by decide)), TR0 t9 (by decide +kernel) (z _ (by decide)), TR0 t11 (by decide +kernel) (z _ (by decide)), TR0 t13 (by decide +kernel) (z _ (by decide)),
    law0 t18 (by decide +kernel) (by decide +kernel) (row_zero (by decide)), TR0 t20 (by decide +kernel) (z _ (by decide)), TR0 t22 (by decide +kernel) (z _ (by decide)), TR0 t24 (by decide +kernel) (z _ (by decide)), ⟨t26.1, t26.2, fun k a b => ?_⟩, ⟨t28.1, t28.2, fun k a b => ?_⟩, ⟨t30.1, t30.2, fun k a b => ?_⟩⟩
  · show NK 217 3 k = _
    rw [days0, row_zero (Or.inr (Or.inl ⟨by omega, by omega⟩))]
  · show NK 217 28 k = _
    rw [years0, row_zero (Or.inr (Or.inl ⟨by omega, by omega⟩))]
  · show NK 217 30 k = _
    have := tab_ones k.toNat (by omega)
    rw [toN a] at this
    rw [this, row_one a (by omega)]
  · show NK 217 32 k = _
    have := tab_kin k.toNat (by omega)
    rw [toN a] at this
    exact this
theorem rowOk0 : RowOk (NK 217 147) := by
  have z : ∀ j : Int, j < 10 → NK 217 147 j = 0 := fun j h => row_zero (Or.inl h)
  have e10 : NK 217 147 10 = 2 := by decide +kernel
  have e11 : NK 217 147 11 = 100 := by decide +kernel
  have e12 : NK 217 147 12 = 1 := by decide +kernel
  refine ⟨fun k a b => ?_, fun b a h => ?_, fun b a h => ?_, fun b a h => ?_, fun b a h => ?_, fun b a h => ?_, fun b a h => ?_, fun b a h => ?_, fun b a h => ?_, fun k a b => ?_, fun k a b => ?_, ?_, ?_, ?_⟩
  · rw [row_zero (Or.inr (Or.inl ⟨by omega, by omega⟩))]
    decide
  · exact absurd h (by rw [z 0 (by decide)]; omega)
  · exact absurd h (by rw [z 1 (by decide)]; omega)
  · exact absurd h (by rw [z 3 (by decide)]; omega)
  · exact absurd h (by rw [z 4 (by decide)]; omega)
  · exact absurd h (by rw [z 5 (by decide)]; omega)
  · exact absurd h (by rw [z 7 (by decide)]; omega)
  · exact absurd h (by rw [z 8 (by decide)]; omega)
  · exact absurd h (by rw [z 9 (by decide)]; omega)
  · rw [row_zero (Or.inr (Or.inl ⟨by omega, by omega⟩))]
    decide
  · rw [row_one a b]
    decide
  · rw [e10]; decide
  · rw [e11]; decide
  · rw [e12]; decide
theorem rel0 : Rel 0 (NK 217) := by
  refine ⟨lake0, rowOk0, ⟨lakeW_81, by decide +kernel, Or.inl (by decide +kernel)⟩, ⟨lakeW_113, by decide +kernel, Or.inl (by decide +kernel)⟩, ?_, ?_, ?_, ?_⟩
  · have e : NK 217 35 1 = 0 := by decide +kernel
    refine ⟨by decide +kernel, by decide +kernel, by decide +kernel, fun i a b => absurd b (by rw [e]; omega)⟩
  · unfold MiscRel
    decide +kernel
  · have e : NK 217 78 3 = 0 := by decide +kernel
    refine ⟨by unfold TW; decide +kernel, Or.inl (by decide +kernel), fun k a b => absurd b (by rw [e]; omega)⟩
  · unfold TW
    decide +kernel
end REL0
