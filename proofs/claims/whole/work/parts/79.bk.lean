section BKS
def putsL : List (Nat × Nat × Nat) := [(2, 0, 3), (1, 0, 2), (4, 0, 5), (1, 1, 4), (6, 0, 7), (1, 2, 6), (8, 0, 9), (1, 3, 8), (10, 0, 11), (1, 4, 10), (12, 0, 13), (1, 5, 12), (14, 0, 15), (1, 6, 14), (16, 0, 17), (16, 1, 18), (19, 0, 20), (16, 3, 19), (1, 7, 16), (21, 0, 22), (1, 8, 21), (23, 0, 24), (1, 9, 23), (25, 0, 26), (1, 10, 25), (27, 0, 28), (1, 11, 27), (29, 0, 30), (1, 12, 29), (31, 0, 32), (1, 13, 31), (0, 0, 1), (0, 1, 33), (0, 2, 34), (35, 0, 36), (0, 3, 35), (38, 0, 39), (38, 1, 40), (38, 2, 41), (37, 0, 38), (42, 0, 43), (42, 1, 44), (45, 0, 46), (42, 3, 45), (37, 1, 42), (0, 4, 37), (47, 0, 48), (47, 3, 49), (47, 4, 50), (0, 5, 47), (51, 0, 52), (53, 0, 54), (51, 1, 53), (55, 0, 56), (51, 2, 55), (57, 0, 58), (51, 3, 57), (59, 0, 60), (51, 4, 59), (61, 0, 62), (52, 0, 61), (63, 0, 64), (52, 1, 63), (65, 0, 66), (52, 2, 65), (67, 0, 68), (52, 3, 67), (69, 0, 70), (52, 4, 69), (71, 0, 72), (52, 5, 71), (0, 6, 51), (73, 0, 74), (73, 1, 75), (73, 2, 76), (0, 7, 73), (78, 0, 79), (77, 0, 78), (0, 8, 77), (0, 9, 80), (82, 0, 83), (81, 0, 82), (84, 0, 85), (81, 1, 84), (86, 0, 87), (81, 2, 86), (88, 0, 89), (81, 3, 88), (90, 0, 91), (81, 4, 90), (92, 0, 93), (81, 5, 92), (94, 0, 95), (81, 6, 94), (96, 0, 97), (96, 1, 98), (99, 0, 100), (96, 3, 99), (81, 7, 96), (101, 0, 102), (81, 8, 101), (103, 0, 104), (81, 9, 103), (105, 0, 106), (81, 10, 105), (107, 0, 108), (81, 11, 107), (109, 0, 110), (81, 12, 109), (111, 0, 112), (81, 13, 111), (33, 0, 81), (114, 0, 115), (113, 0, 114), (116, 0, 117), (113, 1, 116), (118, 0, 119), (113, 2, 118), (120, 0, 121), (113, 3, 120), (122, 0, 123), (113, 4, 122), (124, 0, 125), (113, 5, 124), (126, 0, 127), (113, 6, 126), (128, 0, 129), (128, 1, 130), (131, 0, 132), (128, 3, 131), (113, 7, 128), (133, 0, 134), (113, 8, 133), (135, 0, 136), (113, 9, 135), (137, 0, 138), (113, 10, 137), (139, 0, 140), (113, 11, 139), (141, 0, 142), (113, 12, 141), (143, 0, 144), (113, 13, 143), (33, 1, 113), (145, 2, 146), (145, 3, 147), (145, 4, 148), (145, 5, 149), (145, 7, 150), (145, 16, 151), (145, 18, 152), (145, 19, 153), (145, 21, 154), (145, 22, 155), (145, 25, 156), (145, 26, 157), (145, 30, 158), (145, 31, 159), (145, 32, 160), (145, 33, 161), (145, 34, 162), (145, 35, 163), (145, 38, 164)]
def rfS (g : Nat → Nat → Option Nat) (x : Nat × Nat × Nat) : Nat → Nat → Option Nat := fun c f => if c = x.1 ∧ f = x.2.1 then some x.2.2 else g c f
def rfP (L : List (Nat × Nat × Nat)) : Nat → Nat → Option Nat := L.foldl rfS (fun _ _ => none)
/-- the base after k objects and j references -/
noncomputable def BK (k j : Nat) : HB := (k, ((kindL.take k).map (fun x => x.2)).sum, fun a => ((kindL.take k)[a]?).getD (999, 0), fun a f => rfP (putsL.take j) a f)
theorem rfP_none : ∀ (L : List (Nat × Nat × Nat)) (g : Nat → Nat → Option Nat) (c f : Nat), (∀ x, x ∈ L → x.1 ≠ c ∨ x.2.1 ≠ f) → L.foldl rfS g c f = g c f
  | [], _, _, _, _ => rfl
  | x :: L, g, c, f, h => by
    show L.foldl rfS (rfS g x) c f = g c f
    rw [rfP_none L _ c f (fun y hy => h y (List.mem_cons_of_mem _ hy))]
    have := h x (List.mem_cons_self ..)
    unfold rfS
    rw [if_neg (fun z => by rcases this with q | q; exact q z.1.symm; exact q z.2.symm)]
theorem kind_len : kindL.length = 165 := by decide +kernel
theorem take_succ1 {k : Nat} {x : HK} (hk : kindL[k]? = some x) : kindL.take (k + 1) = kindL.take k ++ [x] := by
  rw [List.take_add_one, hk]
  rfl
theorem newB_BK {k j : Nat} {x : HK} (hk : kindL[k]? = some x) (hp : ∀ y, y ∈ putsL.take j → y.1 < k) : newB (BK k j) x = BK (k + 1) j := by
  have hlen : k < kindL.length := (List.getElem?_eq_some_iff.mp hk).1
  have hl : (kindL.take k).length = k := by rw [List.length_take]; omega
  unfold newB
  have e1 : hz (BK k j) = k := rfl
  refine Prod.ext (by rfl) (Prod.ext ?_ (Prod.ext ?_ ?_))
  · show ((kindL.take k).map (fun x => x.2)).sum + x.2 = ((kindL.take (k + 1)).map (fun x => x.2)).sum
    rw [take_succ1 hk, List.map_append, List.sum_append]
    show _ = _ + (x.2 + 0)
    omega
  · funext a
    show (if a = k then x else ((kindL.take k)[a]?).getD (999, 0)) = ((kindL.take (k + 1))[a]?).getD (999, 0)
    rw [take_succ1 hk]
    by_cases q : a = k
    · rw [if_pos q, q, List.getElem?_append_right (by omega), hl, show k - k = 0 by omega]
      rfl
    · rw [if_neg q]
      by_cases q2 : a < k
      · rw [List.getElem?_append_left (by omega)]
      · rw [List.getElem?_eq_none (by omega), List.getElem?_eq_none (by rw [List.length_append, hl]; show k + 1 ≤ a; omega)]
  · funext a f
    show (if a = k then none else rfP (putsL.take j) a f) = rfP (putsL.take j) a f
    by_cases q : a = k
    · rw [if_pos q]
      exact (rfP_none (putsL.take j) (fun _ _ => none) a f (fun y hy => Or.inl (by have := hp y hy; omega))).symm
    · rw [if_neg q]
theorem putB_BK {k j a f b : Nat} (hj : putsL[j]? = some (a, f, b)) : putB (BK k j) a f b = BK k (j + 1) := by
  have e : putsL.take (j + 1) = putsL.take j ++ [(a, f, b)] := by
    rw [List.take_add_one, hj]
    rfl
  unfold putB
  refine Prod.ext rfl (Prod.ext rfl (Prod.ext rfl ?_))
  funext c g
  show (if c = a ∧ g = f then some b else rfP (putsL.take j) c g) = rfP (putsL.take (j + 1)) c g
  unfold rfP
  rw [e, List.foldl_append]
  rfl
theorem BK_obj {k j a : Nat} {x : HK} (ha : a < k) (hx : kindL[a]? = some x) : Obj (BK k j) a x.1 x.2 := by
  refine ⟨ha, ?_⟩
  show ((kindL.take k)[a]?).getD (999, 0) = _
  rw [List.getElem?_take_of_lt ha, hx]
  rfl
theorem rfP_val {c f : Nat} {v : Option Nat} : ∀ (L : List (Nat × Nat × Nat)) (g : Nat → Nat → Option Nat), (∀ y, y ∈ L → y.1 = c → y.2.1 = f → some y.2.2 = v) → ((∃ y, y ∈ L ∧ y.1 = c ∧ y.2.1 = f) ∨ g c f = v) → L.foldl rfS g c f = v
  | [], g, _, h => by
    rcases h with ⟨y, hy, _⟩ | h
    · exact absurd hy (List.not_mem_nil)
    · exact h
  | x :: L, g, h1, h2 => by
    refine rfP_val L (rfS g x) (fun y hy => h1 y (List.mem_cons_of_mem _ hy)) ?_
    by_cases q : x.1 = c ∧ x.2.1 = f
    · refine Or.inr ?_
      unfold rfS
      rw [if_pos ⟨q.1.symm, q.2.symm⟩]
      exact h1 x (List.mem_cons_self ..) q.1 q.2
    · rcases h2 with ⟨y, hy, k1, k2⟩ | h2
      · rcases List.mem_cons.mp hy with e | e
        · rw [e] at k1 k2
          exact absurd ⟨k1, k2⟩ q
        · exact Or.inl ⟨y, e, k1, k2⟩
      · refine Or.inr ?_
        unfold rfS
        rw [if_neg (fun z => q ⟨z.1.symm, z.2.symm⟩)]
        exact h2
theorem puts_ok : ∀ y, y ∈ putsL → (((refL[y.1]?).getD [])[y.2.1]?).getD none = some y.2.2 := by decide +kernel
theorem refs_ok : (refL.zipIdx.all (fun q => q.1.zipIdx.all (fun o => match o.1 with | none => true | some b => putsL.contains (q.2, o.2, b)))) = true := by decide +kernel
theorem bk_rf (a f : Nat) : rfP putsL a f = (((refL[a]?).getD [])[f]?).getD none := by
  by_cases ex : ∃ y, y ∈ putsL ∧ y.1 = a ∧ y.2.1 = f
  · refine rfP_val putsL _ (fun y hy k1 k2 => ?_) (Or.inl ex)
    have := puts_ok y hy
    rw [k1, k2] at this
    exact this.symm
  · have n1 : rfP putsL a f = none := rfP_none putsL (fun _ _ => none) a f (fun y hy => by
      by_cases q : y.1 = a
      · exact Or.inr (fun z => ex ⟨y, hy, q, z⟩)
      · exact Or.inl q)
    rw [n1]
    cases hr : refL[a]? with
    | none => rfl
    | some row =>
      show none = (row[f]?).getD none
      cases ho : row[f]? with
      | none => rfl
      | some o =>
        cases o with
        | none => rfl
        | some b =>
          have h1 := List.all_eq_true.mp refs_ok (row, a) (List.mem_zipIdx_iff_getElem?.mpr hr)
          have h2 := List.all_eq_true.mp h1 (some b, f) (List.mem_zipIdx_iff_getElem?.mpr ho)
          have h3 : (a, f, b) ∈ putsL := List.contains_iff_mem.mp h2
          exact absurd ⟨(a, f, b), h3, rfl, rfl⟩ ex
theorem puts_len : putsL.length = 163 := by decide +kernel
theorem BK_all : BK 165 163 = B0 := by
  have e1 : kindL.take 165 = kindL := List.take_of_length_le (by rw [kind_len]; exact Nat.le_refl _)
  have e2 : putsL.take 163 = putsL := List.take_of_length_le (by rw [puts_len]; exact Nat.le_refl _)
  unfold BK B0
  rw [e1, e2]
  refine Prod.ext rfl (Prod.ext ?_ (Prod.ext rfl ?_))
  · show (kindL.map (fun x => x.2)).sum = 20250
    decide +kernel
  · funext a f
    exact bk_rf a f
end BKS
