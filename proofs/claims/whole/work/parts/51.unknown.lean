section UNKNOWN
variable {w : WD} {d : Nat} {n : NM}
noncomputable def unF (n : NM) : Nat → Int
  | 0 => 0
  | k + 1 => if wtS n (k : Int) 5 ≠ 0 then unF n k else unF n k + 1
noncomputable def unI (n : NM) (i : Int) : Nat → Int
  | 0 => -1
  | k + 1 => if wtS n (k : Int) 5 ≠ 0 then unI n i k else if unF n k ≠ i then unI n i k else (k : Int)
theorem unF_le : ∀ k : Nat, 0 ≤ unF n k ∧ unF n k ≤ k
  | 0 => ⟨Int.le_refl _, Int.le_refl _⟩
  | k + 1 => by
    have ih := unF_le k
    have e : unF n (k + 1) = if wtS n (k : Int) 5 ≠ 0 then unF n k else unF n k + 1 := rfl
    rw [e]
    split <;> omega
theorem unI_up {i : Int} {k : Nat} {v : Int} (h1 : i < unF n k) (h2 : unI n i k = v) : ∀ m : Nat, i < unF n (k + m) ∧ unI n i (k + m) = v
  | 0 => ⟨h1, h2⟩
  | m + 1 => by
    have ih := unI_up h1 h2 m
    have e : unF n (k + (m + 1)) = if wtS n ((k + m : Nat) : Int) 5 ≠ 0 then unF n (k + m) else unF n (k + m) + 1 := rfl
    have e2 : unI n i (k + (m + 1)) = if wtS n ((k + m : Nat) : Int) 5 ≠ 0 then unI n i (k + m) else if unF n (k + m) ≠ i then unI n i (k + m) else ((k + m : Nat) : Int) := rfl
    rw [e, e2]
    split
    · exact ih
    · rw [if_pos (by omega)]
      exact ⟨by omega, ih.2⟩
theorem s_unkL {G : GM} {x1 x2 : Int} (hL : LakeRel n 1 (n 147)) (hr : RowOk (n 147)) (hn : NumsOk (n 147)) (hx : x1 = 0 ∨ x1 = 1) : ∀ (m k : Nat) (n2 : NM), (k : Int) + m = n 147 5 → FrA n2 n → (x1 = 1 → unI n x2 k = -1) → Rn w mX11_unknown (d + 8) G (fun r h' => ∃ (y : Int) (n3 : NM), r = some (vi y) ∧ h' = (B0, n3) ∧ y = (if x1 = 0 then unF n (n 147 5).toNat else unI n x2 (n 147 5).toNat) ∧ FrA n3 n) 16 [(0, vr 0), (1, vi x1), (2, vi x2), (3, vi (unF n k)), (4, vi (k : Int))] [] (B0, n2)
  | 0, k, n2, hk, f, hi => by
    have e14 : n2 14 3 = n 147 5 := by
      rw [f 14 (by decide) (by decide) (by decide) (by decide)]
      exact hL.2.2.2.2.2.2.1.2.1
    refine gX11_unknown_16 (EI.use (s_size ob_14 (c := 15) rfl ob_15) ⟨fun _ => ⟨fun c => ⟨_, _, rfl, rfl, ?_, f⟩, fun c => ⟨_, _, rfl, rfl, ?_, f⟩⟩, fun z => absurd z (by omega)⟩)
    · rw [if_neg c, show (n 147 5).toNat = k by omega, hi (by omega)]
    · rw [if_pos c, show (n 147 5).toNat = k by omega]
  | m + 1, k, n2, hk, f, hi => by
    have e14 : n2 14 3 = n 147 5 := by
      rw [f 14 (by decide) (by decide) (by decide) (by decide)]
      exact hL.2.2.2.2.2.2.1.2.1
    have h40 := hn.2.2.2.2.2.1
    have ul := unF_le (n := n) k
    have e : unF n (k + 1) = if wtS n (k : Int) 5 ≠ 0 then unF n k else unF n k + 1 := rfl
    have e2 : unI n x2 (k + 1) = if wtS n (k : Int) 5 ≠ 0 then unI n x2 k else if unF n k ≠ x2 then unI n x2 k else (k : Int) := rfl
    refine gX11_unknown_16 (EI.use (s_size ob_14 (c := 15) rfl ob_15) ⟨fun z => absurd z (by omega), fun _ => EV.usP (s_askA (d := d + 1) f hL hr (by omega) (by omega)) (fun n3 z => EI.use (s_all z) ⟨fun c => ⟨⟨by omega, by omega⟩, ?_⟩, fun c => ⟨fun c1 => ⟨⟨by omega, by omega⟩, ⟨by omega, by omega⟩, ?_⟩, fun c1 => ⟨fun c2 => ⟨⟨by omega, by omega⟩, ⟨by omega, by omega⟩, ?_⟩, fun c2 => ⟨_, _, rfl, rfl, ?_, z.1⟩⟩⟩⟩)⟩)
    · have nxt := s_unkL (G := G) hL hr hn hx m (k + 1) n3 (by omega) z.1 (fun q => by rw [e2, if_pos c]; exact hi q)
      rw [e, if_pos c] at nxt
      exact nxt
    · have nxt := s_unkL (G := G) (x2 := x2) hL hr hn hx m (k + 1) n3 (by omega) z.1 (fun q => absurd q c1)
      rw [e, if_neg (not_not_intro c)] at nxt
      exact nxt
    · have nxt := s_unkL (G := G) hL hr hn hx m (k + 1) n3 (by omega) z.1 (fun q => by rw [e2, if_neg (not_not_intro c), if_pos c2]; exact hi q)
      rw [e, if_neg (not_not_intro c)] at nxt
      exact nxt
    · rw [if_neg (not_not_intro c)] at e e2
      rw [if_neg (not_not_intro c2)] at e2
      have up := unI_up (n := n) (i := x2) (k := k + 1) (v := (k : Int)) (by omega) e2 ((n 147 5).toNat - (k + 1))
      rw [show k + 1 + ((n 147 5).toNat - (k + 1)) = (n 147 5).toNat by omega] at up
      rw [if_neg (by omega), up.2]
theorem m_unkL {G : GM} {x1 x2 : Int} {n0 : NM} (hL : LakeRel n 1 (n 147)) (hr : RowOk (n 147)) (hn : NumsOk (n 147)) : ∀ (m k : Nat) (n2 : NM), (k : Int) + m = n 147 5 → n2 147 = n 147 → FrQ n2 n0 → Rn w mX12_unknown (d + 9) G (fun r h' => ∃ (y : Int) (n3 : NM), r = some (vi y) ∧ h' = (B0, n3) ∧ y = (if x1 = 0 then unF n (n 147 5).toNat else unI n x2 (n 147 5).toNat) ∧ FrQ n3 n0) 25 [(0, vr 145), (1, vi x1), (2, vi x2), (3, vi (unF n k)), (4, vi (unI n x2 k)), (5, vi (k : Int))] [] (B0, n2)
  | 0, k, n2, hk, e147, f => by
    refine gX12_unknown_25 ⟨fun _ => ⟨fun c => ⟨_, _, rfl, rfl, ?_, f⟩, fun c => ⟨_, _, rfl, rfl, ?_, f⟩⟩, fun z => absurd z (by rw [e147]; omega)⟩
    · rw [if_neg c, show (n 147 5).toNat = k by omega]
    · rw [if_pos c, show (n 147 5).toNat = k by omega]
  | m + 1, k, n2, hk, e147, f => by
    have h40 := hn.2.2.2.2.2.1
    have ul := unF_le (n := n) k
    have e : unF n (k + 1) = if wtS n (k : Int) 5 ≠ 0 then unF n k else unF n k + 1 := rfl
    have e2 : unI n x2 (k + 1) = if wtS n (k : Int) 5 ≠ 0 then unI n x2 k else if unF n k ≠ x2 then unI n x2 k else (k : Int) := rfl
    refine gX12_unknown_25 ⟨fun z => absurd z (by rw [e147]; omega), fun _ => EI.use (m_sightAt (by omega) (by omega)) (EI.usP (m_weights (d := d) hL hr hn (by omega) (by omega) e147) (fun y n3 z => ?_))⟩
    obtain ⟨rfl, z⟩ := z
    have nxt := m_unkL (G := G) (x1 := x1) (x2 := x2) hL hr hn m (k + 1) n3 (by omega) ((z.1 147 (by decide) (by decide) (by decide)).trans e147) (f.tr z)
    refine ⟨fun _ _ => ⟨by omega, by omega⟩, fun _ _ => ⟨by omega, by omega⟩, fun z1 z2 e3 e4 => ⟨⟨by omega, by omega⟩, ?_⟩⟩
    rw [e, e2, ← e3, ← e4] at nxt
    exact nxt
theorem st_unknown {k : Int} (h : Rel k n) (x1 x2 : Int) : LS2 w (d + 10) k n mX11_unknown [vi x1, vi x2] mX12_unknown [vi x1, vi x2] := by
  have hn := h.numsOk
  have h40 := hn.2.2.2.2.2.1
  refine ⟨if 0 ≤ x1 ∧ x1 ≤ 1 then (if x1 = 0 then unF n (n 147 5).toNat else unI n x2 (n 147 5).toNat) else -1, fun n1 => FrA n1 n, ?_, ?_⟩
  · refine EI.ofP (by decide +kernel) (Nat.le_of_ble_eq_true rfl) rfl (fun _ G => gX11_unknown_0 (EI.use (s_within _ _ _) (ite10 (fun c => ?_) (fun c => ⟨_, _, rfl, rfl, ?_, FrA.rf⟩))))
    · refine Rn.weak (fun v h' t => ?_) (s_unkL (w := w) (d := d + 2) (G := G) (x1 := x1) (x2 := x2) h.1 h.2.1 hn (by omega) (n 147 5).toNat 0 n (by omega) FrA.rf (fun _ => rfl))
      obtain ⟨y1, y2, t1, t2, t3, t4⟩ := t
      exact ⟨_, _, t1, t2, by rw [if_pos c]; exact t3, t4⟩
    · rw [if_neg c]
  · intro n1 f
    have e1 : n1 147 = n 147 := f 147 (by decide) (by decide) (by decide) (by decide)
    have e147 : (upn n1 145 0 0) 147 = n 147 := (upn_ne (by decide)).trans e1
    have hz : FrZ (upn n1 145 0 0) n := f.z.tr FrZ.z
    have fin : ∀ n2, FrZ n2 n → Rel (k + 1) n2 := fun n2 g => (h.scr g).le (by omega)
    refine EI.ofP (by decide +kernel) (Nat.le_of_ble_eq_true rfl) rfl (fun _ G => gX12_unknown_0 (EI.use (m_in _ _ _) (ite10 (fun c => ?_) (fun c => ⟨_, _, rfl, rfl, ?_, fin _ hz⟩))))
    · refine Rn.weak (fun v h' t => ?_) (m_unkL (w := w) (d := d + 1) (G := G) (x1 := x1) (x2 := x2) h.1 h.2.1 hn (n 147 5).toNat 0 (upn n1 145 0 0) (by omega) e147 FrQ.rf)
      obtain ⟨y1, y2, t1, t2, t3, t4⟩ := t
      exact ⟨_, _, t1, t2, by rw [if_pos c]; exact t3, fin _ (hz.tr t4.z)⟩
    · rw [if_neg c]
noncomputable def mtF (n : NM) (x : Int) : Nat → Int
  | 0 => 0
  | k + 1 => if (lkF (wtV n (k : Int)) 5).1 ≠ x then mtF n x k else mtF n x k + 1
theorem mtF_le {x : Int} : ∀ k : Nat, 0 ≤ mtF n x k ∧ mtF n x k ≤ k
  | 0 => ⟨Int.le_refl _, Int.le_refl _⟩
  | k + 1 => by
    have ih := mtF_le (x := x) k
    have e : mtF n x (k + 1) = if (lkF (wtV n (k : Int)) 5).1 ≠ x then mtF n x k else mtF n x k + 1 := rfl
    rw [e]
    split <;> omega
theorem s_mostL {G : GM} {x1 : Int} (hL : LakeRel n 1 (n 147)) (hr : RowOk (n 147)) (hn : NumsOk (n 147)) : ∀ (m k : Nat) (n2 : NM), (k : Int) + m = n 147 5 → FrA n2 n → Rn w mX11_most (d + 8) G (fun r h' => ∃ (y : Int) (n3 : NM), r = some (vi y) ∧ h' = (B0, n3) ∧ y = mtF n x1 (n 147 5).toNat ∧ FrA n3 n) 15 [(0, vr 0), (1, vi x1), (2, vi (mtF n x1 k)), (3, vi (k : Int))] [] (B0, n2)
  | 0, k, n2, hk, f => by
    have e14 : n2 14 3 = n 147 5 := by
      rw [f 14 (by decide) (by decide) (by decide) (by decide)]
      exact hL.2.2.2.2.2.2.1.2.1
    exact gX11_most_15 (EI.use (s_size ob_14 (c := 15) rfl ob_15) ⟨fun _ => ⟨_, _, rfl, rfl, by rw [show (n 147 5).toNat = k by omega], f⟩, fun z => absurd z (by omega)⟩)
  | m + 1, k, n2, hk, f => by
    have e14 : n2 14 3 = n 147 5 := by
      rw [f 14 (by decide) (by decide) (by decide) (by decide)]
      exact hL.2.2.2.2.2.2.1.2.1
    have h40 := hn.2.2.2.2.2.1
    have ul := mtF_le (n := n) (x := x1) k
    have e : mtF n x1 (k + 1) = if (lkF (wtV n (k : Int)) 5).1 ≠ x1 then mtF n x1 k else mtF n x1 k + 1 := rfl
    refine gX11_most_15 (EI.use (s_size ob_14 (c := 15) rfl ob_15) ⟨fun z => absurd z (by omega), fun _ => EV.usP (s_askA (d := d + 1) f hL hr (by omega) (by omega)) (fun n3 z => EI.use (s_like z) ⟨fun _ => ⟨by omega, by omega⟩, fun zz ez => ⟨⟨by omega, by omega⟩, ?_⟩⟩)⟩)
    have nxt := s_mostL (G := G) (x1 := x1) hL hr hn m (k + 1) n3 (by omega) z.1
    rw [e, ← ez] at nxt
    exact nxt
theorem m_mostI {G : GM} {x1 z2 x : Int} {n0 : NM} {Q : Option AV → Hp → Prop} (hL : LakeRel n 1 (n 147)) (hr : RowOk (n 147)) (hn : NumsOk (n 147)) (x0 : 0 ≤ x) (xl : x < n 147 5) (h0 : 0 ≤ z2 ∧ z2 ≤ 40) (K : ∀ n3 : NM, n3 147 = n 147 → FrQ n3 n0 → Rn w mX12_most (d + 8) G Q 23 [(0, vr 145), (1, vi x1), (2, vi (z2 + if (lkF (wtV n x) 5).1 ≠ x1 then 0 else 1)), (3, vi (x + 1))] [] (B0, n3)) : ∀ (m k : Nat) (n2 : NM), k + m = 5 → n2 147 = n 147 → FrQ n2 n0 → Rn w mX12_most (d + 8) G Q 42 [(0, vr 145), (1, vi x1), (2, vi z2), (3, vi x), (4, vi (lkF (wtV n x) k).1), (5, vi (lkF (wtV n x) k).2), (6, vi (k : Int))] [] (B0, n2)
  | 0, k, n2, hk, e147, f => by
    have : k = 5 := by omega
    subst this
    have h40 := hn.2.2.2.2.2.1
    refine gX12_most_42 ⟨fun _ => fun z ez => ⟨⟨?_, ?_⟩, ⟨by omega, by omega⟩, ?_⟩, fun z => absurd z (by decide)⟩
    · rw [ez]
      split <;> omega
    · rw [ez]
      split <;> omega
    · rw [ez]
      exact K n2 e147 f
  | m + 1, k, n2, hk, e147, f => by
    have h40 := hn.2.2.2.2.2.1
    have e : lkF (wtV n x) (k + 1) = if wtV n x k ≤ (lkF (wtV n x) k).2 then lkF (wtV n x) k else ((k : Int), wtV n x k) := rfl
    refine gX12_most_42 ⟨fun z => absurd z (by omega), fun _ => EI.use (m_sightAt (by omega) (by omega)) (EI.usP (m_weightOf (d := d) hL hr hn x0 xl e147 (by omega)) (fun y n3 z => ?_))⟩
    obtain ⟨rfl, z⟩ := z
    have nxt := m_mostI hL hr hn x0 xl h0 K m (k + 1) n3 (by omega) ((z.1 147 (by decide) (by decide) (by decide)).trans e147) (f.tr z)
    intro z1 e1 z3 e3
    refine ⟨⟨by omega, by omega⟩, ?_⟩
    rw [e] at nxt
    by_cases c : wtV n x k ≤ (lkF (wtV n x) k).2
    · rw [if_pos c] at nxt e1 e3
      rw [e1, e3]
      exact nxt
    · rw [if_neg c] at nxt e1 e3
      rw [e1, e3]
      exact nxt
theorem m_mostL {G : GM} {x1 : Int} {n0 : NM} (hL : LakeRel n 1 (n 147)) (hr : RowOk (n 147)) (hn : NumsOk (n 147)) : ∀ (m k : Nat) (n2 : NM), (k : Int) + m = n 147 5 → n2 147 = n 147 → FrQ n2 n0 → Rn w mX12_most (d + 8) G (fun r h' => ∃ (y : Int) (n3 : NM), r = some (vi y) ∧ h' = (B0, n3) ∧ y = mtF n x1 (n 147 5).toNat ∧ FrQ n3 n0) 23 [(0, vr 145), (1, vi x1), (2, vi (mtF n x1 k)), (3, vi (k : Int))] [] (B0, n2)
  | 0, k, n2, hk, e147, f => by
    exact gX12_most_23 ⟨fun _ => ⟨_, _, rfl, rfl, by rw [show (n 147 5).toNat = k by omega], f⟩, fun z => absurd z (by rw [e147]; omega)⟩
  | m + 1, k, n2, hk, e147, f => by
    have h40 := hn.2.2.2.2.2.1
    have ul := mtF_le (n := n) (x := x1) k
    have e : mtF n x1 (k + 1) = if (lkF (wtV n (k : Int)) 5).1 ≠ x1 then mtF n x1 k else mtF n x1 k + 1 := rfl
    refine gX12_most_23 ⟨fun z => absurd z (by rw [e147]; omega), fun _ => m_mostI hL hr hn (by omega) (by omega) (by omega) (fun n3 e3 f3 => ?_) 5 0 n2 rfl e147 f⟩
    have nxt := m_mostL (G := G) (x1 := x1) hL hr hn m (k + 1) n3 (by omega) e3 f3
    have e4 : mtF n x1 (k + 1) = mtF n x1 k + if (lkF (wtV n (k : Int)) 5).1 ≠ x1 then 0 else 1 := by
      rw [e]
      split <;> omega
    rw [e4] at nxt
    exact nxt
theorem st_most {k : Int} (h : Rel k n) (x1 : Int) : LS2 w (d + 10) k n mX11_most [vi x1] mX12_most [vi x1] := by
  have hn := h.numsOk
  have h40 := hn.2.2.2.2.2.1
  refine ⟨if 0 ≤ x1 ∧ x1 ≤ 4 then mtF n x1 (n 147 5).toNat else -1, fun n1 => FrA n1 n, ?_, ?_⟩
  · refine EI.ofP (by decide +kernel) (Nat.le_of_ble_eq_true rfl) rfl (fun _ G => gX11_most_0 (EI.use (s_within _ _ _) (ite10 (fun c => ?_) (fun c => ⟨_, _, rfl, rfl, ?_, FrA.rf⟩))))
    · refine Rn.weak (fun v h' t => ?_) (s_mostL (w := w) (d := d + 2) (G := G) (x1 := x1) h.1 h.2.1 hn (n 147 5).toNat 0 n (by omega) FrA.rf)
      obtain ⟨y1, y2, t1, t2, t3, t4⟩ := t
      exact ⟨_, _, t1, t2, by rw [if_pos c]; exact t3, t4⟩
    · rw [if_neg c]
  · intro n1 f
    have e1 : n1 147 = n 147 := f 147 (by decide) (by decide) (by decide) (by decide)
    have e147 : (upn n1 145 0 0) 147 = n 147 := (upn_ne (by decide)).trans e1
    have hz : FrZ (upn n1 145 0 0) n := f.z.tr FrZ.z
    have fin : ∀ n2, FrZ n2 n → Rel (k + 1) n2 := fun n2 g => (h.scr g).le (by omega)
    refine EI.ofP (by decide +kernel) (Nat.le_of_ble_eq_true rfl) rfl (fun _ G => gX12_most_0 (EI.use (m_in _ _ _) (ite10 (fun c => ?_) (fun c => ⟨_, _, rfl, rfl, ?_, fin _ hz⟩))))
    · refine Rn.weak (fun v h' t => ?_) (m_mostL (w := w) (d := d + 2) (G := G) (x1 := x1) h.1 h.2.1 hn (n 147 5).toNat 0 (upn n1 145 0 0) (by omega) e147 FrQ.rf)
      obtain ⟨y1, y2, t1, t2, t3, t4⟩ := t
      exact ⟨_, _, t1, t2, by rw [if_pos c]; exact t3, fin _ (hz.tr t4.z)⟩
    · rw [if_neg c]
end UNKNOWN
