section YEARS
variable {w : WD} {d : Nat} {n : NM}
theorem yr_le {r : Int → Int} (hr : RowOk r) {p : Int} (p0 : 810 ≤ p) (p1 : p < 870) : 0 ≤ r p ∧ r p ≤ 1000 := by
  have := hr.2.2.2.2.2.2.2.2.2.1 (p - 810) (by omega) (by omega)
  rw [show 810 + (p - 810) = p by omega] at this
  exact this
/-- how many when nothing is new -/
def nnV (r : Int → Int) (a b : Int) : Int := (r (810 + 2 * b) * r (810 + 2 * a + 1)) / r (810 + 2 * a)
theorem nnV_le {r : Int → Int} (hr : RowOk r) {a b : Int} (a0 : 0 ≤ a) (a1 : a ≤ 29) (b0 : 0 ≤ b) (b1 : b ≤ 29) : (0 ≤ r (810 + 2 * b) * r (810 + 2 * a + 1) ∧ r (810 + 2 * b) * r (810 + 2 * a + 1) ≤ 1000000) ∧ 0 ≤ nnV r a b ∧ nnV r a b ≤ 1000000 := by
  have h1 := yr_le hr (p := 810 + 2 * b) (by omega) (by omega)
  have h2 := yr_le hr (p := 810 + 2 * a + 1) (by omega) (by omega)
  have h3 := yr_le hr (p := 810 + 2 * a) (by omega) (by omega)
  have h4 := mulb h1.1 h1.2 h2.1 h2.2
  have h5 : r (810 + 2 * b) * r (810 + 2 * a + 1) ≤ 1000000 := h4.2
  refine ⟨⟨h4.1, h5⟩, Int.ediv_nonneg h4.1 h3.1, ?_⟩
  have h6 : nnV r a b ≤ r (810 + 2 * b) * r (810 + 2 * a + 1) := Int.ediv_le_self _ h4.1
  omega
theorem s_nn (hL : LakeRel n 1 (n 147)) (hr : RowOk (n 147)) {a b : Int} (a0 : 0 ≤ a) (a1 : a ≤ 29) (b0 : 0 ≤ b) (b1 : b ≤ 29) (ha : 0 < n 147 (810 + 2 * a)) : EI w (d + 2) mX1_nothingNew [vr 1, vi a, vi b] B0 n (nnV (n 147) a b) n := by
  have hF : FR n 27 2 30 810 (n 147) := hL.2.2.2.2.2.2.2.2.2.2.2.1
  have q := nnV_le hr a0 a1 b0 b1
  exact EI.of (by decide +kernel) (Nat.le_of_ble_eq_true rfl) rfl (fun _ G => gX1_nothingNew_0 (EI.use (s_fr ob_27 rfl ob_28 hF rfl (by decide) a0 (by omega) (by decide) (by decide) (p := 810 + 2 * a) (by omega)) ⟨fun _ => EI.use (s_fr ob_27 rfl ob_28 hF rfl (by decide) b0 (by omega) (by decide) (by decide) (p := 810 + 2 * b) (by omega)) (EI.use (s_fr ob_27 rfl ob_28 hF rfl (by decide) a0 (by omega) (by decide) (by decide) (p := 810 + 2 * a + 1) rfl) ⟨⟨by omega, by omega⟩, q.1.1, ha, rfl, rfl⟩), fun z => absurd z (by omega)⟩))
theorem m_nn (hr : RowOk (n 147)) {a b : Int} (a0 : 0 ≤ a) (a1 : a ≤ 29) (b0 : 0 ≤ b) (b1 : b ≤ 29) (ha : 0 < n 147 (810 + 2 * a)) : EI w d mX12_nothingNew [vr 145, vi a, vi b] B0 n (nnV (n 147) a b) n := by
  have q := nnV_le hr a0 a1 b0 b1
  exact EI.of (by decide +kernel) (Nat.le_of_ble_eq_true rfl) rfl (fun _ G => gX12_nothingNew_0 ⟨⟨by omega, by omega⟩, ⟨by omega, by omega⟩, by omega, by omega, ⟨by omega, by omega⟩, ⟨by omega, by omega⟩, ⟨by omega, by omega⟩, by omega, by omega, ⟨by omega, by omega⟩, ⟨by omega, by omega⟩, ⟨by omega, by omega⟩, by omega, by omega, q.1.1, ha, rfl, rfl⟩)
theorem s_more (hL : LakeRel n 1 (n 147)) (hr : RowOk (n 147)) {a b : Int} (a0 : 0 ≤ a) (a1 : a ≤ 29) (b0 : 0 ≤ b) (b1 : b ≤ 29) (ha : 0 < n 147 (810 + 2 * a)) : EI w (d + 3) mX1_moreSeen [vr 1, vi a, vi b] B0 n (n 147 (810 + 2 * b + 1) - nnV (n 147) a b) n := by
  have hF : FR n 27 2 30 810 (n 147) := hL.2.2.2.2.2.2.2.2.2.2.2.1
  have q := nnV_le hr a0 a1 b0 b1
  have q2 := yr_le hr (p := 810 + 2 * b + 1) (by omega) (by omega)
  exact EI.of (by decide +kernel) (Nat.le_of_ble_eq_true rfl) rfl (fun _ G => gX1_moreSeen_0 (EI.use (s_fr ob_27 rfl ob_28 hF rfl (by decide) b0 (by omega) (by decide) (by decide) (p := 810 + 2 * b + 1) rfl) (EI.use (s_nn hL hr a0 a1 b0 b1 ha) ⟨⟨by omega, by omega⟩, rfl, rfl⟩)))
theorem s_isBase (hL : LakeRel n 1 (n 147)) (x : Int) : EI w (d + 2) mX11_isBase [vr 0, vi x] B0 n (if (0 ≤ x ∧ x ≤ 29) ∧ 0 < n 147 (810 + 2 * x) then 1 else 0) n := by
  have hF : FR n 27 2 30 810 (n 147) := hL.2.2.2.2.2.2.2.2.2.2.2.1
  refine EI.of (by decide +kernel) (Nat.le_of_ble_eq_true rfl) rfl (fun _ G => gX11_isBase_0 (EI.use (s_within _ _ _) (ite01 (fun c => ⟨?_, rfl⟩) (fun c => EI.use (s_fr ob_27 rfl ob_28 hF rfl (by decide) c.1 (by omega) (by decide) (by decide) (p := 810 + 2 * x) (by omega)) ⟨fun c2 => ⟨?_, rfl⟩, fun c2 => ⟨?_, rfl⟩⟩))))
  · rw [if_neg (fun z => c z.1)]
  · rw [if_neg (by omega)]
  · rw [if_pos ⟨c, c2⟩]
theorem m_isBase (x : Int) : EI w (d + 2) mX12_isBase [vr 145, vi x] B0 n (if (0 ≤ x ∧ x ≤ 29) ∧ 0 < n 147 (810 + 2 * x) then 1 else 0) n := by
  refine EI.of (by decide +kernel) (Nat.le_of_ble_eq_true rfl) rfl (fun _ G => gX12_isBase_0 (EI.use (m_in _ _ _) (ite01 (fun c => ⟨?_, rfl⟩) (fun c => ⟨⟨by omega, by omega⟩, ⟨by omega, by omega⟩, by omega, by omega, fun c2 => ⟨?_, rfl⟩, fun c2 => ⟨?_, rfl⟩⟩))))
  · rw [if_neg (fun z => c z.1)]
  · rw [if_neg (by omega)]
  · rw [if_pos ⟨c, c2⟩]
theorem st_more {k : Int} (h : Rel k n) (x1 x2 x3 : Int) : LStp w (d + 5) k n mX11_more [vi x1, vi x2, vi x3] mX12_more [vi x1, vi x2, vi x3] := by
  have e147 : (upn n 145 0 0) 147 = n 147 := upn_ne (by decide)
  have mb := m_isBase (w := w) (d := d + 2) (n := upn n 145 0 0) x1
  have mnn := fun (a0 : 0 ≤ x1) (a1 : x1 ≤ 29) (b0 : 0 ≤ x2) (b1 : x2 ≤ 29) (ha : 0 < n 147 (810 + 2 * x1)) => m_nn (w := w) (d := d + 4) (n := upn n 145 0 0) (by rw [e147]; exact h.2.1) a0 a1 b0 b1 (by rw [e147]; exact ha)
  rw [e147] at mb mnn
  refine ⟨if (0 ≤ x1 ∧ x1 ≤ 29) ∧ 0 < n 147 (810 + 2 * x1) then (if 0 ≤ x2 ∧ x2 ≤ 29 then (if 0 ≤ x3 ∧ x3 ≤ 1 then (if x3 = 0 then nnV (n 147) x1 x2 else n 147 (810 + 2 * x2 + 1) - nnV (n 147) x1 x2) else -10000000) else -10000000) else -10000000, n, upn n 145 0 0, ?_, ?_, h.zero.le (by omega)⟩
  · refine EI.of (by decide +kernel) (Nat.le_of_ble_eq_true rfl) rfl (fun _ G => gX11_more_0 (EI.use (s_isBase h.1 x1) (ite01 (fun c => ⟨?_, rfl⟩) (fun c => EI.use (s_within _ _ _) (ite01 (fun c2 => ⟨?_, rfl⟩) (fun c2 => EI.use (s_within _ _ _) (ite10 (fun c3 => ⟨fun c4 => EI.use (s_more h.1 h.2.1 c.1.1 c.1.2 c2.1 c2.2 c.2) ⟨?_, rfl⟩, fun c4 => EI.use (s_nn h.1 h.2.1 c.1.1 c.1.2 c2.1 c2.2 c.2) ⟨?_, rfl⟩⟩) (fun c3 => ⟨?_, rfl⟩))))))))
    · rw [if_neg c]
    · rw [if_pos c, if_neg c2]
    · rw [if_pos c, if_pos c2, if_pos c3, if_neg c4]
    · rw [if_pos c, if_pos c2, if_pos c3, if_pos c4]
    · rw [if_pos c, if_pos c2, if_neg c3]
  · refine EI.of (by decide +kernel) (Nat.le_of_ble_eq_true rfl) rfl (fun _ G => gX12_more_0 (EI.use mb (ite01 (fun c => ⟨?_, rfl⟩) (fun c => EI.use (m_in _ _ _) (ite01 (fun c2 => ⟨?_, rfl⟩) (fun c2 => EI.use (m_in _ _ _) (ite10 (fun c3 => EI.use (mnn c.1.1 c.1.2 c2.1 c2.2 c.2) ⟨fun c4 => ⟨⟨by omega, by omega⟩, ⟨by omega, by omega⟩, ⟨by omega, by omega⟩, by omega, by omega, ?_, ?_, rfl⟩, fun c4 => ⟨?_, rfl⟩⟩) (fun c3 => ⟨?_, rfl⟩))))))))
    · rw [if_neg c]
    · rw [if_pos c, if_neg c2]
    · have q := nnV_le h.2.1 c.1.1 c.1.2 c2.1 c2.2
      have q2 := yr_le h.2.1 (p := 810 + 2 * x2 + 1) (by omega) (by omega)
      rw [e147]
      exact ⟨by omega, by omega⟩
    · rw [e147, if_pos c, if_pos c2, if_pos c3, if_neg c4]
    · rw [if_pos c, if_pos c2, if_pos c3, if_pos c4]
    · rw [if_pos c, if_pos c2, if_neg c3]
/-- the year that grew most of the first k + 1 -/
def grwF (r : Int → Int) (a : Int) : Nat → Int
  | 0 => 0
  | k + 1 => if r (810 + 2 * ((k : Int) + 1) + 1) - nnV r a ((k : Int) + 1) ≤ r (810 + 2 * grwF r a k + 1) - nnV r a (grwF r a k) then grwF r a k else (k : Int) + 1
theorem grwF_le {r : Int → Int} {a : Int} : ∀ k : Nat, 0 ≤ grwF r a k ∧ grwF r a k ≤ k
  | 0 => ⟨Int.le_refl _, Int.le_refl _⟩
  | k + 1 => by
    have ih := grwF_le (r := r) (a := a) k
    have e : grwF r a (k + 1) = if r (810 + 2 * ((k : Int) + 1) + 1) - nnV r a ((k : Int) + 1) ≤ r (810 + 2 * grwF r a k + 1) - nnV r a (grwF r a k) then grwF r a k else (k : Int) + 1 := rfl
    rw [e]
    split
    · omega
    · omega
theorem s_grewL {G : GM} {a : Int} (hL : LakeRel n 1 (n 147)) (hr : RowOk (n 147)) (a0 : 0 ≤ a) (a1 : a ≤ 29) (ha : 0 < n 147 (810 + 2 * a)) : ∀ (m i : Nat), i + m = 29 → Rn w mX11_grew (d + 4) G (fun r h' => r = some (vi (grwF (n 147) a 29)) ∧ h' = (B0, n)) 14 [(0, vr 0), (1, vi a), (2, vi (grwF (n 147) a i)), (3, vi ((i : Int) + 1))] [] (B0, n)
  | 0, i, hi => by
    have ei : i = 29 := by omega
    subst ei
    exact gX11_grew_14 ⟨fun _ => ⟨rfl, rfl⟩, fun z => absurd z (by decide)⟩
  | m + 1, i, hi => by
    have nxt := s_grewL (G := G) hL hr a0 a1 ha m (i + 1) (by omega)
    have g := grwF_le (r := n 147) (a := a) i
    refine gX11_grew_14 ⟨fun z => absurd z (by omega), fun _ => EI.use (s_more hL hr a0 a1 (by omega) (by omega) ha) (EI.use (s_more hL hr a0 a1 g.1 (by omega) ha) (fun z ez => ⟨⟨by omega, by omega⟩, ?_⟩))⟩
    have e : z = grwF (n 147) a (i + 1) := ez
    rw [e]
    exact nxt
theorem m_grewL {G : GM} {a : Int} (hr : RowOk (n 147)) (a0 : 0 ≤ a) (a1 : a ≤ 29) (ha : 0 < n 147 (810 + 2 * a)) : ∀ (m i : Nat), i + m = 29 → Rn w mX12_grew (d + 1) G (fun r h' => r = some (vi (grwF (n 147) a 29)) ∧ h' = (B0, n)) 19 [(0, vr 145), (1, vi a), (2, vi (grwF (n 147) a i)), (3, vi ((i : Int) + 1))] [] (B0, n)
  | 0, i, hi => by
    have ei : i = 29 := by omega
    subst ei
    exact gX12_grew_19 ⟨fun _ => ⟨rfl, rfl⟩, fun z => absurd z (by decide)⟩
  | m + 1, i, hi => by
    have nxt := m_grewL (G := G) hr a0 a1 ha m (i + 1) (by omega)
    have g := grwF_le (r := n 147) (a := a) i
    have q1 := nnV_le hr a0 a1 (b := (i : Int) + 1) (by omega) (by omega)
    have q2 := nnV_le hr a0 a1 (b := grwF (n 147) a i) g.1 (by omega)
    have y1 := yr_le hr (p := 810 + 2 * ((i : Int) + 1) + 1) (by omega) (by omega)
    have y2 := yr_le hr (p := 810 + 2 * grwF (n 147) a i + 1) (by omega) (by omega)
    refine gX12_grew_19 ⟨fun z => absurd z (by omega), fun _ => ⟨⟨by omega, by omega⟩, ⟨by omega, by omega⟩, ⟨by omega, by omega⟩, by omega, by omega, EI.use (m_nn hr a0 a1 (by omega) (by omega) ha) ⟨⟨by omega, by omega⟩, ⟨by omega, by omega⟩, ⟨by omega, by omega⟩, ⟨by omega, by omega⟩, by omega, by omega, EI.use (m_nn hr a0 a1 g.1 (by omega) ha) ⟨⟨by omega, by omega⟩, fun z ez => ⟨⟨by omega, by omega⟩, ?_⟩⟩⟩⟩⟩
    have e : z = grwF (n 147) a (i + 1) := ez
    rw [e]
    exact nxt
theorem st_grew {k : Int} (h : Rel k n) (x : Int) : LStp w (d + 5) k n mX11_grew [vi x] mX12_grew [vi x] := by
  have e147 : (upn n 145 0 0) 147 = n 147 := upn_ne (by decide)
  have mb := m_isBase (w := w) (d := d + 2) (n := upn n 145 0 0) x
  have ml := fun (G : GM) (a0 : 0 ≤ x) (a1 : x ≤ 29) (ha : 0 < n 147 (810 + 2 * x)) => m_grewL (G := G) (w := w) (d := d + 4) (n := upn n 145 0 0) (by rw [e147]; exact h.2.1) a0 a1 (by rw [e147]; exact ha)
  rw [e147] at mb ml
  refine ⟨if (0 ≤ x ∧ x ≤ 29) ∧ 0 < n 147 (810 + 2 * x) then grwF (n 147) x 29 else -1, n, upn n 145 0 0, ?_, ?_, h.zero.le (by omega)⟩
  · refine EI.of (by decide +kernel) (Nat.le_of_ble_eq_true rfl) rfl (fun _ G => gX11_grew_0 (EI.use (s_isBase h.1 x) (ite10 (fun c => ?_) (fun c => ⟨?_, rfl⟩))))
    · rw [if_pos c]
      exact s_grewL h.1 h.2.1 c.1.1 c.1.2 c.2 29 0 rfl
    · rw [if_neg c]
  · refine EI.of (by decide +kernel) (Nat.le_of_ble_eq_true rfl) rfl (fun _ G => gX12_grew_0 (EI.use mb (ite10 (fun c => ?_) (fun c => ⟨?_, rfl⟩))))
    · rw [if_pos c]
      exact ml G c.1.1 c.1.2 c.2 29 0 rfl
    · rw [if_neg c]
end YEARS
