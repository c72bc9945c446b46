section PICTURE
variable {w : WD} {d : Nat} {n : NM}
theorem dy_le {r : Int → Int} (hr : RowOk r) {p : Int} (p0 : 20 ≤ p) (p1 : p < 200) : 0 ≤ r p ∧ r p ≤ 9 := by
  have := hr.1 (p - 20) (by omega) (by omega)
  rw [show 20 + (p - 20) = p by omega] at this
  exact this
theorem rp_le {r : Int → Int} (hr : RowOk r) {p : Int} (p0 : 870 ≤ p) (p1 : p < 890) : 1 ≤ r p ∧ r p ≤ 99 := by
  have := hr.2.2.2.2.2.2.2.2.2.2.1 (p - 870) (by omega) (by omega)
  rw [show 870 + (p - 870) = p by omega] at this
  exact this
def picV (r : Int → Int) (x1 x2 x3 : Int) : Int := if x3 = 0 then x2 * r (870 + 2 * r (20 + 3 * x1)) else (x2 + 1) * r (870 + 2 * r (20 + 3 * x1) + 1)
theorem st_picture {k : Int} (h : Rel k n) (x1 x2 x3 : Int) : LStp w (d + 5) k n mX11_picture [vi x1, vi x2, vi x3] mX12_picture [vi x1, vi x2, vi x3] := by
  have e147 : (upn n 145 0 0) 147 = n 147 := upn_ne (by decide)
  have hD : FR n 2 3 60 20 (n 147) := h.1.1
  have hP : FR n 29 2 10 870 (n 147) := h.1.2.2.2.2.2.2.2.2.2.2.2.2.1
  have b1 : ∀ {x : Int}, 0 ≤ x ∧ x ≤ 59 → 0 ≤ n 147 (20 + 3 * x) ∧ n 147 (20 + 3 * x) ≤ 9 := fun c => dy_le h.2.1 (by omega) (by omega)
  have b2 : 0 ≤ x1 ∧ x1 ≤ 59 → 0 ≤ x2 ∧ x2 ≤ 50 → (0 ≤ x2 * n 147 (870 + 2 * n 147 (20 + 3 * x1)) ∧ x2 * n 147 (870 + 2 * n 147 (20 + 3 * x1)) ≤ 4950) ∧ 0 ≤ (x2 + 1) * n 147 (870 + 2 * n 147 (20 + 3 * x1) + 1) ∧ (x2 + 1) * n 147 (870 + 2 * n 147 (20 + 3 * x1) + 1) ≤ 5049 := fun c c2 => by
    have q := b1 c
    have q1 := rp_le h.2.1 (p := 870 + 2 * n 147 (20 + 3 * x1)) (by omega) (by omega)
    have q2 := rp_le h.2.1 (p := 870 + 2 * n 147 (20 + 3 * x1) + 1) (by omega) (by omega)
    exact ⟨mulb (A := 50) (B := 99) c2.1 c2.2 (by omega) q1.2, mulb (A := 51) (B := 99) (by omega) (by omega) (by omega) q2.2⟩
  refine ⟨if 0 ≤ x1 ∧ x1 ≤ 59 then (if 0 ≤ x2 ∧ x2 ≤ 50 then (if 0 ≤ x3 ∧ x3 ≤ 1 then picV (n 147) x1 x2 x3 else -1) else -1) else -1, n, upn n 145 0 0, ?_, ?_, h.zero.le (by omega)⟩
  · refine EI.of (by decide +kernel) (Nat.le_of_ble_eq_true rfl) rfl (fun _ G => gX11_picture_0 (EI.use (s_within _ _ _) (ite01 (fun c => ⟨?_, rfl⟩) (fun c => EI.use (s_within _ _ _) (ite01 (fun c2 => ⟨?_, rfl⟩) (fun c2 => EI.use (s_within _ _ _) (ite10 (fun c3 => EI.use (s_fr ob_2 rfl ob_3 hD rfl (by decide) c.1 (by omega) (by decide) (by decide) (p := 20 + 3 * x1) (by omega)) ⟨fun c4 => ⟨⟨by omega, by omega⟩, EI.use (s_fr ob_29 rfl ob_30 hP rfl (by decide) (b1 c).1 (by have := b1 c; omega) (by decide) (by decide) (p := 870 + 2 * n 147 (20 + 3 * x1) + 1) rfl) ⟨?_, ?_, rfl⟩⟩, fun c4 => EI.use (s_fr ob_29 rfl ob_30 hP rfl (by decide) (b1 c).1 (by have := b1 c; omega) (by decide) (by decide) (p := 870 + 2 * n 147 (20 + 3 * x1)) (by omega)) ⟨?_, ?_, rfl⟩⟩) (fun c3 => ⟨?_, rfl⟩))))))))
    · rw [if_neg c]
    · rw [if_pos c, if_neg c2]
    · have q := b2 c c2
      exact ⟨by omega, by omega⟩
    · unfold picV
      rw [if_pos c, if_pos c2, if_pos c3, if_neg c4]
    · have q := b2 c c2
      exact ⟨by omega, by omega⟩
    · unfold picV
      rw [if_pos c, if_pos c2, if_pos c3, if_pos c4]
    · rw [if_pos c, if_pos c2, if_neg c3]
  · refine EI.of (by decide +kernel) (Nat.le_of_ble_eq_true rfl) rfl (fun _ G => gX12_picture_0 (EI.use (m_isDay _) (ite01 (fun c => ⟨?_, rfl⟩) (fun c => EI.use (m_in _ _ _) (ite01 (fun c2 => ⟨?_, rfl⟩) (fun c2 => EI.use (m_in _ _ _) (ite10 (fun c3 => ?_) (fun c3 => ⟨?_, rfl⟩))))))))
    · rw [if_neg c]
    · rw [if_pos c, if_neg c2]
    · have q := b2 c c2
      have q1 := b1 c
      rw [e147, if_pos c, if_pos c2, if_pos c3]
      refine ⟨⟨by omega, by omega⟩, ⟨by omega, by omega⟩, by omega, by omega, ⟨by omega, by omega⟩, ⟨by omega, by omega⟩, fun c4 => ⟨⟨by omega, by omega⟩, ⟨by omega, by omega⟩, by omega, by omega, ⟨by omega, by omega⟩, ?_, rfl⟩, fun c4 => ⟨by omega, by omega, ⟨by omega, by omega⟩, ?_, rfl⟩⟩
      · unfold picV
        rw [if_neg c4]
      · unfold picV
        rw [if_pos c4]
    · rw [if_pos c, if_pos c2, if_neg c3]
end PICTURE
