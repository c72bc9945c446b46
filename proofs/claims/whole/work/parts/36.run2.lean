section RUN2
variable {w : WD} {d : Nat} {n : NM} {G : GM} {Q : Option AV → Hp → Prop}
theorem m_dayL {x days : Int} {D : Nat} {z : RS} (hr : RowOk (n 147)) (hn : NumsOk (n 147)) (x0 : 0 ≤ x) (x1 : x < n 147 7) (hD : D ≤ 59) (hz : InvR D 0 z)
    (K : Rn w mX12_run (d + 4) G Q 98 [(0, vr 145), (1, vi x), (2, vi days), (4, vi (dayR (n 147) x (D : Int) (n 147 3).toNat z).1), (5, vi ((D : Int) + 1))] [] (B0, msR n (dayR (n 147) x (D : Int) (n 147 3).toNat z))) :
    ∀ (m j : Nat), (j : Int) + m = n 147 3 → Rn w mX12_run (d + 4) G Q 107 [(0, vr 145), (1, vi x), (2, vi days), (4, vi (dayR (n 147) x (D : Int) j z).1), (5, vi (D : Int)), (6, vi (j : Int))] [] (B0, msR n (dayR (n 147) x (D : Int) j z))
  | 0, j, hj => by
    have ej : (n 147 3).toNat = j := by omega
    rw [ej] at K
    exact gX12_run_107 ⟨fun _ => ⟨⟨by omega, by omega⟩, K⟩, fun c => absurd c (by rw [msR_147]; omega)⟩
  | m + 1, j, hj => by
    have nxt := m_dayL hr hn x0 x1 hD hz K m (j + 1) (by omega)
    have h3 := hn.2.2.2.1
    have h7 := hn.2.2.2.2.2.2.1
    have iv := dayR_inv (r := n 147) (x := x) (day := (D : Int)) hz j
    have e : dayR (n 147) x (D : Int) (j + 1) z = stepR (n 147) x (D : Int) j (dayR (n 147) x (D : Int) j z) := rfl
    rw [e] at nxt
    generalize dayR (n 147) x (D : Int) j z = y at iv nxt ⊢
    obtain ⟨i1, i2, i3⟩ := iv
    have dl := drS_le (s := y.2.1)
    have dr := m_draw (w := w) (d := d + 3) (n := msR n y) (m := 100) (by rw [msR_s]; exact i1.1) (by rw [msR_s]; exact i1.2) (by decide) (by decide)
    rw [msR_s, msR_up (c := y.1)] at dr
    have lk := m_look (w := w) (d := d) (n := msR n (y.1, drS y.2.1, y.2.2)) (x := x) (day := (D : Int)) (by rw [msR_147]; exact hr) (by rw [msR_147]; exact hn) x0 (by rw [msR_147]; exact x1) (by omega) (by omega) (by rw [msR_s]; exact dl.1) (by rw [msR_s]; exact dl.2)
    rw [msR_s, msR_147, msR_up (c := y.1 + 1)] at lk
    dsimp only at lk
    have b1 := hr.2.2.2.1 j (by omega) (by omega)
    have b2 := dy_le hr (p := 20 + 3 * (D : Int) + 2) (by omega) (by omega)
    have lq := lookQ_le (r := n 147) (x := x) (day := (D : Int)) (s := drS y.2.1)
    refine gX12_run_107 ⟨fun c => absurd c (by rw [msR_147]; omega), fun _ => EI.use dr ?_⟩
    rw [msR_147]
    refine ⟨⟨by omega, by omega⟩, by omega, by omega, ⟨by omega, by omega⟩, ⟨by omega, by omega⟩, ⟨by omega, by omega⟩, by omega, by omega, ⟨by omega, by omega⟩, fun c => ⟨⟨by omega, by omega⟩, ?_⟩, fun c => ⟨⟨by omega, by omega⟩, EI.use lk ?_⟩⟩
    · rw [show stepR (n 147) x (D : Int) j y = (y.1, drS y.2.1, y.2.2) from if_pos c] at nxt
      exact nxt
    · have q := i3 (3 * (j : Int) + lookQ (n 147) x (D : Int) (drS y.2.1)) (by omega) (by omega)
      rw [if_neg (by omega)] at q
      have ef : msR n (y.1 + 1, lookS (n 147) x (D : Int) (drS y.2.1), y.2.2) 164 (3 * (j : Int) + lookQ (n 147) x (D : Int) (drS y.2.1)) = y.2.2 (3 * (j : Int) + lookQ (n 147) x (D : Int) (drS y.2.1)) := msR_f (by omega) (by omega)
      rw [show stepR (n 147) x (D : Int) j y = (y.1 + 1, lookS (n 147) x (D : Int) (drS y.2.1), fun i => if i = 3 * (j : Int) + lookQ (n 147) x (D : Int) (drS y.2.1) then y.2.2 i + 1 else y.2.2 i) from if_neg (by omega)] at nxt
      rw [ef, msR_put (by omega) (by omega) rfl]
      exact ⟨⟨by omega, by omega⟩, ⟨by omega, by omega⟩, by omega, by omega, ⟨by omega, by omega⟩, by omega, by omega, ⟨by omega, by omega⟩, nxt⟩
end RUN2
