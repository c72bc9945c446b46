section RUN2
variable {w : WD} {d : Nat} {n : NM} {G : GM} {Q : Option AV → Hp → Prop}
theorem m_dayL {x days : Int} {D : Nat} {z : RS} (hr : RowOk (n 147)) (hn : NumsOk (n 147)) (x0 : 0 ≤ x) (x1 : x < n 147 7) (hD : D ≤ 59) (hz : InvR D 0 z)
    (K : Rn w mX12_run (d + 4) G Q 98 [(0, vr 145), (1, vi x), (2, vi days), (4, vi (dayR (n 147) x (D : Int) (n 147 3).toNat z).1), (5, vi ((D : Int) + 1))] [] (B0, msR n (dayR (n 147) x (D : Int) (n 147 3).toNat z))) :
    ∀ (m j : Nat), (j : Int) + m = n 147 3 → Rn w mX12_run (d + 4) G Q 107 [(0, vr 145), (1, vi x), (2, vi days), (4, vi (dayR (n 147) x (D : Int) j z).1), (5, vi (D : Int)), (6, vi (j : Int))] [] (B0, msR n (dayR (n 147) x (D : Int) j z))
  | 0, j, hj => by
    have ej : (n 147 3).toNat = j := by omega
    rw [ej] at K
    exact gX12_run_107 ⟨fun _ => ⟨⟨by omega, by omega⟩, K⟩, fun c => absurd c (by rw [msR_147]; omega)⟩
  | m + 1, j, hj => by
    have nxt := m_dayL hr hn x0 x1 hD hz K m (j + 1) (by omega)
    have h3 := hn.2.2.2.1
    have h7 := hn.2.2.2.2.2.2.1
    have iv := dayR_inv (r := n 147) (x := x) (day := (D : Int)) hz j
    have e : dayR (n 147) x (D : Int) (j + 1) z = stepR (n 147) x (D : Int) j (dayR (n 147) x (D : Int) j z) := rfl
    rw [e] at nxt
    generalize dayR (n 147) x (D : Int) j z = y at iv nxt ⊢
    obtain ⟨i1, i2, i3⟩ := iv
    have dl := drS_le (s := y.2.1)
    have dr := m_draw (w := w) (d := d + 3) (n := msR n y) (m := 100) (by rw [msR_s]; exact i1.1) (by rw [msR_s]; exact i1.2) (by decide) (by decide)
    rw [msR_s, msR_up (c := y.1)] at dr
    have lk := m_look (w := w) (d := d) (n := msR n (y.1, drS y.2.1, y.2.2)) (x := x) (day := (D : Int)) (by rw [msR_147]; exact hr) (by rw [msR_147]; exact hn) x0 (by rw [msR_147]; exact x1) (by omega) (by omega) (by rw [msR_s]; exact dl.1) (by rw [msR_s]; exact dl.2)
    rw [msR_s, msR_147, msR_up (c := y.1 + 1)] at lk
    dsimp only at lk
    have b1 := hr.2.2.2.1 j (by omega) (by omega)
    have b2 := dy_le hr (p := 20 + 3 * (D : Int) + 2) (by omega) (by omega)
    have lq := lookQ_le (r := n 147) (x := x) (day := (D : Int)) (s := drS y.2.1)
    refine gX12_run_107 ⟨fun c => absurd c (by rw [msR_147]; omega), fun _ => EI.use dr ?_⟩
    rw [msR_147]
    refine ⟨⟨by omega, by omega⟩, by omega, by omega, ⟨by omega, by omega⟩, ⟨by omega, by omega⟩, ⟨by omega, by omega⟩, by omega, by omega, ⟨by omega, by omega⟩, fun c => ⟨⟨by omega, by omega⟩, ?_⟩, fun c => ⟨⟨by omega, by omega⟩, EI.use lk ?_⟩⟩
    · rw [show stepR (n 147) x (D : Int) j y = (y.1, drS y.2.1, y.2.2) from if_pos c] at nxt
      exact nxt
    · have q := i3 (3 * (j : Int) + lookQ (n 147) x (D : Int) (drS y.2.1)) (by omega) (by omega)
      rw [if_neg (by omega)] at q
      have ef : msR n (y.1 + 1, lookS (n 147) x (D : Int) (drS y.2.1), y.2.2) 164 (3 * (j : Int) + lookQ (n 147) x (D : Int) (drS y.2.1)) = y.2.2 (3 * (j : Int) + lookQ (n 147) x (D : Int) (drS y.2.1)) := msR_f (by omega) (by omega)
      rw [show stepR (n 147) x (D : Int) j y = (y.1 + 1, lookS (n 147) x (D : Int) (drS y.2.1), fun i => if i = 3 * (j : Int) + lookQ (n 147) x (D : Int) (drS y.2.1) then y.2.2 i + 1 else y.2.2 i) from if_neg (by omega)] at nxt
      rw [ef, msR_put (by omega) (by omega) rfl]
      exact ⟨⟨by omega, by omega⟩, ⟨by omega, by omega⟩, by omega, by omega, ⟨by omega, by omega⟩, by omega, by omega, ⟨by omega, by omega⟩, nxt⟩
theorem runR_inv {r : Int → Int} {x : Int} {z : RS} (hN : (r 3).toNat ≤ 12) (h : InvR 0 0 z) : ∀ k : Nat, InvR k 0 (runR r x k z)
  | 0 => h
  | k + 1 => inv_up hN (dayR_inv (runR_inv hN h k) _)
theorem m_runL {x : Int} {T : Nat} {z : RS} (hr : RowOk (n 147)) (hn : NumsOk (n 147)) (x0 : 0 ≤ x) (x1 : x < n 147 7) (hT : T ≤ 60) (hz : InvR 0 0 z) :
    ∀ (m D : Nat), D + m = T → Rn w mX12_run (d + 4) G (fun r h' => r = some (vi (runR (n 147) x T z).1) ∧ h' = (B0, upn (msR n (runR (n 147) x T z)) 145 1 0)) 98 [(0, vr 145), (1, vi x), (2, vi (T : Int)), (4, vi (runR (n 147) x D z).1), (5, vi (D : Int))] [] (B0, msR n (runR (n 147) x D z))
  | 0, D, hD => by
    have eD : D = T := by omega
    subst eD
    have iv := runR_inv (r := n 147) (x := x) (by have := hn.2.2.2.1; omega) hz D
    exact gX12_run_98 ⟨fun _ => EI.use (m_tell0 iv.2.1.1) ⟨rfl, rfl⟩, fun c => absurd c (by omega)⟩
  | m + 1, D, hD => by
    have nxt := m_runL hr hn x0 x1 hT hz m (D + 1) (by omega)
    have iv := runR_inv (r := n 147) (x := x) (by have := hn.2.2.2.1; omega) hz D
    exact gX12_run_98 ⟨fun c => absurd c (by omega), fun _ => m_dayL (z := runR (n 147) x D z) hr hn x0 x1 (by omega) iv nxt (n 147 3).toNat 0 (by have := hn.2.2.2.1; omega)⟩
/-- the model's numbers as a run begins -/
def msB (n : NM) : NM := upn n 145 37 (n 147 3)
theorem m_clearL {x seed days : Int} (K : Rn w mX12_run d G Q 98 [(0, vr 145), (1, vi x), (2, vi days), (4, vi 0), (5, vi 0)] [] (B0, msR (msB n) (0, seed, fun _ => 0))) :
    ∀ (m j : Nat), j + m = 36 → Rn w mX12_run d G Q 55 [(0, vr 145), (1, vi x), (2, vi days), (3, vi seed), (4, vi (j : Int))] [] (B0, wrow n 164 0 (j : Int) (fun _ => 0))
  | 0, j, hj => by
    have ej : j = 36 := by omega
    subst ej
    have e : upn (upn (wrow n 164 0 36 (fun _ => 0)) 145 37 (wrow n 164 0 36 (fun _ => 0) 147 3)) 145 36 seed = msR (msB n) (0, seed, fun _ => 0) := by
      rw [wrow_a (show (147 : Nat) ≠ 164 by decide)]
      unfold msR msB
      congr 1
      funext a b
      by_cases c : a = 164
      · subst c
        rw [upn_a (by decide)]
        by_cases c2 : 0 ≤ b ∧ b < 36
        · rw [wrow_in (by omega) (by omega), wrow_in (by omega) (by omega)]
        · rw [wrow_out (by omega), wrow_out (by omega), upn_a (by decide)]
      · rw [wrow_a c, upn_ap, upn_ap, wrow_a c]
    refine gX12_run_55 ⟨fun _ => ?_, fun c => absurd c (by decide)⟩
    rw [show ((36 : Nat) : Int) = 36 from rfl, e]
    exact K
  | m + 1, j, hj => by
    have nxt := m_clearL K m (j + 1) (by omega)
    refine gX12_run_55 ⟨fun c => absurd c (by omega), fun _ => ⟨by omega, by omega, ⟨by omega, by omega⟩, ?_⟩⟩
    rw [wrow_more (by omega) (by omega) rfl]
    exact nxt
/-- what the model's run leaves -/
def mrunN (n : NM) (x days seed : Int) : NM := upn (msR (msB (upn n 145 0 0)) (runR (n 147) x days.toNat (0, seed, fun _ => 0))) 145 1 0
theorem m_runOk {x days seed : Int} (hr : RowOk (n 147)) (hn : NumsOk (n 147)) (x0 : 0 ≤ x) (x1 : x < n 147 7) (y : 1 ≤ days ∧ days ≤ 60) (s : 0 ≤ seed ∧ seed ≤ 1000000) : EI w (d + 4) mX12_run [vr 145, vi x, vi days, vi seed] B0 n (runR (n 147) x days.toNat (0, seed, fun _ => 0)).1 (mrunN n x days seed) := by
  have e147 : (upn n 145 0 0) 147 = n 147 := upn_ne (by decide)
  have eB : (msB (upn n 145 0 0)) 147 = n 147 := by
    unfold msB
    rw [upn_ne (by decide), e147]
  have h7 := hn.2.2.2.2.2.2.1
  have hz : InvR 0 0 (0, seed, fun _ => 0) := ⟨⟨s.1, by show seed ≤ 1000002; omega⟩, ⟨Int.le_refl _, by show (0 : Int) ≤ _; omega⟩, fun i i0 i1 => ⟨Int.le_refl _, by show (0 : Int) ≤ _; split <;> omega⟩⟩
  have rl := fun G : GM => m_runL (w := w) (d := d) (G := G) (n := msB (upn n 145 0 0)) (x := x) (T := days.toNat) (z := (0, seed, fun _ => 0)) (by rw [eB]; exact hr) (by rw [eB]; exact hn) x0 (by rw [eB]; exact x1) (by omega) hz days.toNat 0 (by omega)
  rw [eB, show ((days.toNat : Nat) : Int) = days by omega] at rl
  have cl := fun G : GM => m_clearL (n := upn n 145 0 0) (rl G) 36 0 rfl
  rw [show wrow (upn n 145 0 0) 164 0 ((0 : Nat) : Int) (fun _ => 0) = upn n 145 0 0 from wrow_0] at cl
  refine EI.of (by decide +kernel) (Nat.le_of_ble_eq_true rfl) rfl (fun _ G => gX12_run_0 (EI.use (m_in _ _ _) (ite01 (fun c => absurd y c) (fun _ => EI.use (m_in _ _ _) (ite10 (fun _ => EI.use (m_is (by decide) (by decide) (by rw [e147]; omega)) (ite10 (fun _ => cl G) (fun c => absurd (by rw [e147]; omega) c))) (fun c => absurd s c))))))
end RUN2
