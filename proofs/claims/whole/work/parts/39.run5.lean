section RUN5
variable {w : WD} {d : Nat} {n : NM}
/-- both have made a world -/
def brun (n : NM) (x days seed : Int) : NM := mrunN (upn (csR (csB n) (runR (n 147) x days.toNat (0, seed, fun _ => 0))) 0 10 0) x days seed
theorem brun_t {x days seed : Int} {t : Nat} (h0 : t ≠ 0) (h1 : t ≠ 77) (h2 : t ≠ 78) (h3 : t ≠ 79) (h4 : t ≠ 145) (h5 : t ≠ 164) : brun n x days seed t = n t := by
  unfold brun mrunN msR msB
  rw [upn_ne h4, upn_ne h4, wrow_ne h5, upn_ne h4, upn_ne h4, upn_ne h0, csR_t h1 h3]
  unfold csB
  rw [upn_ne h1, upn_ne h2]
theorem st_runOk {k : Int} (h : Rel k n) {x days seed : Int} (x0 : 0 ≤ x) (x1 : x < n 147 7) (y : 1 ≤ days ∧ days ≤ 60) (s : 0 ≤ seed ∧ seed ≤ 1000000) : Rel k (brun n x days seed) := by
  have hn := h.numsOk
  have h3 := hn.2.2.2.1
  have iv := runR_inv (r := n 147) (x := x) (z := (0, seed, fun _ => 0)) (by omega) (inv0 s) days.toNat
  have e3 : (upn (csR (csB n) (runR (n 147) x days.toNat (0, seed, fun _ => 0))) 0 10 0) 147 = n 147 := by
    rw [upn_ne (by decide), csR_t (by decide) (by decide)]
    unfold csB
    rw [upn_ne (by decide), upn_ne (by decide)]
  have e147 : brun n x days seed 147 = n 147 := brun_t (by decide) (by decide) (by decide) (by decide) (by decide) (by decide)
  have e : ∀ t : Nat, decide (t ≠ 0 ∧ t ≠ 77 ∧ t ≠ 78 ∧ t ≠ 79 ∧ t ≠ 145 ∧ t ≠ 164) = true → brun n x days seed t = n t := fun t c => by
    have c := of_decide_eq_true c
    exact brun_t c.1 c.2.1 c.2.2.1 c.2.2.2.1 c.2.2.2.2.1 c.2.2.2.2.2
  have a145 : ∀ j : Int, j ≠ 0 → j ≠ 1 → j ≠ 36 → j ≠ 37 → brun n x days seed 145 j = n 145 j := fun j j0 j1 j2 j3 => by
    unfold brun mrunN msR msB
    rw [upn_i j1, upn_i j2, wrow_a (by decide), upn_i j3, upn_i j0, upn_a (by decide), csR_t (by decide) (by decide)]
    unfold csB
    rw [upn_a (by decide), upn_a (by decide)]
  have a37 : brun n x days seed 145 37 = n 147 3 := by
    unfold brun mrunN msR msB
    rw [upn_i (by decide), upn_i (by decide), wrow_a (by decide), upn_self, upn_ne (by decide), e3]
  have a1 : brun n x days seed 145 1 = 0 := by
    unfold brun mrunN
    rw [upn_self]
  have c0 : ∀ j : Int, brun n x days seed 0 j = if j = 10 then 0 else n 0 j := fun j => by
    unfold brun mrunN msR msB
    rw [upn_a (by decide), upn_a (by decide), wrow_a (by decide), upn_a (by decide), upn_a (by decide)]
    by_cases q : j = 10
    · rw [if_pos q, q, upn_self]
    · rw [if_neg q, upn_i q, csR_t (by decide) (by decide)]
      unfold csB
      rw [upn_a (by decide), upn_a (by decide)]
  have c7 : ∀ t : Nat, t ≠ 0 → t ≠ 145 → t ≠ 164 → brun n x days seed t = csR (csB n) (runR (n 147) x days.toNat (0, seed, fun _ => 0)) t := fun t a b c => by
    unfold brun mrunN msR msB
    rw [upn_ne b, upn_ne b, wrow_ne c, upn_ne b, upn_ne b, upn_ne a]
  have c771 : brun n x days seed 77 1 = 1 := by
    rw [c7 77 (by decide) (by decide) (by decide)]
    unfold csR csB
    rw [upn_i (by decide), wrow_a (by decide), upn_self]
  have c78 : brun n x days seed 78 = upn n 78 3 (n 147 3) 78 := by
    rw [c7 78 (by decide) (by decide) (by decide), csR_t (by decide) (by decide)]
    unfold csB
    rw [upn_ne (by decide)]
  have c783 : brun n x days seed 78 3 = n 147 3 := by
    rw [c78, upn_self]
  have c79 : ∀ i, 0 ≤ i → i < 36 → brun n x days seed 79 i = (runR (n 147) x days.toNat (0, seed, fun _ => 0)).2.2 i := fun i i0 i1 => by
    rw [c7 79 (by decide) (by decide) (by decide), csR_f i0 i1]
  have c164 : ∀ i, 0 ≤ i → i < 36 → brun n x days seed 164 i = (runR (n 147) x days.toNat (0, seed, fun _ => 0)).2.2 i := fun i i0 i1 => by
    unfold brun mrunN
    rw [upn_ne (by decide), msR_f i0 i1, e3]
  obtain ⟨p0, p1, p2, p3, p4, p5, p6, p7⟩ := h
  refine ⟨?_, ?_, p2.congr (fun t a b => brun_t (by omega) (by omega) (by omega) (by omega) (by omega) (by omega)) (e _ rfl) (e _ rfl) (e _ rfl), p3.congr (fun t a b => brun_t (by omega) (by omega) (by omega) (by omega) (by omega) (by omega)) (e _ rfl) (e _ rfl) (e _ rfl), p4.congr (e _ rfl) (e _ rfl) (e _ rfl) (a145 8 (by decide) (by decide) (by decide) (by decide)), ?_, ⟨⟨?_, ?_, ?_, ?_⟩, Or.inr ⟨c771, by rw [a37, c783]⟩, fun i i0 i1 => ?_⟩, p7.congr (e _ rfl)⟩
  · rw [e147]
    exact p0.congr (fun t a b => brun_t (by omega) (by omega) (by omega) (by omega) (by omega) (by omega)) (fun _ _ _ => rfl)
  · rw [e147]
    exact p1
  · unfold MiscRel at *
    rw [a1, a145 13 (by decide) (by decide) (by decide) (by decide), a145 6 (by decide) (by decide) (by decide) (by decide), c0, c0, c0, e 80 rfl, e 146 rfl]
    exact ⟨rfl, p5.2⟩
  · rw [c78, upn_i (by decide)]
    exact p6.1.1
  · rw [c78, upn_i (by decide)]
    exact p6.1.2.1
  · rw [c783]
    exact h3.1
  · rw [c783]
    exact h3.2
  · rw [c783] at i1
    have q := iv.2.2 i i0 (by omega)
    rw [c164 i i0 (by omega), c79 i i0 (by omega)]
    rw [if_neg (show ¬ i < 3 * ((0 : Nat) : Int) by omega)] at q
    exact ⟨rfl, q.1, by omega⟩
theorem st_run {k : Int} (h : Rel k n) (hk : k ≤ 900) (x1 x2 x3 : Int) : LStp w (d + 5) k n mX11_run [vi x1, vi x2, vi x3] mX12_run [vi x1, vi x2, vi x3] := by
  have hn := h.numsOk
  have h7 := hn.2.2.2.2.2.2.1
  have hS : n 21 3 = n 147 7 := h.1.2.2.2.2.2.2.2.2.1.2.1
  have er : ∀ v : Int, (upn (cref n v) 145 0 0) 147 = n 147 := fun v => by
    unfold cref
    rw [upn_ne (by decide), upn_ne (by decide), upn_ne (by decide)]
  by_cases c2 : 1 ≤ x2 ∧ x2 ≤ 60
  · by_cases c3 : 0 ≤ x3 ∧ x3 ≤ 1000000
    · by_cases c1 : 0 ≤ x1 ∧ x1 < n 147 7
      · have mk := s_make (w := w) (d := d) h.1 h.2.1 hn h.2.2.2.2.2.2.1.1 c1.1 c1.2 c2 c3
        have e3 : (upn (csR (csB n) (runR (n 147) x1 x2.toNat (0, x3, fun _ => 0))) 0 10 0) 147 = n 147 := by
          rw [upn_ne (by decide), csR_t (by decide) (by decide)]
          unfold csB
          rw [upn_ne (by decide), upn_ne (by decide)]
        have mr := m_runOk (w := w) (d := d + 1) (n := upn (csR (csB n) (runR (n 147) x1 x2.toNat (0, x3, fun _ => 0))) 0 10 0) (x := x1) (days := x2) (seed := x3) (by rw [e3]; exact h.2.1) (by rw [e3]; exact hn) c1.1 (by rw [e3]; exact c1.2) c2 c3
        rw [e3] at mr
        exact ⟨_, _, _, EI.of (by decide +kernel) (Nat.le_of_ble_eq_true rfl) rfl (fun _ G => gX11_run_0 (EI.use (s_within _ _ _) (ite01 (fun z => absurd c2 z) (fun _ => EI.use (s_within _ _ _) (ite10 (fun _ => EI.use (s_holds ob_21 (c := 22) rfl ob_22 _) (ite10 (fun _ => EI.use mk (EI.use (s_accept _) ⟨rfl, rfl⟩)) (fun z => absurd (by omega) z))) (fun z => absurd c3 z)))))), mr, (st_runOk h c1.1 c1.2 c2 c3).le (by omega)⟩
      · have r := stp_ref (w := w) (d := d + 4) h hk (v := -2) (by omega)
        exact ⟨_, _, _, EI.of (by decide +kernel) (Nat.le_of_ble_eq_true rfl) rfl (fun _ G => gX11_run_0 (EI.use (s_within _ _ _) (ite01 (fun z => absurd c2 z) (fun _ => EI.use (s_within _ _ _) (ite10 (fun _ => EI.use (s_holds ob_21 (c := 22) rfl ob_22 _) (ite10 (fun z => absurd (by omega) c1) (fun _ => EI.use r.1 ⟨rfl, rfl⟩))) (fun z => absurd c3 z)))))),
          EI.of (by decide +kernel) (Nat.le_of_ble_eq_true rfl) rfl (fun _ G => gX12_run_0 (EI.use (m_in _ _ _) (ite01 (fun z => absurd c2 z) (fun _ => EI.use (m_in _ _ _) (ite10 (fun _ => EI.use (m_is (by decide) (by decide) (by rw [er]; omega)) (ite10 (fun z => absurd (by rw [er] at z; omega) c1) (fun _ => EI.use r.2.1 ⟨rfl, rfl⟩))) (fun z => absurd c3 z)))))), r.2.2⟩
    · have r := stp_ref (w := w) (d := d + 4) h hk (v := -1) (by omega)
      exact ⟨_, _, _, EI.of (by decide +kernel) (Nat.le_of_ble_eq_true rfl) rfl (fun _ G => gX11_run_0 (EI.use (s_within _ _ _) (ite01 (fun z => absurd c2 z) (fun _ => EI.use (s_within _ _ _) (ite10 (fun z => absurd z c3) (fun _ => EI.use r.1 ⟨rfl, rfl⟩)))))),
        EI.of (by decide +kernel) (Nat.le_of_ble_eq_true rfl) rfl (fun _ G => gX12_run_0 (EI.use (m_in _ _ _) (ite01 (fun z => absurd c2 z) (fun _ => EI.use (m_in _ _ _) (ite10 (fun z => absurd z c3) (fun _ => EI.use r.2.1 ⟨rfl, rfl⟩)))))), r.2.2⟩
  · have r := stp_ref (w := w) (d := d + 4) h hk (v := -1) (by omega)
    exact ⟨_, _, _, EI.of (by decide +kernel) (Nat.le_of_ble_eq_true rfl) rfl (fun _ G => gX11_run_0 (EI.use (s_within _ _ _) (ite01 (fun _ => EI.use r.1 ⟨rfl, rfl⟩) (fun z => absurd z c2)))),
      EI.of (by decide +kernel) (Nat.le_of_ble_eq_true rfl) rfl (fun _ G => gX12_run_0 (EI.use (m_in _ _ _) (ite01 (fun _ => EI.use r.2.1 ⟨rfl, rfl⟩) (fun z => absurd z c2)))), r.2.2⟩
end RUN5
