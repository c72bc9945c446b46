section STEPS2
variable {w : WD} {d : Nat} {n : NM}
theorem s_exchange {B : HB} {t c L : Nat} (ot : Obj B t 7 4) (rt : rf B t 0 = some c) (oc : Obj B c 100 L) {W R : Int} (hT : TW n t W R) (hL : R * W = (L : Int)) (hL2 : (L : Int) ≤ 100000) (x y v : Int) : EI w (d + 2) mX7_exchange [vr t, vi x, vi y, vi v] B n (tg n t c x y) (tset n t c x y v) :=
  EI.of (by decide +kernel) (Nat.le_of_ble_eq_true rfl) rfl (fun _ G => gX7_exchange_0 ot rt oc (EI.use (s_get ot rt oc hT hL hL2 x y) (EV.use (s_set ot rt oc hT hL hL2 x y v) ⟨rfl, rfl⟩)))
theorem tg_in {t c : Nat} {i j W R : Int} (hT : TW n t W R) (h0 : 0 ≤ i) (h1 : i < n t 3) (h2 : 0 ≤ j) (h3 : j < W) : tg n t c i j = n c (i * W + j) := by
  unfold tg
  rw [hT.1, if_pos ⟨h0, h1, h2, h3⟩]
theorem c_log {x1 x2 x : Int} {n2 : NM} (ref : ¬ ((0 ≤ x1 ∧ x1 ≤ 59) ∧ 0 ≤ x2 ∧ x2 ≤ 23) → EI w (d + 3) mX11_refuse [vr 0, vi (-1)] B0 n x n2) (add : ((0 ≤ x1 ∧ x1 ≤ 59) ∧ 0 ≤ x2 ∧ x2 ≤ 23) → EI w (d + 3) mX11_addTo [vr 0, vr 8, vi x1, vi x2, vi 0, vi 0] B0 n x n2) : EI w (d + 4) mX11_log [vr 0, vi x1, vi x2] B0 n x n2 :=
  EI.of (by decide +kernel) (Nat.le_of_ble_eq_true rfl) rfl (fun _ G => gX11_log_0 (EI.use (s_within _ _ _) (ite01 (fun c1 => EI.use (ref (by omega)) ⟨rfl, rfl⟩) (fun c1 => EI.use (s_within _ _ _) (ite10 (fun c2 => EI.use (add (by omega)) ⟨rfl, rfl⟩) (fun c2 => EI.use (ref (by omega)) ⟨rfl, rfl⟩))))))
theorem m_log {x1 x2 x : Int} {n2 : NM} (ref : ¬ ((0 ≤ x1 ∧ x1 ≤ 59) ∧ 0 ≤ x2 ∧ x2 ≤ 23) → EI w (d + 3) mX12_tell [vr 145, vi (-1)] B0 (upn n 145 0 0) x n2) (add : ((0 ≤ x1 ∧ x1 ≤ 59) ∧ 0 ≤ x2 ∧ x2 ≤ 23) → EI w (d + 3) mX12_add [vr 145, vi 2, vi 12, vi 300, vi 2, vi x1, vi x2, vi 0, vi 0] B0 (upn n 145 0 0) x n2) : EI w (d + 4) mX12_log [vr 145, vi x1, vi x2] B0 n x n2 :=
  EI.of (by decide +kernel) (Nat.le_of_ble_eq_true rfl) rfl (fun _ G => gX12_log_0 (EI.use (m_isDay _) (ite01 (fun c1 => EI.use (ref (by omega)) ⟨rfl, rfl⟩) (fun c1 => EI.use (m_isPlace _) (ite10 (fun c2 => EI.use (add (by omega)) ⟨rfl, rfl⟩) (fun c2 => EI.use (ref (by omega)) ⟨rfl, rfl⟩))))))
theorem st_log {k : Int} (h : Rel k n) (hk : k ≤ 900) (x1 x2 : Int) : LStp w (d + 4) k n mX11_log [vi x1, vi x2] mX12_log [vi x1, vi x2] := by
  obtain ⟨x, n1, n2, r1, r2, r3, r4, r5, _⟩ := stp_add (w := w) (d := d) h hk ob_8 (t := 8) rfl ob_9 (by decide) (by decide) (h.1.2.2.2.1) (by decide) rfl (by decide) (by decide) (by decide) (by decide) (by decide) (by decide) (fun o hf => h.add_logs hf) (ok := (0 ≤ x1 ∧ x1 ≤ 59) ∧ 0 ≤ x2 ∧ x2 ≤ 23) (a := x1) (b := x2) (e := 0) (f := 0)
  exact ⟨x, n1, n2, c_log r1 r2, m_log r3 r4, r5⟩
theorem c_pole {x1 x2 x3 x : Int} {n2 : NM} (ref : ¬ ((1 ≤ x2 ∧ x2 ≤ 99) ∧ 1 ≤ x3 ∧ x3 ≤ 200) → EI w (d + 3) mX11_refuse [vr 0, vi (-1)] B0 n x n2) (non : ((1 ≤ x2 ∧ x2 ≤ 99) ∧ 1 ≤ x3 ∧ x3 ≤ 200) → ¬ (0 ≤ x1 ∧ x1 < n 10 3) → EI w (d + 3) mX11_refuse [vr 0, vi (-2)] B0 n x n2)
    (add : ((1 ≤ x2 ∧ x2 ≤ 99) ∧ 1 ≤ x3 ∧ x3 ≤ 200) → (0 ≤ x1 ∧ x1 < n 10 3) → EI w (d + 3) mX11_addTo [vr 0, vr 12, vi x1, vi x2, vi x3, vi 0] B0 n x n2) : EI w (d + 4) mX11_pole [vr 0, vi x1, vi x2, vi x3] B0 n x n2 :=
  EI.of (by decide +kernel) (Nat.le_of_ble_eq_true rfl) rfl (fun _ G => gX11_pole_0 (EI.use (s_within _ _ _) (ite01 (fun c1 => EI.use (ref (by omega)) ⟨rfl, rfl⟩) (fun c1 => EI.use (s_within _ _ _) (ite10 (fun c2 => EI.use (s_holds ob_10 (c := 11) rfl ob_11 _) (ite10 (fun c3 => EI.use (add ⟨c1, c2⟩ c3) ⟨rfl, rfl⟩) (fun c3 => EI.use (non ⟨c1, c2⟩ c3) ⟨rfl, rfl⟩))) (fun c2 => EI.use (ref (by omega)) ⟨rfl, rfl⟩))))))
theorem m_pole {x1 x2 x3 x : Int} {n2 : NM} (hb : 0 ≤ n 147 3 ∧ n 147 3 ≤ 1000000) (ref : ¬ ((1 ≤ x2 ∧ x2 ≤ 99) ∧ 1 ≤ x3 ∧ x3 ≤ 200) → EI w (d + 3) mX12_tell [vr 145, vi (-1)] B0 (upn n 145 0 0) x n2) (non : ((1 ≤ x2 ∧ x2 ≤ 99) ∧ 1 ≤ x3 ∧ x3 ≤ 200) → ¬ (0 ≤ x1 ∧ x1 ≤ n 147 3 - 1) → EI w (d + 3) mX12_tell [vr 145, vi (-2)] B0 (upn n 145 0 0) x n2)
    (add : ((1 ≤ x2 ∧ x2 ≤ 99) ∧ 1 ≤ x3 ∧ x3 ≤ 200) → (0 ≤ x1 ∧ x1 ≤ n 147 3 - 1) → EI w (d + 3) mX12_add [vr 145, vi 4, vi 20, vi 350, vi 3, vi x1, vi x2, vi x3, vi 0] B0 (upn n 145 0 0) x n2) : EI w (d + 4) mX12_pole [vr 145, vi x1, vi x2, vi x3] B0 n x n2 :=
  EI.of (by decide +kernel) (Nat.le_of_ble_eq_true rfl) rfl (fun _ G => gX12_pole_0 (EI.use (m_in _ _ _) (ite01 (fun c1 => EI.use (ref (by omega)) ⟨rfl, rfl⟩) (fun c1 => EI.use (m_in _ _ _) (ite10 (fun c2 => EI.use (m_is (n := upn n 145 0 0) (by decide) (by decide) hb) (ite10 (fun c3 => EI.use (add ⟨c1, c2⟩ c3) ⟨rfl, rfl⟩) (fun c3 => EI.use (non ⟨c1, c2⟩ c3) ⟨rfl, rfl⟩))) (fun c2 => EI.use (ref (by omega)) ⟨rfl, rfl⟩))))))
theorem st_pole {k : Int} (h : Rel k n) (hk : k ≤ 900) (x1 x2 x3 : Int) : LStp w (d + 4) k n mX11_pole [vi x1, vi x2, vi x3] mX12_pole [vi x1, vi x2, vi x3] := by
  have hc : n 10 3 = n 147 3 := h.1.2.2.2.2.1.2.1
  have hc0 : 0 ≤ n 10 3 ∧ n 10 3 ≤ 12 := h.1.2.2.2.2.1.1.2.2
  have e3 : ∀ v : Int, cref n v 147 = n 147 := fun v => by
    unfold cref
    rw [upn_ne (by decide), upn_ne (by decide)]
  by_cases held : 0 ≤ x1 ∧ x1 < n 10 3
  · obtain ⟨x, n1, n2, r1, r2, r3, r4, r5, r6⟩ := stp_add (w := w) (d := d) h hk ob_12 (t := 12) rfl ob_13 (by decide) (by decide) (h.1.2.2.2.2.2.1) (by decide) rfl (by decide) (by decide) (by decide) (by decide) (by decide) (by decide) (fun o hf => h.add_poles hf o) (ok := (1 ≤ x2 ∧ x2 ≤ 99) ∧ 1 ≤ x3 ∧ x3 ≤ 200) (a := x1) (b := x2) (e := x3) (f := 0)
    exact ⟨x, n1, n2, c_pole r1 (fun _ q => absurd held q) (fun o _ => r2 o), m_pole (by rw [r6]; omega) r3 (fun _ q => absurd (by rw [r6]; omega) q) (fun o _ => r4 o), r5⟩
  · by_cases o : (1 ≤ x2 ∧ x2 ≤ 99) ∧ 1 ≤ x3 ∧ x3 ≤ 200
    · have r := stp_ref (w := w) (d := d + 3) h hk (v := -2) (by omega)
      exact ⟨_, _, _, c_pole (fun q => absurd o q) (fun _ _ => r.1) (fun _ q => absurd q held), m_pole (by rw [e3]; omega) (fun q => absurd o q) (fun _ _ => r.2.1) (fun _ q => absurd (by rw [e3] at q; omega) held), r.2.2⟩
    · have r := stp_ref (w := w) (d := d + 3) h hk (v := -1) (by omega)
      exact ⟨_, _, _, c_pole (fun _ => r.1) (fun q => absurd q o) (fun q => absurd q o), m_pole (by rw [e3]; omega) (fun _ => r.2.1) (fun q => absurd q o) (fun q => absurd q o), r.2.2⟩
theorem cref147 (v : Int) : cref n v 147 = n 147 := by
  unfold cref
  rw [upn_ne (by decide), upn_ne (by decide)]
theorem c_day {x1 x2 x3 x : Int} {n2 : NM} (hT : TW n 2 3 60) (hS : n 2 3 = 60) (ref : ¬ ((0 ≤ x1 ∧ x1 ≤ 59) ∧ (0 ≤ x2 ∧ x2 ≤ 2) ∧ 0 ≤ x3 ∧ x3 ≤ 9) → EI w (d + 3) mX11_refuse [vr 0, vi (-1)] B0 n x n2) (put : ((0 ≤ x1 ∧ x1 ≤ 59) ∧ (0 ≤ x2 ∧ x2 ≤ 2) ∧ 0 ≤ x3 ∧ x3 ≤ 9) → x = n 3 (x1 * 3 + x2) ∧ n2 = upn (upn n 3 (x1 * 3 + x2) x3) 0 10 0) : EI w (d + 4) mX11_day [vr 0, vi x1, vi x2, vi x3] B0 n x n2 := by
  have lf : (0 ≤ x1 ∧ x1 ≤ 59) → (0 ≤ x2 ∧ x2 ≤ 2) → (0 ≤ x3 ∧ x3 ≤ 9) → (some (vi (tg n 2 3 x1 x2)) = some (vi x) ∧ (B0, upn (tset n 2 3 x1 x2 x3) 0 10 0) = (B0, n2)) := fun c1 c2 c3 => by
    obtain ⟨e1, e2⟩ := put ⟨c1, c2, c3⟩
    rw [e1, e2, tg_in hT c1.1 (by omega) c2.1 (by omega), tset_eq hT c1.1 (by omega) c2.1, if_pos (by omega)]
    exact ⟨rfl, rfl⟩
  exact EI.of (by decide +kernel) (Nat.le_of_ble_eq_true rfl) rfl (fun _ G => gX11_day_0 (EI.use (s_within _ _ _) (ite01 (fun c1 => EI.use (ref (by omega)) ⟨rfl, rfl⟩) (fun c1 => EI.use (s_within _ _ _) (ite01 (fun c2 => EI.use (ref (by omega)) ⟨rfl, rfl⟩) (fun c2 => EI.use (s_within _ _ _) (ite10 (fun c3 => EI.use (s_exchange ob_2 (c := 3) rfl ob_3 hT rfl (by decide) _ _ _) (EI.use (s_accept _) (lf c1 c2 c3))) (fun c3 => EI.use (ref (by omega)) ⟨rfl, rfl⟩))))))))
theorem m_day {x1 x2 x3 x : Int} {n2 : NM} (ref : ¬ ((0 ≤ x1 ∧ x1 ≤ 59) ∧ (0 ≤ x2 ∧ x2 ≤ 2) ∧ 0 ≤ x3 ∧ x3 ≤ 9) → EI w (d + 3) mX12_tell [vr 145, vi (-1)] B0 (upn n 145 0 0) x n2) (put : ((0 ≤ x1 ∧ x1 ≤ 59) ∧ (0 ≤ x2 ∧ x2 ≤ 2) ∧ 0 ≤ x3 ∧ x3 ≤ 9) → EI w (d + 3) mX12_tell [vr 145, vi (n 147 ((20 + (3 * x1)) + x2))] B0 (upn (upn n 145 0 0) 147 ((20 + (3 * x1)) + x2) x3) x n2) : EI w (d + 4) mX12_day [vr 145, vi x1, vi x2, vi x3] B0 n x n2 :=
  EI.of (by decide +kernel) (Nat.le_of_ble_eq_true rfl) rfl (fun _ G => gX12_day_0 (EI.use (m_isDay _) (ite01 (fun c1 => EI.use (ref (by omega)) ⟨rfl, rfl⟩) (fun c1 => EI.use (m_in _ _ _) (ite01 (fun c2 => EI.use (ref (by omega)) ⟨rfl, rfl⟩) (fun c2 => EI.use (m_in _ _ _) (ite10 (fun c3 => ⟨⟨by omega, by omega⟩, ⟨by omega, by omega⟩, ⟨by omega, by omega⟩, by omega, by omega, ⟨by omega, by omega⟩, ⟨by omega, by omega⟩, ⟨by omega, by omega⟩, by omega, by omega, EI.use (put ⟨c1, c2, c3⟩) ⟨rfl, rfl⟩⟩) (fun c3 => EI.use (ref (by omega)) ⟨rfl, rfl⟩))))))))
theorem st_day {k : Int} (h : Rel k n) (hk : k ≤ 900) (x1 x2 x3 : Int) : LStp w (d + 4) k n mX11_day [vi x1, vi x2, vi x3] mX12_day [vi x1, vi x2, vi x3] := by
  have hF : FR n 2 3 60 20 (n 147) := h.1.1
  by_cases o : (0 ≤ x1 ∧ x1 ≤ 59) ∧ (0 ≤ x2 ∧ x2 ≤ 2) ∧ 0 ≤ x3 ∧ x3 ≤ 9
  · refine ⟨(n 147 (20 + (x1 * 3 + x2))), upn (upn n 3 (x1 * 3 + x2) x3) 0 10 0, b1 n 3 (x1 * 3 + x2) 20 x3, c_day hF.1 hF.2.1 (fun q => absurd o q) (fun _ => ⟨?_, rfl⟩), m_day (fun q => absurd o q) (fun _ => ?_), (h.put_days (by omega) (by omega) ⟨o.2.2.1, o.2.2.2⟩).le (by omega)⟩
    · exact (hF.2.2 _ (by omega) (by omega)).symm
    · have e : upn (upn n 3 (x1 * 3 + x2) x3) 0 10 0 147 = n 147 := by
        rw [upn_ne (by decide), upn_ne (by decide)]
      have hi : (20 + (3 * x1)) + x2 = 20 + (x1 * 3 + x2) := by omega
      rw [e, hi]
      have := h.2.1.1 (x1 * 3 + x2) (by omega) (by omega)
      exact m_tell0 this.1
  · have r := stp_ref (w := w) (d := d + 3) h hk (v := -1) (by omega)
    exact ⟨_, _, _, c_day hF.1 hF.2.1 (fun _ => r.1) (fun q => absurd q o), m_day (fun _ => r.2.1) (fun q => absurd q o), r.2.2⟩
theorem c_year {x1 x2 x3 x : Int} {n2 : NM} (hT : TW n 27 2 30) (hS : n 27 3 = 30) (ref : ¬ ((0 ≤ x1 ∧ x1 ≤ 29) ∧ (0 ≤ x2 ∧ x2 ≤ 1000) ∧ 0 ≤ x3 ∧ x3 ≤ 1000) → EI w (d + 3) mX11_refuse [vr 0, vi (-1)] B0 n x n2) (put : ((0 ≤ x1 ∧ x1 ≤ 29) ∧ (0 ≤ x2 ∧ x2 ≤ 1000) ∧ 0 ≤ x3 ∧ x3 ≤ 1000) → x = 0 ∧ n2 = upn (upn (upn n 28 (x1 * 2) x2) 28 (x1 * 2 + 1) x3) 0 10 0) : EI w (d + 4) mX11_year [vr 0, vi x1, vi x2, vi x3] B0 n x n2 := by
  have hu : ∀ y : Int, tset n 27 28 x1 0 y 27 = n 27 := fun y => by
    unfold tset
    split
    · rw [upn_ne (by decide)]
    · rfl
  have hT2 : ∀ y : Int, TW (tset n 27 28 x1 0 y) 27 2 30 := fun y => hT.congr (hu y)
  have lf : (0 ≤ x1 ∧ x1 ≤ 29) → (0 ≤ x2 ∧ x2 ≤ 1000) → (0 ≤ x3 ∧ x3 ≤ 1000) → (some (vi (0 : Int)) = some (vi x) ∧ (B0, upn (tset (tset n 27 28 x1 0 x2) 27 28 x1 1 x3) 0 10 0) = (B0, n2)) := fun c1 c2 c3 => by
    obtain ⟨e1, e2⟩ := put ⟨c1, c2, c3⟩
    rw [e1, e2, tset_eq (hT2 x2) c1.1 (by rw [hu]; omega) (by decide), if_pos (by decide), tset_eq hT c1.1 (by omega) (by decide), if_pos (by decide), Int.add_zero]
    exact ⟨rfl, rfl⟩
  exact EI.of (by decide +kernel) (Nat.le_of_ble_eq_true rfl) rfl (fun _ G => gX11_year_0 (EI.use (s_within _ _ _) (ite01 (fun c1 => EI.use (ref (by omega)) ⟨rfl, rfl⟩) (fun c1 => EI.use (s_within _ _ _) (ite01 (fun c2 => EI.use (ref (by omega)) ⟨rfl, rfl⟩) (fun c2 => EI.use (s_within _ _ _) (ite10 (fun c3 => EV.use (s_set ob_27 (c := 28) rfl ob_28 hT rfl (by decide) _ _ _) (EV.use (s_set ob_27 (c := 28) rfl ob_28 (hT2 _) rfl (by decide) _ _ _) (EI.use (s_accept _) (lf c1 c2 c3)))) (fun c3 => EI.use (ref (by omega)) ⟨rfl, rfl⟩))))))))
theorem m_year {x1 x2 x3 x : Int} {n2 : NM} (ref : ¬ ((0 ≤ x1 ∧ x1 ≤ 29) ∧ (0 ≤ x2 ∧ x2 ≤ 1000) ∧ 0 ≤ x3 ∧ x3 ≤ 1000) → EI w (d + 3) mX12_tell [vr 145, vi (-1)] B0 (upn n 145 0 0) x n2) (put : ((0 ≤ x1 ∧ x1 ≤ 29) ∧ (0 ≤ x2 ∧ x2 ≤ 1000) ∧ 0 ≤ x3 ∧ x3 ≤ 1000) → EI w (d + 3) mX12_tell [vr 145, vi 0] B0 (upn (upn (upn n 145 0 0) 147 (810 + (2 * x1)) x2) 147 ((810 + (2 * x1)) + 1) x3) x n2) : EI w (d + 4) mX12_year [vr 145, vi x1, vi x2, vi x3] B0 n x n2 :=
  EI.of (by decide +kernel) (Nat.le_of_ble_eq_true rfl) rfl (fun _ G => gX12_year_0 (EI.use (m_in _ _ _) (ite01 (fun c1 => EI.use (ref (by omega)) ⟨rfl, rfl⟩) (fun c1 => EI.use (m_in _ _ _) (ite01 (fun c2 => EI.use (ref (by omega)) ⟨rfl, rfl⟩) (fun c2 => EI.use (m_in _ _ _) (ite10 (fun c3 => ⟨⟨by omega, by omega⟩, ⟨by omega, by omega⟩, by omega, by omega, ⟨by omega, by omega⟩, ⟨by omega, by omega⟩, ⟨by omega, by omega⟩, by omega, by omega, EI.use (put ⟨c1, c2, c3⟩) ⟨rfl, rfl⟩⟩) (fun c3 => EI.use (ref (by omega)) ⟨rfl, rfl⟩))))))))
theorem st_year {k : Int} (h : Rel k n) (hk : k ≤ 900) (x1 x2 x3 : Int) : LStp w (d + 4) k n mX11_year [vi x1, vi x2, vi x3] mX12_year [vi x1, vi x2, vi x3] := by
  have hF : FR n 27 2 30 810 (n 147) := h.1.2.2.2.2.2.2.2.2.2.2.2.1
  by_cases o : (0 ≤ x1 ∧ x1 ≤ 29) ∧ (0 ≤ x2 ∧ x2 ≤ 1000) ∧ 0 ≤ x3 ∧ x3 ≤ 1000
  · refine ⟨0, upn (upn (upn n 28 (x1 * 2) x2) 28 (x1 * 2 + 1) x3) 0 10 0, b2 n 28 (x1 * 2) 810 x2 x3, c_year hF.1 hF.2.1 (fun q => absurd o q) (fun _ => ⟨?_, rfl⟩), m_year (fun q => absurd o q) (fun _ => ?_), (h.put_years (by omega) (by omega) ⟨o.2.1, o.2.2⟩).le (by omega)⟩
    · rfl
    · have hi : 810 + 2 * x1 = 810 + x1 * 2 := by omega
      rw [hi]
      exact m_tell0 (by decide)
  · have r := stp_ref (w := w) (d := d + 3) h hk (v := -1) (by omega)
    exact ⟨_, _, _, c_year hF.1 hF.2.1 (fun _ => r.1) (fun q => absurd q o), m_year (fun _ => r.2.1) (fun q => absurd q o), r.2.2⟩
theorem c_ripple {x1 x2 x3 x : Int} {n2 : NM} (hT : TW n 29 2 10) (hS : n 29 3 = 10) (ref : ¬ ((0 ≤ x1 ∧ x1 ≤ 9) ∧ (1 ≤ x2 ∧ x2 ≤ 99) ∧ x2 ≤ x3 ∧ x3 ≤ 99) → EI w (d + 3) mX11_refuse [vr 0, vi (-1)] B0 n x n2) (put : ((0 ≤ x1 ∧ x1 ≤ 9) ∧ (1 ≤ x2 ∧ x2 ≤ 99) ∧ x2 ≤ x3 ∧ x3 ≤ 99) → x = 0 ∧ n2 = upn (upn (upn n 30 (x1 * 2) x2) 30 (x1 * 2 + 1) x3) 0 10 0) : EI w (d + 4) mX11_ripple [vr 0, vi x1, vi x2, vi x3] B0 n x n2 := by
  have hu : ∀ y : Int, tset n 29 30 x1 0 y 29 = n 29 := fun y => by
    unfold tset
    split
    · rw [upn_ne (by decide)]
    · rfl
  have hT2 : ∀ y : Int, TW (tset n 29 30 x1 0 y) 29 2 10 := fun y => hT.congr (hu y)
  have lf : (0 ≤ x1 ∧ x1 ≤ 9) → (1 ≤ x2 ∧ x2 ≤ 99) → (x2 ≤ x3 ∧ x3 ≤ 99) → (some (vi (0 : Int)) = some (vi x) ∧ (B0, upn (tset (tset n 29 30 x1 0 x2) 29 30 x1 1 x3) 0 10 0) = (B0, n2)) := fun c1 c2 c3 => by
    obtain ⟨e1, e2⟩ := put ⟨c1, c2, c3⟩
    rw [e1, e2, tset_eq (hT2 x2) c1.1 (by rw [hu]; omega) (by decide), if_pos (by decide), tset_eq hT c1.1 (by omega) (by decide), if_pos (by decide), Int.add_zero]
    exact ⟨rfl, rfl⟩
  exact EI.of (by decide +kernel) (Nat.le_of_ble_eq_true rfl) rfl (fun _ G => gX11_ripple_0 (EI.use (s_within _ _ _) (ite01 (fun c1 => EI.use (ref (by omega)) ⟨rfl, rfl⟩) (fun c1 => EI.use (s_within _ _ _) (ite01 (fun c2 => EI.use (ref (by omega)) ⟨rfl, rfl⟩) (fun c2 => EI.use (s_within _ _ _) (ite10 (fun c3 => EV.use (s_set ob_29 (c := 30) rfl ob_30 hT rfl (by decide) _ _ _) (EV.use (s_set ob_29 (c := 30) rfl ob_30 (hT2 _) rfl (by decide) _ _ _) (EI.use (s_accept _) (lf c1 c2 c3)))) (fun c3 => EI.use (ref (by omega)) ⟨rfl, rfl⟩))))))))
theorem m_ripple {x1 x2 x3 x : Int} {n2 : NM} (ref : ¬ ((0 ≤ x1 ∧ x1 ≤ 9) ∧ (1 ≤ x2 ∧ x2 ≤ 99) ∧ x2 ≤ x3 ∧ x3 ≤ 99) → EI w (d + 3) mX12_tell [vr 145, vi (-1)] B0 (upn n 145 0 0) x n2) (put : ((0 ≤ x1 ∧ x1 ≤ 9) ∧ (1 ≤ x2 ∧ x2 ≤ 99) ∧ x2 ≤ x3 ∧ x3 ≤ 99) → EI w (d + 3) mX12_tell [vr 145, vi 0] B0 (upn (upn (upn n 145 0 0) 147 (870 + (2 * x1)) x2) 147 ((870 + (2 * x1)) + 1) x3) x n2) : EI w (d + 4) mX12_ripple [vr 145, vi x1, vi x2, vi x3] B0 n x n2 :=
  EI.of (by decide +kernel) (Nat.le_of_ble_eq_true rfl) rfl (fun _ G => gX12_ripple_0 (EI.use (m_in _ _ _) (ite01 (fun c1 => EI.use (ref (by omega)) ⟨rfl, rfl⟩) (fun c1 => EI.use (m_in _ _ _) (ite01 (fun c2 => EI.use (ref (by omega)) ⟨rfl, rfl⟩) (fun c2 => EI.use (m_in _ _ _) (ite10 (fun c3 => ⟨⟨by omega, by omega⟩, ⟨by omega, by omega⟩, by omega, by omega, ⟨by omega, by omega⟩, ⟨by omega, by omega⟩, ⟨by omega, by omega⟩, by omega, by omega, EI.use (put ⟨c1, c2, c3⟩) ⟨rfl, rfl⟩⟩) (fun c3 => EI.use (ref (by omega)) ⟨rfl, rfl⟩))))))))
theorem st_ripple {k : Int} (h : Rel k n) (hk : k ≤ 900) (x1 x2 x3 : Int) : LStp w (d + 4) k n mX11_ripple [vi x1, vi x2, vi x3] mX12_ripple [vi x1, vi x2, vi x3] := by
  have hF : FR n 29 2 10 870 (n 147) := h.1.2.2.2.2.2.2.2.2.2.2.2.2.1
  by_cases o : (0 ≤ x1 ∧ x1 ≤ 9) ∧ (1 ≤ x2 ∧ x2 ≤ 99) ∧ x2 ≤ x3 ∧ x3 ≤ 99
  · refine ⟨0, upn (upn (upn n 30 (x1 * 2) x2) 30 (x1 * 2 + 1) x3) 0 10 0, b2 n 30 (x1 * 2) 870 x2 x3, c_ripple hF.1 hF.2.1 (fun q => absurd o q) (fun _ => ⟨?_, rfl⟩), m_ripple (fun q => absurd o q) (fun _ => ?_), (h.put_ripples (by omega) (by omega) ⟨o.2.1, by omega⟩).le (by omega)⟩
    · rfl
    · have hi : 870 + 2 * x1 = 870 + x1 * 2 := by omega
      rw [hi]
      exact m_tell0 (by decide)
  · have r := stp_ref (w := w) (d := d + 3) h hk (v := -1) (by omega)
    exact ⟨_, _, _, c_ripple hF.1 hF.2.1 (fun _ => r.1) (fun q => absurd q o), m_ripple (fun _ => r.2.1) (fun q => absurd q o), r.2.2⟩
theorem st_status {k : Int} (h : Rel k n) : LStp w (d + 4) k n mX11_status [] mX12_status [] := by
  have hm := h.2.2.2.2.2.1
  unfold MiscRel at hm
  refine ⟨n 0 10, n, upn n 145 0 0, EI.of (by decide +kernel) (Nat.le_of_ble_eq_true rfl) rfl (fun _ G => gX11_status_0 ⟨rfl, rfl⟩), ?_, h.zero.le (by omega)⟩
  rw [hm.1.symm]
  exact EI.of (by decide +kernel) (Nat.le_of_ble_eq_true rfl) rfl (fun _ G => gX12_status_0 ⟨rfl, rfl⟩)
theorem st_fault {k : Int} (h : Rel k n) : LStp w (d + 4) k n mX11_fault [] mX12_fault [] := by
  have hm := h.2.2.2.2.2.1
  unfold MiscRel at hm
  refine ⟨n 0 11, n, upn n 145 0 0, EI.of (by decide +kernel) (Nat.le_of_ble_eq_true rfl) rfl (fun _ G => gX11_fault_0 ⟨rfl, rfl⟩), ?_, h.zero.le (by omega)⟩
  rw [hm.2.1.symm]
  exact EI.of (by decide +kernel) (Nat.le_of_ble_eq_true rfl) rfl (fun _ G => gX12_fault_0 ⟨rfl, rfl⟩)
theorem st_cousins {k : Int} (h : Rel k n) : LStp w (d + 4) k n mX11_cousins [] mX12_cousins [] := by
  have hm := h.2.2.2.2.2.1
  unfold MiscRel at hm
  refine ⟨n 0 12, n, upn n 145 0 0, EI.of (by decide +kernel) (Nat.le_of_ble_eq_true rfl) rfl (fun _ G => gX11_cousins_0 ⟨rfl, rfl⟩), ?_, h.zero.le (by omega)⟩
  rw [hm.2.2.1.symm]
  exact EI.of (by decide +kernel) (Nat.le_of_ble_eq_true rfl) rfl (fun _ G => gX12_cousins_0 ⟨rfl, rfl⟩)
end STEPS2
