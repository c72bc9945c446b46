section STEPS
variable {w : WD} {d : Nat} {n : NM}
/-- a call on both sides, from states that agree to states that agree, with one answer -/
def LStp (w : WD) (d : Nat) (k : Int) (n : NM) (mc : MI) (ac : List AV) (mm : MI) (am : List AV) : Prop :=
  ∃ (x : Int) (n1 n2 : NM), EI w d mc (vr 0 :: ac) B0 n x n1 ∧ EI w d mm (vr 145 :: am) B0 n1 x n2 ∧ Rel (k + 1) n2
theorem s_addTo {t L : Nat} {W R : Int} (ot : Obj B0 t 7 4) (rt : rf B0 t 0 = some (t + 1)) (oc : Obj B0 (t + 1) 100 L) (t0 : 0 < t) (hT : TW n t W R) (hW : 1 ≤ W) (hL : R * W = (L : Int)) (hL2 : (L : Int) ≤ 100000) (hR : R ≤ 1000) (hf : n t 3 < R) (a b e f : Int) :
    EI w (d + 3) mX11_addTo [vr 0, vr t, vi a, vi b, vi e, vi f] B0 n (n t 3) (upn (tadd n t (t + 1) W a b e f) 0 10 0) := by
  refine EI.of (by decide +kernel) (Nat.le_of_ble_eq_true rfl) rfl (fun _ G => gX11_addTo_0 ot (EI.use (s_isFull ot rt oc) ⟨fun _ => EI.use (s_add ot rt oc (by omega) hT hW hL hL2 hR hf a b e f) (EI.use (s_accept _) ⟨rfl, rfl⟩), fun q => ?_⟩))
  rw [if_neg (by rw [hT.2.1]; omega)] at q
  exact absurd rfl q
theorem s_addToF {t L : Nat} {W R : Int} (ot : Obj B0 t 7 4) (rt : rf B0 t 0 = some (t + 1)) (oc : Obj B0 (t + 1) 100 L) (hT : TW n t W R) (hf : ¬ n t 3 < R) (hb : ∀ i, 0 ≤ i → i < 4 → 0 ≤ n 80 i ∧ n 80 i ≤ 1000) (a b e f : Int) :
    EI w (d + 3) mX11_addTo [vr 0, vr t, vi a, vi b, vi e, vi f] B0 n (-5) (cref n (-5)) := by
  refine EI.of (by decide +kernel) (Nat.le_of_ble_eq_true rfl) rfl (fun _ G => gX11_addTo_0 ot (EI.use (s_isFull ot rt oc) ⟨fun q => ?_, fun _ => EI.use (s_refuse (by omega) hb) ⟨rfl, rfl⟩⟩))
  rw [if_pos (by rw [hT.2.1]; omega)] at q
  exact absurd q (by decide)
theorem m_addF {cnt most base W a b e f : Int} (h1 : 0 ≤ cnt) (h2 : cnt ≤ 9) (h7 : n 147 cnt = most) (hb : 0 ≤ n 146 5 ∧ n 146 5 ≤ 1000) : EI w (d + 1) mX12_add [vr 145, vi cnt, vi most, vi base, vi W, vi a, vi b, vi e, vi f] B0 n (-5) (mref n (-5)) :=
  EI.of (by decide +kernel) (Nat.le_of_ble_eq_true rfl) rfl (fun _ G => gX12_add_0 ⟨by omega, by omega, fun q => absurd h7 q, fun _ => EI.use (m_tellR (by omega) hb) ⟨rfl, rfl⟩⟩)
theorem stp_ref {k : Int} (h : Rel k n) (hk : k ≤ 900) {v : Int} (hv : v = -1 ∨ v = -2 ∨ v = -5 ∨ v = -6) :
    EI w d mX11_refuse [vr 0, vi v] B0 n v (cref n v) ∧ EI w d mX12_tell [vr 145, vi v] B0 (upn (cref n v) 145 0 0) v (bref n v) ∧ Rel (k + 1) (bref n v) := by
  have hb := h.few (by omega)
  refine ⟨s_refuse hv hb, m_tellR hv ?_, h.refuse hv⟩
  have hm := h.2.2.2.2.2.1
  unfold MiscRel at hm
  unfold cref
  rw [upn_ne (by decide), upn_ne (by decide), upn_ne (by decide)]
  rcases hv with rfl | rfl | rfl | rfl
  · show 0 ≤ n 146 1 ∧ n 146 1 ≤ 1000
    omega
  · show 0 ≤ n 146 2 ∧ n 146 2 ≤ 1000
    omega
  · show 0 ≤ n 146 5 ∧ n 146 5 ≤ 1000
    omega
  · show 0 ≤ n 146 6 ∧ n 146 6 ≤ 1000
    omega
theorem stp_add {k : Int} (h : Rel k n) (hk : k ≤ 900) {t L : Nat} {W R cnt base a b e f : Int} (ot : Obj B0 t 7 4) (rt : rf B0 t 0 = some (t + 1)) (oc : Obj B0 (t + 1) 100 L) (t0 : 0 < t) (t1 : t < 32) (hT : TR n t W R cnt base (n 147)) (hW : W = 1 ∨ W = 2 ∨ W = 3 ∨ W = 4) (hL : R * W = (L : Int)) (hL2 : (L : Int) ≤ 100000) (hR : R ≤ 1000) (h1 : 0 ≤ cnt) (h2 : cnt ≤ 9) (h3 : 10 ≤ base) (h5 : base + W * R ≤ 1800)
    {ok : Prop} (hadd : ok → n t 3 < R → Rel k (badd n t cnt base W a b e f)) :
    ∃ (x : Int) (n1 n2 : NM), (¬ ok → EI w (d + 3) mX11_refuse [vr 0, vi (-1)] B0 n x n1) ∧ (ok → EI w (d + 3) mX11_addTo [vr 0, vr t, vi a, vi b, vi e, vi f] B0 n x n1) ∧ (¬ ok → EI w (d + 3) mX12_tell [vr 145, vi (-1)] B0 (upn n1 145 0 0) x n2) ∧ (ok → EI w (d + 3) mX12_add [vr 145, vi cnt, vi R, vi base, vi W, vi a, vi b, vi e, vi f] B0 (upn n1 145 0 0) x n2) ∧ Rel (k + 1) n2 ∧ n1 147 = n 147 := by
  have e3 : ∀ v : Int, cref n v 147 = n 147 := fun v => by
    unfold cref
    rw [upn_ne (by decide), upn_ne (by decide)]
  by_cases o : ok
  · have hb := h.few (by omega)
    by_cases hf : n t 3 < R
    · have e147 : (upn (upn (tadd n t (t + 1) W a b e f) 0 10 0) 145 0 0) 147 = n 147 := by
        unfold tadd
        rw [upn_ne (by omega), upn_ne (by omega), wrow_ne (by omega), upn_ne (by omega)]
      have em : EI w (d + 3) mX12_add [vr 145, vi cnt, vi R, vi base, vi W, vi a, vi b, vi e, vi f] B0 (upn (upn (tadd n t (t + 1) W a b e f) 0 10 0) 145 0 0) (n t 3) (badd n t cnt base W a b e f) := by
        have := m_add (w := w) (d := d + 2) (n := upn (upn (tadd n t (t + 1) W a b e f) 0 10 0) 145 0 0) (cnt := cnt) (most := R) (base := base) (W := W) (a := a) (b := b) (e := e) (f := f) h1 h2 h3 hW h5 (by rw [e147, ← hT.2.1]; exact hT.1.2.2.1) (by rw [e147, ← hT.2.1]; exact hf) hR
        rw [e147, ← hT.2.1] at this
        exact this
      exact ⟨n t 3, upn (tadd n t (t + 1) W a b e f) 0 10 0, badd n t cnt base W a b e f, fun q => absurd o q, fun _ => s_addTo ot rt oc t0 hT.1 (by omega) hL hL2 hR hf a b e f, fun q => absurd o q, fun _ => em, (hadd o hf).le (by omega), (upn_ne (by decide)).symm.trans e147⟩
    · have r := stp_ref (w := w) (d := d) h hk (v := -5) (by omega)
      have ee : ∀ q : Nat, q ≠ 0 → q ≠ 80 → q ≠ 145 → (upn (cref n (-5)) 145 0 0) q = n q := fun q q0 q1 q2 => by
        unfold cref
        rw [upn_ne q2, upn_ne q1, upn_ne q0]
      have hm := h.2.2.2.2.2.1
      unfold MiscRel at hm
      exact ⟨-5, cref n (-5), bref n (-5), fun q => absurd o q, fun _ => s_addToF ot rt oc hT.1 hf hb a b e f, fun q => absurd o q, fun _ => m_addF h1 h2 (by rw [ee 147 (by decide) (by decide) (by decide), ← hT.2.1]; have := hT.1.2.2.2; omega) (by rw [ee 146 (by decide) (by decide) (by decide)]; omega), r.2.2, e3 _⟩
  · have r := stp_ref (w := w) (d := d + 3) h hk (v := -1) (by omega)
    exact ⟨-1, cref n (-1), bref n (-1), fun _ => r.1, fun q => absurd q o, fun _ => r.2.1, fun q => absurd q o, r.2.2, e3 _⟩
theorem c_canListen (x y z : Int) : EI w (d + 1) mX11_canListen [vi x, vi y, vi z] B0 n (if (0 ≤ x ∧ x ≤ 100) ∧ (1 ≤ y ∧ y ≤ 60) ∧ 0 ≤ z ∧ z ≤ 99 then 1 else 0) n := by
  refine EI.of (by decide +kernel) (Nat.le_of_ble_eq_true rfl) rfl (fun _ G => gX11_canListen_0 (EI.use (s_within _ _ _) (ite01 (fun c1 => ⟨?_, rfl⟩) (fun c1 => EI.use (s_within _ _ _) (ite01 (fun c2 => ⟨?_, rfl⟩) (fun c2 => EI.use (s_within _ _ _) (ite01 (fun c3 => ⟨?_, rfl⟩) (fun c3 => ⟨?_, rfl⟩))))))))
  · rw [if_neg (by omega)]
  · rw [if_neg (by omega)]
  · rw [if_neg (by omega)]
  · rw [if_pos ⟨c1, c2, c3⟩]
theorem m_isNet (x y z : Int) : EI w (d + 1) mX12_isNet [vi x, vi y, vi z] B0 n (if (0 ≤ x ∧ x ≤ 100) ∧ (1 ≤ y ∧ y ≤ 60) ∧ 0 ≤ z ∧ z ≤ 99 then 1 else 0) n := by
  refine EI.of (by decide +kernel) (Nat.le_of_ble_eq_true rfl) rfl (fun _ G => gX12_isNet_0 (EI.use (m_in _ _ _) (ite01 (fun c1 => ⟨?_, rfl⟩) (fun c1 => EI.use (m_in _ _ _) (ite01 (fun c2 => ⟨?_, rfl⟩) (fun c2 => EI.use (m_in _ _ _) (ite01 (fun c3 => ⟨?_, rfl⟩) (fun c3 => ⟨?_, rfl⟩))))))))
  · rw [if_neg (by omega)]
  · rw [if_neg (by omega)]
  · rw [if_neg (by omega)]
  · rw [if_pos ⟨c1, c2, c3⟩]
theorem m_is {x y : Int} (h0 : 0 ≤ x) (h1 : x < 1800) (h2 : 0 ≤ n 147 x ∧ n 147 x ≤ 1000000) : EI w (d + 1) mX12_is [vr 145, vi x, vi y] B0 n (if 0 ≤ y ∧ y ≤ n 147 x - 1 then 1 else 0) n :=
  EI.of (by decide +kernel) (Nat.le_of_ble_eq_true rfl) rfl (fun _ G => gX12_is_0 ⟨h0, h1, by unfold inJ; omega, EI.use (m_in _ _ _) ⟨b01 _, rfl, rfl⟩⟩)
theorem c_boat {x1 x2 x3 x4 x : Int} {n2 : NM} (ref : ¬ ((0 ≤ x1 ∧ x1 ≤ 59) ∧ (0 ≤ x2 ∧ x2 ≤ 1) ∧ (0 ≤ x3 ∧ x3 ≤ 1439) ∧ 1 ≤ x4 ∧ x4 ≤ 24) → EI w (d + 3) mX11_refuse [vr 0, vi (-1)] B0 n x n2) (add : ((0 ≤ x1 ∧ x1 ≤ 59) ∧ (0 ≤ x2 ∧ x2 ≤ 1) ∧ (0 ≤ x3 ∧ x3 ≤ 1439) ∧ 1 ≤ x4 ∧ x4 ≤ 24) → EI w (d + 3) mX11_addTo [vr 0, vr 4, vi x1, vi x2, vi x3, vi x4] B0 n x n2) : EI w (d + 4) mX11_boat [vr 0, vi x1, vi x2, vi x3, vi x4] B0 n x n2 :=
  EI.of (by decide +kernel) (Nat.le_of_ble_eq_true rfl) rfl (fun _ G => gX11_boat_0 (EI.use (s_within _ _ _) (ite01 (fun c1 => EI.use (ref (by omega)) ⟨rfl, rfl⟩) (fun c1 => EI.use (s_within _ _ _) (ite01 (fun c2 => EI.use (ref (by omega)) ⟨rfl, rfl⟩) (fun c2 => EI.use (s_within _ _ _) (ite01 (fun c3 => EI.use (ref (by omega)) ⟨rfl, rfl⟩) (fun c3 => EI.use (s_within _ _ _) (ite10 (fun c4 => EI.use (add (by omega)) ⟨rfl, rfl⟩) (fun c4 => EI.use (ref (by omega)) ⟨rfl, rfl⟩))))))))))
theorem m_boat {x1 x2 x3 x4 x : Int} {n2 : NM} (ref : ¬ ((0 ≤ x1 ∧ x1 ≤ 59) ∧ (0 ≤ x2 ∧ x2 ≤ 1) ∧ (0 ≤ x3 ∧ x3 ≤ 1439) ∧ 1 ≤ x4 ∧ x4 ≤ 24) → EI w (d + 3) mX12_tell [vr 145, vi (-1)] B0 (upn n 145 0 0) x n2) (add : ((0 ≤ x1 ∧ x1 ≤ 59) ∧ (0 ≤ x2 ∧ x2 ≤ 1) ∧ (0 ≤ x3 ∧ x3 ≤ 1439) ∧ 1 ≤ x4 ∧ x4 ≤ 24) → EI w (d + 3) mX12_add [vr 145, vi 0, vi 12, vi 200, vi 4, vi x1, vi x2, vi x3, vi x4] B0 (upn n 145 0 0) x n2) : EI w (d + 4) mX12_boat [vr 145, vi x1, vi x2, vi x3, vi x4] B0 n x n2 :=
  EI.of (by decide +kernel) (Nat.le_of_ble_eq_true rfl) rfl (fun _ G => gX12_boat_0 (EI.use (m_isDay _) (ite01 (fun c1 => EI.use (ref (by omega)) ⟨rfl, rfl⟩) (fun c1 => EI.use (m_in _ _ _) (ite01 (fun c2 => EI.use (ref (by omega)) ⟨rfl, rfl⟩) (fun c2 => EI.use (m_isMinute _) (ite01 (fun c3 => EI.use (ref (by omega)) ⟨rfl, rfl⟩) (fun c3 => EI.use (m_in _ _ _) (ite10 (fun c4 => EI.use (add (by omega)) ⟨rfl, rfl⟩) (fun c4 => EI.use (ref (by omega)) ⟨rfl, rfl⟩))))))))))
theorem st_boat {k : Int} (h : Rel k n) (hk : k ≤ 900) (x1 x2 x3 x4 : Int) : LStp w (d + 4) k n mX11_boat [vi x1, vi x2, vi x3, vi x4] mX12_boat [vi x1, vi x2, vi x3, vi x4] := by
  obtain ⟨x, n1, n2, r1, r2, r3, r4, r5, _⟩ := stp_add (w := w) (d := d) h hk ob_4 (t := 4) rfl ob_5 (by decide) (by decide) (h.1.2.1) (by decide) rfl (by decide) (by decide) (by decide) (by decide) (by decide) (by decide) (fun o hf => h.add_boats hf ⟨o.2.1, o.2.2.1, o.2.2.2⟩) (ok := (0 ≤ x1 ∧ x1 ≤ 59) ∧ (0 ≤ x2 ∧ x2 ≤ 1) ∧ (0 ≤ x3 ∧ x3 ≤ 1439) ∧ 1 ≤ x4 ∧ x4 ≤ 24) (a := x1) (b := x2) (e := x3) (f := x4)
  exact ⟨x, n1, n2, c_boat r1 r2, m_boat r3 r4, r5⟩
theorem c_beast {x1 x2 x3 x4 x : Int} {n2 : NM} (ref : ¬ ((0 ≤ x1 ∧ x1 ≤ 59) ∧ (0 ≤ x2 ∧ x2 ≤ 23) ∧ (0 ≤ x3 ∧ x3 ≤ 1439) ∧ x3 ≤ x4 ∧ x4 ≤ 1439) → EI w (d + 3) mX11_refuse [vr 0, vi (-1)] B0 n x n2) (add : ((0 ≤ x1 ∧ x1 ≤ 59) ∧ (0 ≤ x2 ∧ x2 ≤ 23) ∧ (0 ≤ x3 ∧ x3 ≤ 1439) ∧ x3 ≤ x4 ∧ x4 ≤ 1439) → EI w (d + 3) mX11_addTo [vr 0, vr 6, vi x1, vi x2, vi x3, vi x4] B0 n x n2) : EI w (d + 4) mX11_beast [vr 0, vi x1, vi x2, vi x3, vi x4] B0 n x n2 :=
  EI.of (by decide +kernel) (Nat.le_of_ble_eq_true rfl) rfl (fun _ G => gX11_beast_0 (EI.use (s_within _ _ _) (ite01 (fun c1 => EI.use (ref (by omega)) ⟨rfl, rfl⟩) (fun c1 => EI.use (s_within _ _ _) (ite01 (fun c2 => EI.use (ref (by omega)) ⟨rfl, rfl⟩) (fun c2 => EI.use (s_within _ _ _) (ite01 (fun c3 => EI.use (ref (by omega)) ⟨rfl, rfl⟩) (fun c3 => EI.use (s_within _ _ _) (ite10 (fun c4 => EI.use (add (by omega)) ⟨rfl, rfl⟩) (fun c4 => EI.use (ref (by omega)) ⟨rfl, rfl⟩))))))))))
theorem m_beast {x1 x2 x3 x4 x : Int} {n2 : NM} (ref : ¬ ((0 ≤ x1 ∧ x1 ≤ 59) ∧ (0 ≤ x2 ∧ x2 ≤ 23) ∧ (0 ≤ x3 ∧ x3 ≤ 1439) ∧ x3 ≤ x4 ∧ x4 ≤ 1439) → EI w (d + 3) mX12_tell [vr 145, vi (-1)] B0 (upn n 145 0 0) x n2) (add : ((0 ≤ x1 ∧ x1 ≤ 59) ∧ (0 ≤ x2 ∧ x2 ≤ 23) ∧ (0 ≤ x3 ∧ x3 ≤ 1439) ∧ x3 ≤ x4 ∧ x4 ≤ 1439) → EI w (d + 3) mX12_add [vr 145, vi 1, vi 12, vi 250, vi 4, vi x1, vi x2, vi x3, vi x4] B0 (upn n 145 0 0) x n2) : EI w (d + 4) mX12_beast [vr 145, vi x1, vi x2, vi x3, vi x4] B0 n x n2 :=
  EI.of (by decide +kernel) (Nat.le_of_ble_eq_true rfl) rfl (fun _ G => gX12_beast_0 (EI.use (m_isDay _) (ite01 (fun c1 => EI.use (ref (by omega)) ⟨rfl, rfl⟩) (fun c1 => EI.use (m_isPlace _) (ite01 (fun c2 => EI.use (ref (by omega)) ⟨rfl, rfl⟩) (fun c2 => EI.use (m_isMinute _) (ite01 (fun c3 => EI.use (ref (by omega)) ⟨rfl, rfl⟩) (fun c3 => EI.use (m_isMinute _) (ite01 (fun c4 => EI.use (ref (by omega)) ⟨rfl, rfl⟩) (fun c4 => ⟨fun c5 => EI.use (add (by omega)) ⟨rfl, rfl⟩, fun c5 => EI.use (ref (by omega)) ⟨rfl, rfl⟩⟩))))))))))
theorem st_beast {k : Int} (h : Rel k n) (hk : k ≤ 900) (x1 x2 x3 x4 : Int) : LStp w (d + 4) k n mX11_beast [vi x1, vi x2, vi x3, vi x4] mX12_beast [vi x1, vi x2, vi x3, vi x4] := by
  obtain ⟨x, n1, n2, r1, r2, r3, r4, r5, _⟩ := stp_add (w := w) (d := d) h hk ob_6 (t := 6) rfl ob_7 (by decide) (by decide) (h.1.2.2.1) (by decide) rfl (by decide) (by decide) (by decide) (by decide) (by decide) (by decide) (fun o hf => h.add_beasts hf o.2.1) (ok := (0 ≤ x1 ∧ x1 ≤ 59) ∧ (0 ≤ x2 ∧ x2 ≤ 23) ∧ (0 ≤ x3 ∧ x3 ≤ 1439) ∧ x3 ≤ x4 ∧ x4 ≤ 1439) (a := x1) (b := x2) (e := x3) (f := x4)
  exact ⟨x, n1, n2, c_beast r1 r2, m_beast r3 r4, r5⟩
theorem c_watcher {x1 x : Int} {n2 : NM} (ref : ¬ (0 ≤ x1 ∧ x1 ≤ 100) → EI w (d + 3) mX11_refuse [vr 0, vi (-1)] B0 n x n2) (add : (0 ≤ x1 ∧ x1 ≤ 100) → EI w (d + 3) mX11_addTo [vr 0, vr 10, vi x1, vi 0, vi 0, vi 0] B0 n x n2) : EI w (d + 4) mX11_watcher [vr 0, vi x1] B0 n x n2 :=
  EI.of (by decide +kernel) (Nat.le_of_ble_eq_true rfl) rfl (fun _ G => gX11_watcher_0 (EI.use (s_within _ _ _) (ite10 (fun c1 => EI.use (add (by omega)) ⟨rfl, rfl⟩) (fun c1 => EI.use (ref (by omega)) ⟨rfl, rfl⟩))))
theorem m_watcher {x1 x : Int} {n2 : NM} (ref : ¬ (0 ≤ x1 ∧ x1 ≤ 100) → EI w (d + 3) mX12_tell [vr 145, vi (-1)] B0 (upn n 145 0 0) x n2) (add : (0 ≤ x1 ∧ x1 ≤ 100) → EI w (d + 3) mX12_add [vr 145, vi 3, vi 12, vi 330, vi 1, vi x1, vi 0, vi 0, vi 0] B0 (upn n 145 0 0) x n2) : EI w (d + 4) mX12_watcher [vr 145, vi x1] B0 n x n2 :=
  EI.of (by decide +kernel) (Nat.le_of_ble_eq_true rfl) rfl (fun _ G => gX12_watcher_0 (EI.use (m_in _ _ _) (ite10 (fun c1 => EI.use (add (by omega)) ⟨rfl, rfl⟩) (fun c1 => EI.use (ref (by omega)) ⟨rfl, rfl⟩))))
theorem st_watcher {k : Int} (h : Rel k n) (hk : k ≤ 900) (x1 : Int) : LStp w (d + 4) k n mX11_watcher [vi x1] mX12_watcher [vi x1] := by
  obtain ⟨x, n1, n2, r1, r2, r3, r4, r5, _⟩ := stp_add (w := w) (d := d) h hk ob_10 (t := 10) rfl ob_11 (by decide) (by decide) (h.1.2.2.2.2.1) (by decide) rfl (by decide) (by decide) (by decide) (by decide) (by decide) (by decide) (fun o hf => h.add_watchers hf o) (ok := 0 ≤ x1 ∧ x1 ≤ 100) (a := x1) (b := 0) (e := 0) (f := 0)
  exact ⟨x, n1, n2, c_watcher r1 r2, m_watcher r3 r4, r5⟩
theorem c_story {x1 x2 x3 x : Int} {n2 : NM} (ref : ¬ ((0 ≤ x1 ∧ x1 ≤ 100) ∧ (0 ≤ x2 ∧ x2 ≤ 20) ∧ 1 ≤ x3 ∧ x3 ≤ 60) → EI w (d + 3) mX11_refuse [vr 0, vi (-1)] B0 n x n2) (add : ((0 ≤ x1 ∧ x1 ≤ 100) ∧ (0 ≤ x2 ∧ x2 ≤ 20) ∧ 1 ≤ x3 ∧ x3 ≤ 60) → EI w (d + 3) mX11_addTo [vr 0, vr 21, vi x1, vi x2, vi x3, vi 0] B0 n x n2) : EI w (d + 4) mX11_story [vr 0, vi x1, vi x2, vi x3] B0 n x n2 :=
  EI.of (by decide +kernel) (Nat.le_of_ble_eq_true rfl) rfl (fun _ G => gX11_story_0 (EI.use (s_within _ _ _) (ite01 (fun c1 => EI.use (ref (by omega)) ⟨rfl, rfl⟩) (fun c1 => EI.use (s_within _ _ _) (ite01 (fun c2 => EI.use (ref (by omega)) ⟨rfl, rfl⟩) (fun c2 => EI.use (s_within _ _ _) (ite10 (fun c3 => EI.use (add (by omega)) ⟨rfl, rfl⟩) (fun c3 => EI.use (ref (by omega)) ⟨rfl, rfl⟩))))))))
theorem m_story {x1 x2 x3 x : Int} {n2 : NM} (ref : ¬ ((0 ≤ x1 ∧ x1 ≤ 100) ∧ (0 ≤ x2 ∧ x2 ≤ 20) ∧ 1 ≤ x3 ∧ x3 ≤ 60) → EI w (d + 3) mX12_tell [vr 145, vi (-1)] B0 (upn n 145 0 0) x n2) (add : ((0 ≤ x1 ∧ x1 ≤ 100) ∧ (0 ≤ x2 ∧ x2 ≤ 20) ∧ 1 ≤ x3 ∧ x3 ≤ 60) → EI w (d + 3) mX12_add [vr 145, vi 7, vi 6, vi 700, vi 3, vi x1, vi x2, vi x3, vi 0] B0 (upn n 145 0 0) x n2) : EI w (d + 4) mX12_story [vr 145, vi x1, vi x2, vi x3] B0 n x n2 :=
  EI.of (by decide +kernel) (Nat.le_of_ble_eq_true rfl) rfl (fun _ G => gX12_story_0 (EI.use (m_in _ _ _) (ite01 (fun c1 => EI.use (ref (by omega)) ⟨rfl, rfl⟩) (fun c1 => EI.use (m_in _ _ _) (ite01 (fun c2 => EI.use (ref (by omega)) ⟨rfl, rfl⟩) (fun c2 => EI.use (m_in _ _ _) (ite10 (fun c3 => EI.use (add (by omega)) ⟨rfl, rfl⟩) (fun c3 => EI.use (ref (by omega)) ⟨rfl, rfl⟩))))))))
theorem st_story {k : Int} (h : Rel k n) (hk : k ≤ 900) (x1 x2 x3 : Int) : LStp w (d + 4) k n mX11_story [vi x1, vi x2, vi x3] mX12_story [vi x1, vi x2, vi x3] := by
  obtain ⟨x, n1, n2, r1, r2, r3, r4, r5, _⟩ := stp_add (w := w) (d := d) h hk ob_21 (t := 21) rfl ob_22 (by decide) (by decide) (h.1.2.2.2.2.2.2.2.2.1) (by decide) rfl (by decide) (by decide) (by decide) (by decide) (by decide) (by decide) (fun o hf => h.add_stories hf o) (ok := (0 ≤ x1 ∧ x1 ≤ 100) ∧ (0 ≤ x2 ∧ x2 ≤ 20) ∧ 1 ≤ x3 ∧ x3 ≤ 60) (a := x1) (b := x2) (e := x3) (f := 0)
  exact ⟨x, n1, n2, c_story r1 r2, m_story r3 r4, r5⟩
theorem c_sweep {x1 x2 x3 x4 x : Int} {n2 : NM} (ref : ¬ (((0 ≤ x1 ∧ x1 ≤ 100) ∧ (1 ≤ x2 ∧ x2 ≤ 60) ∧ 0 ≤ x3 ∧ x3 ≤ 99) ∧ 0 ≤ x4 ∧ x4 ≤ 1) → EI w (d + 3) mX11_refuse [vr 0, vi (-1)] B0 n x n2) (add : (((0 ≤ x1 ∧ x1 ≤ 100) ∧ (1 ≤ x2 ∧ x2 ≤ 60) ∧ 0 ≤ x3 ∧ x3 ≤ 99) ∧ 0 ≤ x4 ∧ x4 ≤ 1) → EI w (d + 3) mX11_addTo [vr 0, vr 23, vi x1, vi x2, vi x3, vi x4] B0 n x n2) : EI w (d + 4) mX11_sweep [vr 0, vi x1, vi x2, vi x3, vi x4] B0 n x n2 :=
  EI.of (by decide +kernel) (Nat.le_of_ble_eq_true rfl) rfl (fun _ G => gX11_sweep_0 (EI.use (c_canListen _ _ _) (ite01 (fun c1 => EI.use (ref (by omega)) ⟨rfl, rfl⟩) (fun c1 => EI.use (s_within _ _ _) (ite10 (fun c2 => EI.use (add (by omega)) ⟨rfl, rfl⟩) (fun c2 => EI.use (ref (by omega)) ⟨rfl, rfl⟩))))))
theorem m_sweep {x1 x2 x3 x4 x : Int} {n2 : NM} (ref : ¬ (((0 ≤ x1 ∧ x1 ≤ 100) ∧ (1 ≤ x2 ∧ x2 ≤ 60) ∧ 0 ≤ x3 ∧ x3 ≤ 99) ∧ 0 ≤ x4 ∧ x4 ≤ 1) → EI w (d + 3) mX12_tell [vr 145, vi (-1)] B0 (upn n 145 0 0) x n2) (add : (((0 ≤ x1 ∧ x1 ≤ 100) ∧ (1 ≤ x2 ∧ x2 ≤ 60) ∧ 0 ≤ x3 ∧ x3 ≤ 99) ∧ 0 ≤ x4 ∧ x4 ≤ 1) → EI w (d + 3) mX12_add [vr 145, vi 8, vi 12, vi 720, vi 4, vi x1, vi x2, vi x3, vi x4] B0 (upn n 145 0 0) x n2) : EI w (d + 4) mX12_sweep [vr 145, vi x1, vi x2, vi x3, vi x4] B0 n x n2 :=
  EI.of (by decide +kernel) (Nat.le_of_ble_eq_true rfl) rfl (fun _ G => gX12_sweep_0 (EI.use (m_isNet _ _ _) (ite01 (fun c1 => EI.use (ref (by omega)) ⟨rfl, rfl⟩) (fun c1 => EI.use (m_in _ _ _) (ite10 (fun c2 => EI.use (add (by omega)) ⟨rfl, rfl⟩) (fun c2 => EI.use (ref (by omega)) ⟨rfl, rfl⟩))))))
theorem st_sweep {k : Int} (h : Rel k n) (hk : k ≤ 900) (x1 x2 x3 x4 : Int) : LStp w (d + 4) k n mX11_sweep [vi x1, vi x2, vi x3, vi x4] mX12_sweep [vi x1, vi x2, vi x3, vi x4] := by
  obtain ⟨x, n1, n2, r1, r2, r3, r4, r5, _⟩ := stp_add (w := w) (d := d) h hk ob_23 (t := 23) rfl ob_24 (by decide) (by decide) (h.1.2.2.2.2.2.2.2.2.2.1) (by decide) rfl (by decide) (by decide) (by decide) (by decide) (by decide) (by decide) (fun o hf => h.add_sweeps hf ⟨o.1.1, o.1.2.1, o.1.2.2, o.2⟩) (ok := ((0 ≤ x1 ∧ x1 ≤ 100) ∧ (1 ≤ x2 ∧ x2 ≤ 60) ∧ 0 ≤ x3 ∧ x3 ≤ 99) ∧ 0 ≤ x4 ∧ x4 ≤ 1) (a := x1) (b := x2) (e := x3) (f := x4)
  exact ⟨x, n1, n2, c_sweep r1 r2, m_sweep r3 r4, r5⟩
theorem c_offer {x1 x2 x3 x4 x : Int} {n2 : NM} (ref : ¬ (((0 ≤ x1 ∧ x1 ≤ 100) ∧ (1 ≤ x2 ∧ x2 ≤ 60) ∧ 0 ≤ x3 ∧ x3 ≤ 99) ∧ 1 ≤ x4 ∧ x4 ≤ 100) → EI w (d + 3) mX11_refuse [vr 0, vi (-1)] B0 n x n2) (add : (((0 ≤ x1 ∧ x1 ≤ 100) ∧ (1 ≤ x2 ∧ x2 ≤ 60) ∧ 0 ≤ x3 ∧ x3 ≤ 99) ∧ 1 ≤ x4 ∧ x4 ≤ 100) → EI w (d + 3) mX11_addTo [vr 0, vr 25, vi x1, vi x2, vi x3, vi x4] B0 n x n2) : EI w (d + 4) mX11_offer [vr 0, vi x1, vi x2, vi x3, vi x4] B0 n x n2 :=
  EI.of (by decide +kernel) (Nat.le_of_ble_eq_true rfl) rfl (fun _ G => gX11_offer_0 (EI.use (c_canListen _ _ _) (ite01 (fun c1 => EI.use (ref (by omega)) ⟨rfl, rfl⟩) (fun c1 => EI.use (s_within _ _ _) (ite10 (fun c2 => EI.use (add (by omega)) ⟨rfl, rfl⟩) (fun c2 => EI.use (ref (by omega)) ⟨rfl, rfl⟩))))))
theorem m_offer {x1 x2 x3 x4 x : Int} {n2 : NM} (ref : ¬ (((0 ≤ x1 ∧ x1 ≤ 100) ∧ (1 ≤ x2 ∧ x2 ≤ 60) ∧ 0 ≤ x3 ∧ x3 ≤ 99) ∧ 1 ≤ x4 ∧ x4 ≤ 100) → EI w (d + 3) mX12_tell [vr 145, vi (-1)] B0 (upn n 145 0 0) x n2) (add : (((0 ≤ x1 ∧ x1 ≤ 100) ∧ (1 ≤ x2 ∧ x2 ≤ 60) ∧ 0 ≤ x3 ∧ x3 ≤ 99) ∧ 1 ≤ x4 ∧ x4 ≤ 100) → EI w (d + 3) mX12_add [vr 145, vi 9, vi 10, vi 770, vi 4, vi x1, vi x2, vi x3, vi x4] B0 (upn n 145 0 0) x n2) : EI w (d + 4) mX12_offer [vr 145, vi x1, vi x2, vi x3, vi x4] B0 n x n2 :=
  EI.of (by decide +kernel) (Nat.le_of_ble_eq_true rfl) rfl (fun _ G => gX12_offer_0 (EI.use (m_isNet _ _ _) (ite01 (fun c1 => EI.use (ref (by omega)) ⟨rfl, rfl⟩) (fun c1 => EI.use (m_in _ _ _) (ite10 (fun c2 => EI.use (add (by omega)) ⟨rfl, rfl⟩) (fun c2 => EI.use (ref (by omega)) ⟨rfl, rfl⟩))))))
theorem st_offer {k : Int} (h : Rel k n) (hk : k ≤ 900) (x1 x2 x3 x4 : Int) : LStp w (d + 4) k n mX11_offer [vi x1, vi x2, vi x3, vi x4] mX12_offer [vi x1, vi x2, vi x3, vi x4] := by
  obtain ⟨x, n1, n2, r1, r2, r3, r4, r5, _⟩ := stp_add (w := w) (d := d) h hk ob_25 (t := 25) rfl ob_26 (by decide) (by decide) (h.1.2.2.2.2.2.2.2.2.2.2.1) (by decide) rfl (by decide) (by decide) (by decide) (by decide) (by decide) (by decide) (fun o hf => h.add_offers hf ⟨o.1.1, o.1.2.1, o.1.2.2, o.2⟩) (ok := ((0 ≤ x1 ∧ x1 ≤ 100) ∧ (1 ≤ x2 ∧ x2 ≤ 60) ∧ 0 ≤ x3 ∧ x3 ≤ 99) ∧ 1 ≤ x4 ∧ x4 ≤ 100) (a := x1) (b := x2) (e := x3) (f := x4)
  exact ⟨x, n1, n2, c_offer r1 r2, m_offer r3 r4, r5⟩
end STEPS
