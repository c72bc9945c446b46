section STEPS3
variable {w : WD} {d : Nat} {n : NM}
/-- a value of kin that can be -/
abbrev kinOk (x y : Int) : Prop := (x = 0 ∧ 0 ≤ y ∧ y ≤ 50) ∨ (x = 1 ∧ 0 ≤ y ∧ y ≤ 10000) ∨ (x = 2 ∧ 1 ≤ y ∧ y ≤ 100)
theorem s_kinCanBe (x y : Int) : EI w (d + 1) mX11_kinCanBe [vi x, vi y] B0 n (if kinOk x y then 1 else 0) n := by
  refine EI.of (by decide +kernel) (Nat.le_of_ble_eq_true rfl) rfl (fun _ G => gX11_kinCanBe_0 ⟨fun e => EI.use (s_within _ _ _) ⟨b01 _, ?_, rfl⟩, fun e => EI.use (s_within _ _ _) ⟨b01 _, ?_, rfl⟩, fun e => EI.use (s_within _ _ _) ⟨b01 _, ?_, rfl⟩, fun e1 e2 e3 => ⟨?_, rfl⟩⟩)
  · subst e
    by_cases q : 0 ≤ y ∧ y ≤ 50
    · rw [if_pos q, if_pos (by unfold kinOk; omega)]
    · rw [if_neg q, if_neg (by unfold kinOk; omega)]
  · subst e
    by_cases q : 0 ≤ y ∧ y ≤ 10000
    · rw [if_pos q, if_pos (by unfold kinOk; omega)]
    · rw [if_neg q, if_neg (by unfold kinOk; omega)]
  · subst e
    by_cases q : 1 ≤ y ∧ y ≤ 100
    · rw [if_pos q, if_pos (by unfold kinOk; omega)]
    · rw [if_neg q, if_neg (by unfold kinOk; omega)]
  · rw [if_neg (by unfold kinOk; omega)]
theorem c_kin {x1 x2 x : Int} {n2 : NM} (hT : TW n 31 3 1) (hS : n 31 3 = 1) (ref : ¬ kinOk x1 x2 → EI w (d + 3) mX11_refuse [vr 0, vi (-1)] B0 n x n2) (put : kinOk x1 x2 → x = n 32 x1 ∧ n2 = upn (upn n 32 x1 x2) 0 10 0) : EI w (d + 4) mX11_kin [vr 0, vi x1, vi x2] B0 n x n2 := by
  have lf : kinOk x1 x2 → (some (vi (tg n 31 32 0 x1)) = some (vi x) ∧ (B0, upn (tset n 31 32 0 x1 x2) 0 10 0) = (B0, n2)) := fun o => by
    obtain ⟨e1, e2⟩ := put o
    unfold kinOk at o
    rw [e1, e2, tg_in hT (by decide) (by omega) (by omega) (by omega), tset_eq hT (by decide) (by omega) (by omega), if_pos (by omega), Int.zero_mul, Int.zero_add]
    exact ⟨rfl, rfl⟩
  exact EI.of (by decide +kernel) (Nat.le_of_ble_eq_true rfl) rfl (fun _ G => gX11_kin_0 (EI.use (s_kinCanBe _ _) (ite10 (fun o => EI.use (s_exchange ob_31 (c := 32) rfl ob_32 hT rfl (by decide) _ _ _) (EI.use (s_accept _) (lf o))) (fun o => EI.use (ref o) ⟨rfl, rfl⟩))))
theorem m_kin {x1 x2 x : Int} {n2 : NM} (ref : ¬ kinOk x1 x2 → EI w (d + 3) mX12_tell [vr 145, vi (-1)] B0 (upn n 145 0 0) x n2) (put : kinOk x1 x2 → EI w (d + 3) mX12_tell [vr 145, vi (n 147 (10 + x1))] B0 (upn (upn n 145 0 0) 147 (10 + x1) x2) x n2) : EI w (d + 4) mX12_kin [vr 145, vi x1, vi x2] B0 n x n2 := by
  refine EI.of (by decide +kernel) (Nat.le_of_ble_eq_true rfl) rfl (fun _ G => gX12_kin_0 (EI.use (m_in _ _ _) (ite01 (fun c1 => EI.use (ref (by unfold kinOk; omega)) ⟨rfl, rfl⟩) (fun c1 z1 e1 z2 e2 => EI.use (m_in _ _ _) (ite10 (fun c2 => ⟨⟨by omega, by omega⟩, by omega, by omega, ⟨by omega, by omega⟩, by omega, by omega, EI.use (put ?_) ⟨rfl, rfl⟩⟩) (fun c2 => EI.use (ref ?_) ⟨rfl, rfl⟩))))))
  · have : x1 = 0 ∨ x1 = 1 ∨ x1 = 2 := by omega
    unfold kinOk
    rcases this with rfl | rfl | rfl
    · rw [if_pos (by decide)] at e1
      rw [if_neg (by decide)] at e2
      omega
    · rw [if_pos (by decide)] at e1
      rw [if_pos (by decide), if_neg (by decide)] at e2
      omega
    · rw [if_neg (by decide)] at e1
      rw [if_pos (by decide), if_pos (by decide)] at e2
      omega
  · have : x1 = 0 ∨ x1 = 1 ∨ x1 = 2 := by omega
    unfold kinOk
    rcases this with rfl | rfl | rfl
    · rw [if_pos (by decide)] at e1
      rw [if_neg (by decide)] at e2
      omega
    · rw [if_pos (by decide)] at e1
      rw [if_pos (by decide), if_neg (by decide)] at e2
      omega
    · rw [if_neg (by decide)] at e1
      rw [if_pos (by decide), if_pos (by decide)] at e2
      omega
theorem st_kin {k : Int} (h : Rel k n) (hk : k ≤ 900) (x1 x2 : Int) : LStp w (d + 4) k n mX11_kin [vi x1, vi x2] mX12_kin [vi x1, vi x2] := by
  have hF : FR n 31 3 1 10 (n 147) := h.1.2.2.2.2.2.2.2.2.2.2.2.2.2
  by_cases o : kinOk x1 x2
  · have o2 := o
    unfold kinOk at o2
    refine ⟨n 147 (10 + x1), upn (upn n 32 x1 x2) 0 10 0, b1 n 32 x1 10 x2, c_kin hF.1 hF.2.1 (fun q => absurd o q) (fun _ => ⟨?_, rfl⟩), m_kin (fun q => absurd o q) (fun _ => ?_), (h.put_kin (by omega) (by omega) ⟨fun _ => by omega, fun _ => by omega, fun _ => by omega⟩).le (by omega)⟩
    · exact (hF.2.2 _ (by omega) (by omega)).symm
    · have e : upn (upn n 32 x1 x2) 0 10 0 147 = n 147 := by
        rw [upn_ne (by decide), upn_ne (by decide)]
      rw [e]
      have hr := h.2.1.2.2.2.2.2.2.2.2.2.2.2
      have : 0 ≤ n 147 (10 + x1) := by
        rcases o2 with q | q | q
        · rw [q.1]
          exact hr.1.1
        · rw [q.1]
          exact hr.2.1.1
        · rw [q.1]
          exact Int.le_trans (by decide) hr.2.2.1
      exact m_tell0 this
  · have r := stp_ref (w := w) (d := d + 3) h hk (v := -1) (by omega)
    exact ⟨_, _, _, c_kin hF.1 hF.2.1 (fun _ => r.1) (fun q => absurd q o), m_kin (fun _ => r.2.1) (fun q => absurd q o), r.2.2⟩
theorem s_lawSize {B : HB} {l k v t c : Nat} (ol : Obj B l 2 4) (rk : rf B l 0 = some k) (rv : rf B l 1 = some v) (rt : rf B l 3 = some t) (ok : Obj B k 100 400) (ov : Obj B v 100 400) (ot : Obj B t 7 4) (rc : rf B t 0 = some c) {L : Nat} (oc : Obj B c 100 L) : EI w (d + 1) mX2_size [vr l] B n (n t 3) n :=
  EI.of (by decide +kernel) (Nat.le_of_ble_eq_true rfl) rfl (fun _ G => gX2_size_0 ol rk rv rt ok ov ot (EI.use (s_size ot rc oc) ⟨rfl, rfl⟩))
theorem s_tapeSize : EI w d mX8_size [vr 35] B0 n (n 35 1) n :=
  EI.of (by decide +kernel) (Nat.le_of_ble_eq_true rfl) rfl (fun _ G => gX8_size_0 ⟨rfl, rfl⟩)
/-- what count answers -/
def cntV (n : NM) (x : Int) : Int := if x = 6 then n 147 901 else if x = 10 then n 145 8 else if x = 11 then n 146 1 else if x = 12 then n 146 2 else if x = 13 then n 146 5 else if x = 14 then n 146 6 else if 0 ≤ x ∧ x ≤ 9 then n 147 x else -1
theorem m_count (x : Int) : EI w (d + 4) mX12_count [vr 145, vi x] B0 n (cntV n x) (upn n 145 0 0) := by
  refine EI.of (by decide +kernel) (Nat.le_of_ble_eq_true rfl) rfl (fun _ G => gX12_count_0 ⟨fun e => ⟨?_, rfl⟩, fun e => ⟨?_, rfl⟩, fun e => ⟨?_, rfl⟩, fun e => ⟨?_, rfl⟩, fun e => ⟨?_, rfl⟩, fun e => ⟨?_, rfl⟩, fun e1 e2 e3 e4 e5 e6 => EI.use (m_in _ _ _) (ite01 (fun c => ⟨?_, rfl⟩) (fun c => ⟨by omega, by omega, ?_, rfl⟩))⟩)
  · subst e
    rfl
  · subst e
    rfl
  · subst e
    rfl
  · subst e
    rfl
  · subst e
    rfl
  · subst e
    rfl
  · unfold cntV
    rw [if_neg e1, if_neg e2, if_neg e3, if_neg e4, if_neg e5, if_neg e6, if_neg c]
  · unfold cntV
    rw [if_neg e1, if_neg e2, if_neg e3, if_neg e4, if_neg e5, if_neg e6, if_pos c, upn_ne (by decide)]
theorem c_count {k : Int} (h : Rel k n) (x : Int) : EI w (d + 4) mX11_count [vr 0, vi x] B0 n (cntV n x) n := by
  obtain ⟨⟨_, p0, p1, p2, p3, p4, p5, p6, p7, p8, p9, _⟩, _, _, _, pt, pm, _⟩ := h
  have hl : n 19 3 = n 147 901 := by
    have := p6.2.1
    rw [this]
    rfl
  have ht := pt.2.2.1
  unfold MiscRel at pm
  refine EI.of (by decide +kernel) (Nat.le_of_ble_eq_true rfl) rfl (fun _ G => gX11_count_0 ⟨fun e => EI.use (s_size ob_4 (c := 5) rfl ob_5) ⟨?_, rfl⟩, fun e => EI.use (s_size ob_6 (c := 7) rfl ob_7) ⟨?_, rfl⟩, fun e => EI.use (s_size ob_8 (c := 9) rfl ob_9) ⟨?_, rfl⟩, fun e => EI.use (s_size ob_10 (c := 11) rfl ob_11) ⟨?_, rfl⟩, fun e => EI.use (s_size ob_12 (c := 13) rfl ob_13) ⟨?_, rfl⟩, fun e => EI.use (s_size ob_14 (c := 15) rfl ob_15) ⟨?_, rfl⟩, fun e => EI.use (s_lawSize ob_16 (k := 17) (v := 18) (t := 19) rfl rfl rfl ob_17 ob_18 ob_19 (c := 20) rfl ob_20) ⟨?_, rfl⟩, fun e => EI.use (s_size ob_21 (c := 22) rfl ob_22) ⟨?_, rfl⟩, fun e => EI.use (s_size ob_23 (c := 24) rfl ob_24) ⟨?_, rfl⟩, fun e => EI.use (s_size ob_25 (c := 26) rfl ob_26) ⟨?_, rfl⟩, fun e => EI.use s_tapeSize ⟨?_, rfl⟩, fun e => ⟨?_, rfl⟩, fun e => ⟨?_, rfl⟩, fun e => ⟨?_, rfl⟩, fun e => ⟨?_, rfl⟩, fun e0 e1 e2 e3 e4 e5 e6 e7 e8 e9 e10 e11 e12 e13 e14 => ⟨?_, rfl⟩⟩)
  · subst e
    exact congrArg (fun z => some (vi z)) p0.2.1
  · subst e
    exact congrArg (fun z => some (vi z)) p1.2.1
  · subst e
    exact congrArg (fun z => some (vi z)) p2.2.1
  · subst e
    exact congrArg (fun z => some (vi z)) p3.2.1
  · subst e
    exact congrArg (fun z => some (vi z)) p4.2.1
  · subst e
    exact congrArg (fun z => some (vi z)) p5.2.1
  · subst e
    exact congrArg (fun z => some (vi z)) hl
  · subst e
    exact congrArg (fun z => some (vi z)) p7.2.1
  · subst e
    exact congrArg (fun z => some (vi z)) p8.2.1
  · subst e
    exact congrArg (fun z => some (vi z)) p9.2.1
  · subst e
    exact congrArg (fun z => some (vi z)) ht.symm
  · subst e
    exact congrArg (fun z => some (vi z)) pm.2.2.2.1.symm
  · subst e
    exact congrArg (fun z => some (vi z)) pm.2.2.2.2.1.symm
  · subst e
    exact congrArg (fun z => some (vi z)) pm.2.2.2.2.2.1.symm
  · subst e
    exact congrArg (fun z => some (vi z)) pm.2.2.2.2.2.2.1.symm
  · unfold cntV
    rw [if_neg e6, if_neg e10, if_neg e11, if_neg e12, if_neg e13, if_neg e14, if_neg (by omega)]
theorem st_count {k : Int} (h : Rel k n) (x : Int) : LStp w (d + 4) k n mX11_count [vi x] mX12_count [vi x] :=
  ⟨cntV n x, n, upn n 145 0 0, c_count h x, m_count x, h.zero.le (by omega)⟩
end STEPS3
