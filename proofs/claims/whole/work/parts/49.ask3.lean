section ASK3
variable {w : WD} {d : Nat} {n : NM}
/-- what only scratch rows change -/
def FrZ (n2 n : NM) : Prop := (∀ t : Nat, (t < 37 ∨ t = 45 ∨ (76 < t ∧ t < 145) ∨ (145 < t ∧ t ≤ 150) ∨ t = 164) → n2 t = n t) ∧ ∀ j : Int, (j = 1 ∨ j = 6 ∨ j = 8 ∨ j = 13 ∨ j = 37) → n2 145 j = n 145 j
theorem FrZ.rf : FrZ n n := ⟨fun _ _ => rfl, fun _ _ => rfl⟩
theorem FrZ.tr {n2 n3 : NM} (h : FrZ n2 n) (h2 : FrZ n3 n2) : FrZ n3 n := ⟨fun t a => (h2.1 t a).trans (h.1 t a), fun j a => (h2.2 j a).trans (h.2 j a)⟩
theorem FrZ.z {v : Int} : FrZ (upn n 145 0 v) n := ⟨fun t a => upn_ne (by omega), fun j a => upn_i (by omega)⟩
theorem Rel.scr {k : Int} {n2 : NM} (h : Rel k n) (f : FrZ n2 n) : Rel k n2 := by
  obtain ⟨p0, p1, p2, p3, p4, p5, p6, p7⟩ := h
  have e : ∀ t : Nat, (t < 37 ∨ t = 45 ∨ (76 < t ∧ t < 145) ∨ (145 < t ∧ t ≤ 150) ∨ t = 164) → n2 t = n t := f.1
  refine ⟨?_, ?_, p2.congr (fun t a b => e t (by omega)) (e 34 (by omega)) (e 148 (by omega)) (e 149 (by omega)), p3.congr (fun t a b => e t (by omega)) (e 34 (by omega)) (e 148 (by omega)) (e 149 (by omega)), p4.congr (e 35 (by omega)) (e 36 (by omega)) (e 150 (by omega)) (f.2 8 (by omega)), ?_, p6.congr (e 77 (by omega)) (e 78 (by omega)) (e 79 (by omega)) (e 164 (by omega)) (f.2 37 (by omega)), p7.congr (e 45 (by omega))⟩
  · rw [e 147 (by omega)]
    exact p0.congr (fun t a b => e t (by omega)) (fun _ _ _ => rfl)
  · rw [e 147 (by omega)]
    exact p1
  · unfold MiscRel at *
    rw [f.2 1 (by omega), f.2 13 (by omega), f.2 6 (by omega), e 0 (by omega), e 80 (by omega), e 146 (by omega)]
    exact p5
/-- a call on both sides; what lies in the scratch rows is nobody's -/
def LS2 (w : WD) (d : Nat) (k : Int) (n : NM) (mc : MI) (ac : List AV) (mm : MI) (am : List AV) : Prop :=
  ∃ (x : Int) (P : NM → Prop), Ev w d 0 0 mc (vr 0 :: ac) (B0, n) (fun r h' => ∃ (x1 : Int) (n1 : NM), r = some (vi x1) ∧ h' = (B0, n1) ∧ x1 = x ∧ P n1) ∧ ∀ n1, P n1 → Ev w d 0 0 mm (vr 145 :: am) (B0, n1) (fun r h' => ∃ (x1 : Int) (n2 : NM), r = some (vi x1) ∧ h' = (B0, n2) ∧ x1 = x ∧ Rel (k + 1) n2)
theorem LStp.two {k : Int} {mc mm : MI} {ac am : List AV} {d2 : Nat} (hd : d ≤ d2) (h : LStp w d k n mc ac mm am) : LS2 w d2 k n mc ac mm am := by
  obtain ⟨x, n1, n2, h1, h2, h3⟩ := h
  refine ⟨x, fun m => m = n1, Ev.deep hd (Ev.mono h1 (fun r h' z => ⟨x, n1, z.1, z.2, rfl, rfl⟩)), fun m hm => ?_⟩
  subst hm
  exact Ev.deep hd (Ev.mono h2 (fun r h' z => ⟨x, n2, z.1, z.2, rfl, h3⟩))
def FrA (n2 n : NM) : Prop := ∀ t : Nat, t ≠ 47 → t ≠ 48 → t ≠ 49 → t ≠ 50 → n2 t = n t
theorem FrA.rf : FrA n n := fun _ _ _ _ _ => rfl
theorem FrA.tr {n2 n3 : NM} (h : FrA n2 n) (h2 : FrA n3 n2) : FrA n3 n := fun t a b c e => (h2 t a b c e).trans (h t a b c e)
theorem FrA.z {n2 : NM} (h : FrA n2 n) : FrZ n2 n := ⟨fun t a => h t (by omega) (by omega) (by omega) (by omega), fun j _ => by rw [h 145 (by decide) (by decide) (by decide) (by decide)]⟩
theorem FrQ.z {n2 : NM} (h : FrQ n2 n) : FrZ n2 n := ⟨fun t a => h.1 t (by omega) (by omega) (by omega), fun j a => h.2 j (by omega) (by omega) (by omega)⟩
theorem FrA.lake {n2 : NM} (f : FrA n2 n) (h : LakeRel n 1 (n 147)) : LakeRel n2 1 (n2 147) := by
  rw [f 147 (by decide) (by decide) (by decide) (by decide)]
  exact h.congr (fun t a b => f t (by omega) (by omega) (by omega) (by omega)) (fun _ _ _ => rfl)
theorem s_askA {x : Int} {n2 : NM} (f : FrA n2 n) (hL : LakeRel n 1 (n 147)) (hr : RowOk (n 147)) (x0 : 0 ≤ x) (x1 : x < n 147 5) : Ev w (d + 6) 0 0 mX0_ask [vr 47, vr 1, vi x] (B0, n2) (fun r h' => ∃ n1 : NM, r = none ∧ h' = (B0, n1) ∧ AkD n x n1) := by
  have e : n2 147 = n 147 := f 147 (by decide) (by decide) (by decide) (by decide)
  have q := s_ask (w := w) (d := d) (n := n2) (x := x) (f.lake hL) (by rw [e]; exact hr) x0 (by rw [e]; exact x1)
  refine EV.usP q (fun n1 z => ⟨fun t a b c g => (z.1 t a b c g).trans (f t a b c g), by rw [z.2.1, e], fun j j0 j1 => ?_⟩)
  rw [z.2.2 j j0 j1]
  exact lawG_congr (f 17 (by decide) (by decide) (by decide) (by decide)) (f 18 (by decide) (by decide) (by decide) (by decide)) (f 19 (by decide) (by decide) (by decide) (by decide)) (f 20 (by decide) (by decide) (by decide) (by decide)) e
theorem m_isThereA {n2 : NM} (e : n2 147 = n 147) (hr : RowOk (n 147)) (hn : NumsOk (n 147)) {x : Int} (x0 : 0 ≤ x) (x1 : x < n 147 5) (k : Nat) : EI w (d + 2) mX12_isThere [vr 145, vi (420 + 7 * x), vi (k : Int)] B0 n2 (thV (n 147) (420 + 7 * x) k) n2 := by
  have q := m_isThere (w := w) (d := d) (n := n2) (by rw [e]; exact hr) (by rw [e]; exact hn) x0 (by rw [e]; exact x1) k
  rw [e] at q
  exact q
theorem m_askA {x : Int} {n2 : NM} (e : n2 147 = n 147) (hr : RowOk (n 147)) (hn : NumsOk (n 147)) (x0 : 0 ≤ x) (x1 : x < n 147 5) : Ev w (d + 1) 0 0 mX12_ask [vr 145, vi (420 + 7 * x)] (B0, n2) (fun r h' => ∃ n1 : NM, r = none ∧ h' = (B0, n1) ∧ (∀ t : Nat, t ≠ 156 → n1 t = n2 t) ∧ ∀ i, 0 ≤ i → i < 9 → n1 156 (i + 1) = wdS (n 147) (420 + 7 * x) i) := by
  have q := m_ask (w := w) (d := d) (n := n2) (x := x) (by rw [e]; exact hr) (by rw [e]; exact hn) x0 (by rw [e]; exact x1)
  rw [e] at q
  exact q
theorem m_tellQ {x h : Int} {n2 : NM} (hL : LakeRel n 1 (n 147)) (hr : RowOk (n 147)) (hn : NumsOk (n 147)) (x0 : 0 ≤ x) (x1 : x < n 147 5) (e147 : n2 147 = n 147) {V : NM → Int → NM → Prop} (hV : ∀ n1 n3, FrQ n3 n2 → V n1 (lawG n x h) n3) : Ev w (d + 6) 0 0 mX12_ask [vr 145, vi (420 + 7 * x)] (B0, n2) (fun r h' => ∃ n1 : NM, r = none ∧ h' = (B0, n1) ∧ Ev w (d + 6) 0 0 mX12_find [vr 145, vi h, vi (if h = 5 then 100 else 0), vi (if h = 5 then 1 else 0), vi 1000] (B0, n1) (fun r h' => ∃ (x1 : Int) (n3 : NM), r = some (vi x1) ∧ h' = (B0, n3) ∧ V n1 x1 n3)) := by
  refine EV.usP (m_askA (d := d + 5) e147 hr hn x0 x1) (fun n1 z => EI.usP (m_tell (h := h) hL hr x0 x1 ((z.1 147 (by decide)).trans e147) z.2 (by omega)) (fun x1 n3 u => ?_))
  obtain ⟨rfl, u⟩ := u
  exact hV n1 n3 ⟨fun t a b c => (u.1 t a c).trans (z.1 t b), fun j a b c => (u.2 j a b c).trans (congrFun (z.1 145 (by decide)) j)⟩
theorem m_weightOf {x : Int} {n2 : NM} {k : Nat} (hL : LakeRel n 1 (n 147)) (hr : RowOk (n 147)) (hn : NumsOk (n 147)) (x0 : 0 ≤ x) (x1 : x < n 147 5) (e147 : n2 147 = n 147) (hk : k < 5) : Ev w (d + 7) 0 0 mX12_weightOf [vr 145, vi (420 + 7 * x), vi (k : Int)] (B0, n2) (fun r h' => ∃ (x1 : Int) (n1 : NM), r = some (vi x1) ∧ h' = (B0, n1) ∧ x1 = wtV n x k ∧ FrQ n1 n2) := by
  refine EI.ofP (by decide +kernel) (Nat.le_of_ble_eq_true rfl) rfl (fun _ G => gX12_weightOf_0 (EI.use (m_isThereA (d := d + 4) e147 hr hn x0 x1 k) ⟨fun c => ?_, fun c => ⟨_, _, rfl, rfl, ?_, FrQ.rf⟩⟩))
  · have q := m_tellQ (w := w) (d := d) (h := (k : Int)) (V := fun n1 x1 n3 => ∃ (x2 : Int) (n4 : NM), some (vi x1) = some (vi x2) ∧ ((B0, n3) : Hp) = (B0, n4) ∧ x2 = wtV n x k ∧ FrQ n4 n2) hL hr hn x0 x1 e147 (fun n1 n3 f => ⟨_, _, rfl, rfl, (if_neg c).symm, f⟩)
    rw [if_neg (show ¬ (k : Int) = 5 by omega), if_neg (show ¬ (k : Int) = 5 by omega)] at q
    exact q
  · exact (if_pos c).symm
theorem m_growOf {x : Int} {n2 : NM} (hL : LakeRel n 1 (n 147)) (hr : RowOk (n 147)) (hn : NumsOk (n 147)) (x0 : 0 ≤ x) (x1 : x < n 147 5) (e147 : n2 147 = n 147) : Ev w (d + 7) 0 0 mX12_growOf [vr 145, vi (420 + 7 * x)] (B0, n2) (fun r h' => ∃ (x1 : Int) (n1 : NM), r = some (vi x1) ∧ h' = (B0, n1) ∧ x1 = lawG n x 5 ∧ FrQ n1 n2) :=
  EI.ofP (by decide +kernel) (Nat.le_of_ble_eq_true rfl) rfl (fun _ G => gX12_growOf_0 (m_tellQ (w := w) (d := d) (h := 5) (V := fun n1 x1 n3 => ∃ (x2 : Int) (n4 : NM), some (vi x1) = some (vi x2) ∧ ((B0, n3) : Hp) = (B0, n4) ∧ x2 = lawG n x 5 ∧ FrQ n4 n2) hL hr hn x0 x1 e147 (fun n1 n3 f => ⟨_, _, rfl, rfl, rfl, f⟩)))
theorem m_weightsL {G : GM} {x : Int} {n0 : NM} (hL : LakeRel n 1 (n 147)) (hr : RowOk (n 147)) (hn : NumsOk (n 147)) (x0 : 0 ≤ x) (x1 : x < n 147 5) : ∀ (m k : Nat) (n2 : NM), k + m = 5 → n2 147 = n 147 → FrQ n2 n0 → Rn w mX12_weights (d + 8) G (fun r h' => ∃ (x1 : Int) (n1 : NM), r = some (vi x1) ∧ h' = (B0, n1) ∧ x1 = wtS n x 5 ∧ FrQ n1 n0) 4 [(0, vr 145), (1, vi (420 + 7 * x)), (2, vi (wtS n x k)), (3, vi (k : Int))] [] (B0, n2)
  | 0, k, n2, hk, e, f => by
    have : k = 5 := by omega
    subst this
    exact gX12_weights_4 ⟨fun _ => ⟨_, _, rfl, rfl, rfl, f⟩, fun z => absurd z (by decide)⟩
  | m + 1, k, n2, hk, e, f => by
    have q := wtS_le (n := n) (x := x) k
    have q2 := wtV_le (n := n) (x := x) (k := k)
    refine gX12_weights_4 ⟨fun z => absurd z (by omega), fun _ => EI.usP (m_weightOf hL hr hn x0 x1 e (by omega)) (fun y n3 z => ?_)⟩
    obtain ⟨rfl, z⟩ := z
    exact ⟨⟨by omega, by omega⟩, ⟨by omega, by omega⟩, m_weightsL hL hr hn x0 x1 m (k + 1) n3 (by omega) ((z.1 147 (by decide) (by decide) (by decide)).trans e) (f.tr z)⟩
theorem m_weights {x : Int} {n2 : NM} (hL : LakeRel n 1 (n 147)) (hr : RowOk (n 147)) (hn : NumsOk (n 147)) (x0 : 0 ≤ x) (x1 : x < n 147 5) (e147 : n2 147 = n 147) : Ev w (d + 8) 0 0 mX12_weights [vr 145, vi (420 + 7 * x)] (B0, n2) (fun r h' => ∃ (x1 : Int) (n1 : NM), r = some (vi x1) ∧ h' = (B0, n1) ∧ x1 = wtS n x 5 ∧ FrQ n1 n2) :=
  EI.ofP (by decide +kernel) (Nat.le_of_ble_eq_true rfl) rfl (fun _ G => gX12_weights_0 (m_weightsL hL hr hn x0 x1 5 0 n2 rfl e147 FrQ.rf))
/-! of -/
theorem st_of {k : Int} (h : Rel k n) (x1 x2 : Int) : LS2 w (d + 9) k n mX11_of [vi x1, vi x2] mX12_of [vi x1, vi x2] := by
  have hn := h.numsOk
  have h5 : n 14 3 = n 147 5 := h.1.2.2.2.2.2.2.1.2.1
  have hS : TR n 14 7 40 5 420 (n 147) := h.1.2.2.2.2.2.2.1
  have h40 := hn.2.2.2.2.2.1
  refine ⟨if 0 ≤ x1 ∧ x1 < n 147 5 then (if 0 ≤ x2 ∧ x2 ≤ 8 then (if x2 = 7 then goneV (n 147) (420 + 7 * x1) else if x2 = 8 then lawG n x1 5 else n 147 (420 + 7 * x1 + x2)) else -1) else -1, fun n1 => FrA n1 n, ?_, ?_⟩
  · refine EI.ofP (by decide +kernel) (Nat.le_of_ble_eq_true rfl) rfl (fun _ G => gX11_of_0 (EI.use (s_holds ob_14 (c := 15) rfl ob_15 _) (ite01 (fun c => ⟨_, _, rfl, rfl, ?_, FrA.rf⟩) (fun c => EI.use (s_within _ _ _) (ite10 (fun c2 => ⟨fun c7 => ⟨fun c8 => EI.use (s_tr (d := d + 7) ob_14 rfl ob_15 hS (by decide) (by decide) c.1 (by omega) c2.1 (by omega) rfl) ⟨_, _, rfl, rfl, ?_, FrA.rf⟩, fun c8 => EV.usP (s_askA FrA.rf h.1 h.2.1 c.1 (by omega)) (fun n1 z => EI.use (s_hund z) ⟨_, _, rfl, rfl, ?_, z.1⟩)⟩, fun c7 => EI.use (s_gone h.1 h.2.1 c.1 (by omega)) ⟨_, _, rfl, rfl, ?_, FrA.rf⟩⟩) (fun c2 => ⟨_, _, rfl, rfl, ?_, FrA.rf⟩))))))
    · rw [if_neg (by omega)]
    · rw [if_pos (by omega), if_pos c2, if_neg c7, if_neg c8]
    · rw [if_pos (by omega), if_pos c2, if_neg c7, if_pos c8]
    · rw [if_pos (by omega), if_pos c2, if_pos c7]
    · rw [if_pos (by omega), if_neg c2]
  · intro n1 f
    have e1 : n1 147 = n 147 := f 147 (by decide) (by decide) (by decide) (by decide)
    have e147 : (upn n1 145 0 0) 147 = n 147 := (upn_ne (by decide)).trans e1
    have hz : FrZ (upn n1 145 0 0) n := f.z.tr FrZ.z
    have fin : ∀ n2, FrZ n2 n → Rel (k + 1) n2 := fun n2 g => (h.scr g).le (by omega)
    have gn := fun (c0 : 0 ≤ x1) (c1 : x1 < n 147 5) => m_gone (w := w) (d := d + 8) (n := upn n1 145 0 0) (i := x1) (by rw [e147]; exact h.2.1) (by rw [e147]; exact hn.1.1) (by rw [e147]; exact hn.1.2) c0 (by rw [e147]; exact c1) (by rw [e147]; exact h40.2)
    rw [e147] at gn
    refine EI.ofP (by decide +kernel) (Nat.le_of_ble_eq_true rfl) rfl (fun _ G => gX12_of_0 (EI.use (m_is (by decide) (by decide) (by rw [e147]; omega)) (ite01 (fun c => ⟨_, _, rfl, rfl, ?_, fin _ hz⟩) (fun c => EI.use (m_in _ _ _) (ite10 (fun c2 => ?_) (fun c2 => ⟨_, _, rfl, rfl, ?_, fin _ hz⟩))))))
    · rw [e147] at c
      rw [if_neg (by omega)]
    · rw [e147] at c
      have q := h.2.1.2.2.2.2.2.1 x1 c.1 (by omega)
      refine EI.use (m_sightAt c.1 (by omega)) ⟨fun c7 => ⟨fun c8 => ⟨⟨by omega, by omega⟩, by omega, by omega, _, _, rfl, rfl, ?_, fin _ hz⟩, fun c8 => EI.usP (m_growOf (d := d + 1) h.1 h.2.1 hn c.1 (by omega) e147) (fun y n3 z => ⟨_, _, rfl, rfl, ?_, fin _ (hz.tr z.2.z)⟩)⟩, fun c7 => EI.use (gn c.1 (by omega)) ⟨_, _, rfl, rfl, ?_, fin _ hz⟩⟩
      · rw [if_pos (by omega), if_pos c2, if_neg c7, if_neg c8, e147]
      · rw [if_pos (by omega), if_pos c2, if_neg c7, if_pos c8, z.1]
      · rw [if_pos (by omega), if_pos c2, if_pos c7]
    · rw [e147] at c
      rw [if_pos (by omega), if_neg c2]
/-! odds -/
theorem gcd_step {a b : Nat} : Nat.gcd b (a % b) = Nat.gcd a b := by
  rw [Nat.gcd_comm a b, Nat.gcd_rec b a, Nat.gcd_comm]
theorem s_gcdL {G : GM} : ∀ (m a b i : Nat), b ≤ a → a * b < 2 ^ m → (b = 0 ∨ i + m ≤ 64) → Rn w mX11_greatestDivisor d G (fun r h' => r = some (vi ((Nat.gcd a b : Nat) : Int)) ∧ h' = (B0, n)) 7 [(2, vi (a : Int)), (3, vi (b : Int)), (4, vi (i : Int))] [] (B0, n)
  | 0, a, b, i, hb, hp, hi => by
    have b0 : b = 0 := by
      rcases Nat.mul_eq_zero.mp (show a * b = 0 by omega) with q | q <;> omega
    subst b0
    exact gX11_greatestDivisor_7 ⟨fun _ => ⟨by rw [Nat.gcd_zero_right], rfl⟩, fun _ => ⟨fun _ => ⟨by rw [Nat.gcd_zero_right], rfl⟩, fun z => absurd rfl z⟩⟩
  | m + 1, a, b, i, hb, hp, hi => by
    by_cases b0 : b = 0
    · subst b0
      exact gX11_greatestDivisor_7 ⟨fun _ => ⟨by rw [Nat.gcd_zero_right], rfl⟩, fun _ => ⟨fun _ => ⟨by rw [Nat.gcd_zero_right], rfl⟩, fun z => absurd rfl z⟩⟩
    · have h1 : a % b < b := Nat.mod_lt _ (by omega)
      have h2 : a % b + b ≤ a := by
        have h3 := Nat.div_add_mod a b
        have h4 : 1 ≤ a / b := (Nat.one_le_div_iff (by omega)).mpr hb
        have h5 : b * 1 ≤ b * (a / b) := Nat.mul_le_mul_left b h4
        omega
      have h6 : 2 * (b * (a % b)) ≤ a * b := by
        have h7 : b * (2 * (a % b)) ≤ b * a := Nat.mul_le_mul_left b (by omega)
        rw [Nat.mul_comm a b]
        have h8 : 2 * (b * (a % b)) = b * (2 * (a % b)) := Nat.mul_left_comm _ _ _
        omega
      have nxt := s_gcdL (G := G) m b (a % b) (i + 1) (by omega) (by rw [Nat.pow_succ] at hp; omega) (by omega)
      rw [gcd_step] at nxt
      exact gX11_greatestDivisor_7 ⟨fun z => absurd z (by omega), fun _ => ⟨fun z => absurd z (by omega), fun _ => ⟨by omega, by omega, ⟨by omega, by omega⟩, nxt⟩⟩⟩
theorem s_gcd {a b : Nat} (ha : a ≤ 5000) (hb : b ≤ 5000) : EI w d mX11_greatestDivisor [vi (a : Int), vi (b : Int)] B0 n ((Nat.gcd a b : Nat) : Int) n := by
  refine EI.of (by decide +kernel) (Nat.le_of_ble_eq_true rfl) rfl (fun _ G => gX11_greatestDivisor_0 ?_)
  by_cases b0 : b = 0
  · subst b0
    exact gX11_greatestDivisor_7 ⟨fun _ => ⟨by rw [Nat.gcd_zero_right], rfl⟩, fun _ => ⟨fun _ => ⟨by rw [Nat.gcd_zero_right], rfl⟩, fun z => absurd rfl z⟩⟩
  · have h1 : a % b < b := Nat.mod_lt _ (by omega)
    have h2 : b * (a % b) ≤ 5000 * 5000 := Nat.mul_le_mul hb (by omega)
    have nxt := s_gcdL (w := w) (d := d) (n := n) (G := G) 25 b (a % b) 1 (by omega) (by omega) (by omega)
    rw [gcd_step] at nxt
    exact gX11_greatestDivisor_7 ⟨fun z => absurd z (by decide), fun _ => ⟨fun z => absurd z (by omega), fun _ => ⟨by omega, by omega, ⟨by decide, by decide⟩, nxt⟩⟩⟩
theorem m_gcdL {G : GM} {p al it : Int} (hal : 0 ≤ al) (hit : 0 ≤ it) : ∀ (m a b : Nat), b ≤ m → 0 < a → Rn w mX12_odds d G (fun r h' => ∃ (x1 : Int) (n1 : NM), r = some (vi x1) ∧ h' = (B0, n1) ∧ x1 = (if p = 0 then it / ((Nat.gcd a b : Nat) : Int) else al / ((Nat.gcd a b : Nat) : Int)) ∧ n1 = n) 74 [(3, vi p), (4, vi al), (5, vi it), (6, vi (a : Int)), (7, vi (b : Int))] [] (B0, n)
  | m, a, 0, hb, ha => by
    rw [Nat.gcd_zero_right]
    exact gX12_odds_74 ⟨fun _ => ⟨fun c => ⟨hal, by omega, _, _, rfl, rfl, (if_neg c).symm, rfl⟩, fun c => ⟨hit, by omega, _, _, rfl, rfl, (if_pos c).symm, rfl⟩⟩, fun z => absurd z (by decide)⟩
  | 0, a, b + 1, hb, ha => by omega
  | m + 1, a, b + 1, hb, ha => by
    have h1 : a % (b + 1) < b + 1 := Nat.mod_lt _ (by omega)
    have nxt := m_gcdL (G := G) (p := p) hal hit m (b + 1) (a % (b + 1)) (by omega) (by omega)
    rw [gcd_step] at nxt
    exact gX12_odds_74 ⟨fun z => absurd z (by omega), fun _ => ⟨by omega, by omega, nxt⟩⟩
theorem st_odds {k : Int} (h : Rel k n) (x1 x2 x3 : Int) : LS2 w (d + 9) k n mX11_odds [vi x1, vi x2, vi x3] mX12_odds [vi x1, vi x2, vi x3] := by
  have hn := h.numsOk
  have h5 : n 14 3 = n 147 5 := h.1.2.2.2.2.2.2.1.2.1
  have h40 := hn.2.2.2.2.2.1
  have ql := wtS_le (n := n) (x := x1) 5
  have qv := wtV_le (n := n) (x := x1) (k := x2.toNat)
  refine ⟨if 0 ≤ x1 ∧ x1 < n 147 5 then (if 0 ≤ x2 ∧ x2 ≤ 4 then (if 0 ≤ x3 ∧ x3 ≤ 1 then (if wtS n x1 5 = 0 then -1 else if x3 = 0 then wtV n x1 x2.toNat / ((Nat.gcd (wtS n x1 5).toNat (wtV n x1 x2.toNat).toNat : Nat) : Int) else wtS n x1 5 / ((Nat.gcd (wtS n x1 5).toNat (wtV n x1 x2.toNat).toNat : Nat) : Int)) else -1) else -1) else -1, fun n1 => FrA n1 n, ?_, ?_⟩
  · refine EI.ofP (by decide +kernel) (Nat.le_of_ble_eq_true rfl) rfl (fun _ G => gX11_odds_0 (EI.use (s_holds ob_14 (c := 15) rfl ob_15 _) (ite01 (fun c => ⟨_, _, rfl, rfl, ?_, FrA.rf⟩) (fun c => EI.use (s_within _ _ _) (ite01 (fun c2 => ⟨_, _, rfl, rfl, ?_, FrA.rf⟩) (fun c2 => EI.use (s_within _ _ _) (ite10 (fun c3 => EV.usP (s_askA (d := d + 2) FrA.rf h.1 h.2.1 c.1 (by omega)) (fun n1 z => EI.use (s_all z) ?_)) (fun c3 => ⟨_, _, rfl, rfl, ?_, FrA.rf⟩))))))))
    · rw [if_neg (by omega)]
    · rw [if_pos (by omega), if_neg c2]
    · rw [if_pos (show 0 ≤ x1 ∧ x1 < n 147 5 by omega), if_pos c2, if_pos c3]
      have sw := s_weightOf (w := w) (d := d + 8) (k := x2.toNat) z (by omega)
      rw [show ((x2.toNat : Nat) : Int) = x2 by omega] at sw
      have sg := s_gcd (w := w) (d := d + 8) (n := n1) (a := (wtV n x1 x2.toNat).toNat) (b := (wtS n x1 5).toNat) (by omega) (by omega)
      rw [show (((wtV n x1 x2.toNat).toNat : Nat) : Int) = wtV n x1 x2.toNat by omega, show (((wtS n x1 5).toNat : Nat) : Int) = wtS n x1 5 by omega, Nat.gcd_comm] at sg
      refine EI.use sw (EI.use sg ⟨fun c0 => ⟨_, _, rfl, rfl, ?_, z.1⟩, fun c0 => ⟨fun cg => ⟨fun c => ⟨by omega, by omega, _, _, rfl, rfl, ?_, z.1⟩, fun c => ⟨by omega, by omega, _, _, rfl, rfl, ?_, z.1⟩⟩, fun cg => absurd cg ?_⟩⟩)
      · rw [if_pos c0]
      · rw [if_neg c0, if_neg c]
      · rw [if_neg c0, if_pos c]
      · have := Nat.gcd_pos_of_pos_left (wtV n x1 x2.toNat).toNat (show 0 < (wtS n x1 5).toNat by omega)
        omega
    · rw [if_pos (by omega), if_pos c2, if_neg c3]
  · intro n1 f
    have e1 : n1 147 = n 147 := f 147 (by decide) (by decide) (by decide) (by decide)
    have e147 : (upn n1 145 0 0) 147 = n 147 := (upn_ne (by decide)).trans e1
    have hz : FrZ (upn n1 145 0 0) n := f.z.tr FrZ.z
    have fin : ∀ n2, FrZ n2 n → Rel (k + 1) n2 := fun n2 g => (h.scr g).le (by omega)
    refine EI.ofP (by decide +kernel) (Nat.le_of_ble_eq_true rfl) rfl (fun _ G => gX12_odds_0 (EI.use (m_is (by decide) (by decide) (by rw [e147]; omega)) (ite01 (fun c => ⟨_, _, rfl, rfl, ?_, fin _ hz⟩) (fun c => EI.use (m_in _ _ _) (ite01 (fun c2 => ⟨_, _, rfl, rfl, ?_, fin _ hz⟩) (fun c2 => EI.use (m_in _ _ _) (ite10 (fun c3 => ?_) (fun c3 => ⟨_, _, rfl, rfl, ?_, fin _ hz⟩))))))))
    · rw [e147] at c
      rw [if_neg (by omega)]
    · rw [e147] at c
      rw [if_pos (by omega), if_neg c2]
    · rw [e147] at c
      rw [if_pos (show 0 ≤ x1 ∧ x1 < n 147 5 by omega), if_pos c2, if_pos c3]
      refine EI.use (m_sightAt c.1 (by omega)) (EI.usP (m_weights (d := d) h.1 h.2.1 hn c.1 (by omega) e147) (fun y n3 z => ?_))
      obtain ⟨rfl, z⟩ := z
      have e3 : n3 147 = n 147 := (z.1 147 (by decide) (by decide) (by decide)).trans e147
      have mw := m_weightOf (w := w) (d := d + 1) (n := n) (n2 := n3) (k := x2.toNat) h.1 h.2.1 hn c.1 (by omega) e3 (by omega)
      rw [show ((x2.toNat : Nat) : Int) = x2 by omega] at mw
      refine EI.use (m_sightAt c.1 (by omega)) (EI.usP mw (fun y n4 u => ?_))
      obtain ⟨rfl, u⟩ := u
      refine ⟨fun c0 => ?_, fun c0 => ⟨_, _, rfl, rfl, ?_, fin _ (hz.tr (z.z.tr u.z))⟩⟩
      · have mg := m_gcdL (w := w) (d := d + 9) (n := n4) (G := G) (p := x3) (al := wtS n x1 5) (it := wtV n x1 x2.toNat) (by omega) (by omega) (wtV n x1 x2.toNat).toNat (wtS n x1 5).toNat (wtV n x1 x2.toNat).toNat (Nat.le_refl _) (by omega)
        rw [show (((wtV n x1 x2.toNat).toNat : Nat) : Int) = wtV n x1 x2.toNat by omega, show (((wtS n x1 5).toNat : Nat) : Int) = wtS n x1 5 by omega] at mg
        refine Rn.weak (fun v h' t => ?_) mg
        obtain ⟨y1, y2, t1, t2, t3, t4⟩ := t
        subst t4
        refine ⟨_, _, t1, t2, ?_, fin _ (hz.tr (z.z.tr u.z))⟩
        rw [if_neg c0]
        exact t3
      · rw [if_pos c0]
    · rw [e147] at c
      rw [if_pos (by omega), if_pos c2, if_neg c3]
end ASK3
