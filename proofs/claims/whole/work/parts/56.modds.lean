section MODDS
variable {w : WD} {d : Nat} {n : NM}
theorem vlb_upd {b : Int} {f g : Int → Int} {p : Nat} : ∀ N : Nat, p < N → (∀ i : Int, i ≠ (p : Int) → g i = f i) → vlb b g N = vlb b f N + (g (p : Int) - f (p : Int)) * pwi b p
  | 0, h, _ => by omega
  | N + 1, h, he => by
    show vlb b g N + g (N : Int) * pwi b N = vlb b f N + f (N : Int) * pwi b N + (g (p : Int) - f (p : Int)) * pwi b p
    by_cases c : p = N
    · subst c
      rw [vlb_congr p (fun i i0 i1 => he i (by omega))]
      grind
    · have ih := vlb_upd (b := b) N (by omega) he
      rw [ih, he N (by omega)]
      omega
theorem both_step {V c Bi Bj V0 p Fj o f q r b : Int} (h1 : V + c * (Bi * Bj) = V0 + p * (Bi * Fj)) (h2 : (o + p * f) + c = b * q + r) : (V + (r - o) * (Bi * Bj)) + q * ((Bi * Bj) * b) = V0 + p * (Bi * (Fj + f * Bj)) := by grind
theorem m_bothI {G : GM} {F : Int} {n0 : NM} {Q : Option AV → Hp → Prop} {i : Nat} (hi : i < 100) (hP : Dig b6 (n0 158) 100) (hF : Dig b6 (n0 159) 100) (eF : vlb b6 (n0 159) 10 = F) (K : ∀ n3 : NM, Fr1 160 n3 n0 → Dig b6 (n3 160) 200 → (∀ p : Int, (i : Int) + 11 ≤ p → p < 200 → n3 160 p = 0) → vlb b6 (n3 160) (i + 1 + 10) = vlb b6 (n0 158) (i + 1) * F → Rn w mX12_multiplyBoth d G Q 24 [(0, vr 145), (1, vi ((i : Int) + 1))] [] (B0, n3)) : ∀ (m j : Nat) (n : NM) (c : Int), j + m = 10 → Fr1 160 n n0 → Dig b6 (n 160) 200 → (∀ p : Int, (i : Int) + 10 ≤ p → p < 200 → n 160 p = 0) → 0 ≤ c → c < 1000000 → vlb b6 (n 160) (i + 10) + c * (pwi b6 i * pwi b6 j) = vlb b6 (n0 158) i * F + n0 158 (i : Int) * (pwi b6 i * vlb b6 (n0 159) j) → Rn w mX12_multiplyBoth d G Q 35 [(0, vr 145), (1, vi (i : Int)), (2, vl c), (4, vi (j : Int))] [] (B0, n)
  | 0, j, n, c, hj, f, hD, hz, c0, c1, hv => by
    have ej : j = 10 := by omega
    subst ej
    have z0 := hz ((i : Int) + 10) (by omega) (by omega)
    refine gX12_multiplyBoth_35 ⟨fun _ => ?_, fun z => absurd z (by decide)⟩
    rw [z0, Int.zero_add]
    refine ⟨⟨by omega, by omega⟩, by omega, by omega, ⟨by omega, by omega⟩, by omega, by omega, ⟨by omega, by omega⟩, K _ (fun t ht => (upn_ne ht).trans (f t ht)) (fun p p0 p1 => ?_) (fun p p0 p1 => ?_) ?_⟩
    · by_cases y : p = (i : Int) + 10
      · rw [y, upn_self]
        exact ⟨c0, c1⟩
      · rw [upn_i y]
        exact hD p p0 p1
    · rw [upn_i (by omega)]
      exact hz p (by omega) p1
    · rw [show i + 1 + 10 = (i + 10) + 1 by omega, vlb_put (f := n 160) (r := c) (fun p p0 p1 => upn_i (by omega)) (by rw [show ((i + 10 : Nat) : Int) = (i : Int) + 10 by omega, upn_self]), pwi_add, hv, eF]
      show _ = (vlb b6 (n0 158) i + n0 158 (i : Int) * pwi b6 i) * F
      grind
  | m + 1, j, n, c, hj, f, hD, hz, c0, c1, hv => by
    have e158 := f 158 (by decide)
    have e159 := f 159 (by decide)
    have dp : 0 ≤ n0 158 (i : Int) ∧ n0 158 (i : Int) < 1000000 := hP i (by omega) (by omega)
    have df : 0 ≤ n0 159 (j : Int) ∧ n0 159 (j : Int) < 1000000 := hF j (by omega) (by omega)
    have dm : 0 ≤ n 160 ((i : Int) + (j : Int)) ∧ n 160 ((i : Int) + (j : Int)) < 1000000 := hD _ (by omega) (by omega)
    have pf := mulb (A := 999999) (B := 999999) dp.1 (by omega) df.1 (by omega)
    refine gX12_multiplyBoth_35 ⟨fun z => absurd z (by omega), fun _ => ?_⟩
    rw [e158, e159]
    have r0 := Int.emod_nonneg (n 160 ((i : Int) + (j : Int)) + n0 158 (i : Int) * n0 159 (j : Int) + c) (show (1000000 : Int) ≠ 0 by decide)
    have r1 := Int.emod_lt_of_pos (n 160 ((i : Int) + (j : Int)) + n0 158 (i : Int) * n0 159 (j : Int) + c) (show (0 : Int) < 1000000 by decide)
    refine ⟨⟨by omega, by omega⟩, by omega, by omega, by omega, by omega, by omega, by omega, ⟨by omega, by omega⟩, ⟨by omega, by omega⟩, ⟨by omega, by omega⟩, ⟨by omega, by omega⟩, by omega, by omega, by omega, by omega, ⟨by omega, by omega⟩, ?_⟩
    refine m_bothI hi hP hF eF K m (j + 1) _ _ (by omega) (fun t ht => (upn_ne ht).trans (f t ht)) (fun p p0 p1 => ?_) (fun p p0 p1 => ?_) (by omega) (by omega) ?_
    · by_cases y : p = (i : Int) + (j : Int)
      · rw [y, upn_self]
        exact ⟨r0, r1⟩
      · rw [upn_i y]
        exact hD p p0 p1
    · rw [upn_i (by omega)]
      exact hz p p0 p1
    · rw [vlb_upd (p := i + j) (f := n 160) (i + 10) (by omega) (fun p hp => upn_i (by omega)), show ((i + j : Nat) : Int) = (i : Int) + (j : Int) by omega, upn_self, pwi_add, show pwi b6 i * pwi b6 (j + 1) = (pwi b6 i * pwi b6 j) * b6 from (Int.mul_assoc _ _ _).symm]
      refine both_step hv ?_
      exact divmod
theorem m_bothL {G : GM} {P F : Int} {n0 : NM} {Q : Option AV → Hp → Prop} (hP : Dig b6 (n0 158) 100) (hF : Dig b6 (n0 159) 100) (eF : vlb b6 (n0 159) 10 = F) (eP : vlb b6 (n0 158) 100 = P) (K : ∀ n3 : NM, Fr1 160 n3 n0 → Dig b6 (n3 160) 200 → vlb b6 (n3 160) 110 = P * F → Rn w mX12_multiplyBoth d G Q 119 [(0, vr 145), (1, vi 0)] [] (B0, n3)) : ∀ (m i : Nat) (n : NM), i + m = 100 → Fr1 160 n n0 → Dig b6 (n 160) 200 → (∀ p : Int, (i : Int) + 10 ≤ p → p < 200 → n 160 p = 0) → vlb b6 (n 160) (i + 10) = vlb b6 (n0 158) i * F → Rn w mX12_multiplyBoth d G Q 24 [(0, vr 145), (1, vi (i : Int))] [] (B0, n)
  | 0, i, n, hi, f, hD, hz, hv => by
    have ei : i = 100 := by omega
    subst ei
    rw [eP] at hv
    exact gX12_multiplyBoth_24 ⟨fun _ => K n f hD hv, fun z => absurd z (by omega)⟩
  | m + 1, i, n, hi, f, hD, hz, hv => by
    refine gX12_multiplyBoth_24 ⟨fun z => absurd z (by omega), fun _ => m_bothI (n0 := n0) (by omega) hP hF eF (fun n3 f3 d3 z3 v3 => ?_) 10 0 n 0 rfl f hD hz (Int.le_refl _) (by decide) ?_⟩
    · exact m_bothL hP hF eF eP K m (i + 1) n3 (by omega) f3 d3 (fun p p0 p1 => z3 p (by omega) p1) v3
    · rw [hv]
      show _ + 0 * _ = _ + _ * (_ * 0)
      rw [Int.zero_mul, Int.mul_zero, Int.mul_zero]
theorem m_both {P F : Int} (hP : NatM n 158 P) (hF : NatM n 159 F) (h10 : F < pwi b6 10) (hPF : F * P < pwi b6 100) : Ev w d 0 0 mX12_multiplyBoth [vr 145] (B0, n) (fun r h' => ∃ n1 : NM, r = none ∧ h' = (B0, n1) ∧ NatM n1 158 (F * P) ∧ ∀ q : Nat, q ≠ 158 → q ≠ 160 → n1 q = n q) := by
  have s10 := vlb_small (b := b6) (f := n 159) (k := 10) (by decide) 90 hF.1 (by
    show vlb b6 (n 159) 100 < _
    rw [hF.2]
    exact h10)
  have eF : vlb b6 (n 159) 10 = F := by
    rw [← hF.2]
    exact s10.1.symm
  have zl : ∀ (G : GM) (K : Rn w mX12_multiplyBoth d G (fun r h' => ∃ n1 : NM, r = none ∧ h' = (B0, n1) ∧ NatM n1 158 (F * P) ∧ ∀ q : Nat, q ≠ 158 → q ≠ 160 → n1 q = n q) 24 [(0, vr 145), (1, vi 0)] [] (B0, wrow n 160 0 200 (fun _ => 0))) (m k : Nat), k + m = 200 → Rn w mX12_multiplyBoth d G (fun r h' => ∃ n1 : NM, r = none ∧ h' = (B0, n1) ∧ NatM n1 158 (F * P) ∧ ∀ q : Nat, q ≠ 158 → q ≠ 160 → n1 q = n q) 2 [(0, vr 145), (1, vi (k : Int))] [] (B0, wrow n 160 0 (k : Int) (fun _ => 0)) := by
    intro G K m
    induction m with
    | zero =>
      intro k hk
      have ek : k = 200 := by omega
      subst ek
      exact gX12_multiplyBoth_2 ⟨fun _ => K, fun z => absurd z (by omega)⟩
    | succ m ih =>
      intro k hk
      have nxt := ih (k + 1) (by omega)
      refine gX12_multiplyBoth_2 ⟨fun z => absurd z (by omega), fun _ => ⟨by omega, by omega, ⟨by omega, by omega⟩, ?_⟩⟩
      rw [wrow_more (by omega) (by omega) rfl]
      exact nxt
  have cl : ∀ (G : GM) (n3 : NM) (f3 : Fr1 160 n3 n) (hD : Dig b6 (n3 160) 200) (hv : vlb b6 (n3 160) 110 = P * F) (m k : Nat), k + m = 100 → Rn w mX12_multiplyBoth d G (fun r h' => ∃ n1 : NM, r = none ∧ h' = (B0, n1) ∧ NatM n1 158 (F * P) ∧ ∀ q : Nat, q ≠ 158 → q ≠ 160 → n1 q = n q) 119 [(0, vr 145), (1, vi (k : Int))] [] (B0, wrow n3 158 0 (k : Int) (n3 160)) := by
    intro G n3 f3 hD hv m
    induction m with
    | zero =>
      intro k hk
      have ek : k = 100 := by omega
      subst ek
      have e : ∀ i : Int, 0 ≤ i → i < 100 → wrow n3 158 0 ((100 : Nat) : Int) (n3 160) 158 i = n3 160 i := fun i i0 i1 => by
        rw [wrow_in i0 (by omega), show i - 0 = i by omega]
      refine gX12_multiplyBoth_119 ⟨fun _ => ⟨_, rfl, rfl, ⟨fun i i0 i1 => ?_, ?_⟩, fun q q1 q2 => (wrow_ne q1).trans (f3 q q2)⟩, fun z => absurd z (by omega)⟩
      · rw [e i i0 (by omega)]
        exact hD i i0 (by omega)
      · rw [vlb_congr 100 (fun i i0 i1 => e i i0 (by omega))]
        have sm := vlb_small (b := b6) (f := n3 160) (k := 100) (by decide) 10 (hD.le (by decide)) (by
          show vlb b6 (n3 160) 110 < _
          rw [hv, Int.mul_comm]
          exact hPF)
        rw [← sm.1, show 100 + 10 = 110 from rfl, hv, Int.mul_comm]
    | succ m ih =>
      intro k hk
      have nxt := ih (k + 1) (by omega)
      refine gX12_multiplyBoth_119 ⟨fun z => absurd z (by omega), fun _ => ⟨by omega, by omega, by omega, by omega, ⟨by omega, by omega⟩, ?_⟩⟩
      rw [wrow_a (show (160 : Nat) ≠ 158 by decide), wrow_more (by omega) (by omega) rfl]
      exact nxt
  refine EV.ofP (by decide +kernel) (Nat.le_of_ble_eq_true rfl) rfl (fun _ G => gX12_multiplyBoth_0 ?_)
  have f0 : Fr1 160 (wrow n 160 0 200 (fun _ => 0)) n := fun t ht => wrow_ne ht
  have q := zl G (m_bothL (n0 := n) hP.1 hF.1 eF hP.2 (fun n3 f3 d3 v3 => by
    have q := cl G n3 f3 d3 v3 100 0 rfl
    rw [show ((0 : Nat) : Int) = 0 from rfl, wrow_0] at q
    exact q) 100 0 _ rfl f0 (fun p p0 p1 => by
      rw [wrow_in p0 (by omega)]
      exact ⟨by decide, by decide⟩) (fun p p0 p1 => wrow_in (by omega) (by omega)) (by
      rw [vlb_tail2 (k := 0) (N := 0 + 10) (by decide) (fun p p0 p1 => wrow_in (by omega) (by omega))]
      show (0 : Int) = 0 * F
      rw [Int.zero_mul])) 200 0 rfl
  rw [show ((0 : Nat) : Int) = 0 from rfl, wrow_0] at q
  exact q
theorem CAP_6 : 1000000 * (6 * CAP) < pwi b6 100 := by decide +kernel
theorem m_findCountL {G : GM} {s wo : Int} {n0 : NM} (hr : RowOk (n0 147)) (hn : NumsOk (n0 147)) (s0 : 0 ≤ s) (s1 : s < n0 147 7) : ∀ (m t : Nat) (n : NM), (t : Int) + m = n0 147 8 → (∀ q : Nat, q < 158 ∨ 160 < q → q ≠ 162 → n q = n0 q) → NatM n 158 (ctV (n0 147) s wo t) → Rn w mX12_findCount (d + 2) G (fun r h' => ∃ n1 : NM, r = none ∧ h' = (B0, n1) ∧ NatM n1 158 (ctV (n0 147) s wo (n0 147 8).toNat) ∧ ∀ q : Nat, q < 158 ∨ 160 < q → q ≠ 162 → n1 q = n0 q) 22 [(0, vr 145), (1, vi s), (2, vi wo), (3, vi (t : Int))] [] (B0, n)
  | 0, t, n, ht, f, hN => by
    have e147 : n 147 = n0 147 := f 147 (by decide) (by decide)
    have et : (n0 147 8).toNat = t := by omega
    rw [et]
    exact gX12_findCount_22 ⟨fun _ => ⟨_, rfl, rfl, hN, f⟩, fun z => absurd z (by rw [e147]; omega)⟩
  | m + 1, t, n, ht, f, hN => by
    have h8 := hn.2.2.2.2.2.2.2.1
    have e147 : n 147 = n0 147 := f 147 (by decide) (by decide)
    have e : ctV (n0 147) s wo (t + 1) = if (t : Int) = wo then ctV (n0 147) s wo t else facV (n0 147) s (t : Int) * ctV (n0 147) s wo t := rfl
    have fl := fac_le hr s0 s1 (t := (t : Int)) (by omega) (by omega)
    have cl := cnt_cap2 hr hn (wo := wo) s0 s1 t (by omega)
    have hb : facV (n0 147) s (t : Int) * ctV (n0 147) s wo t ≤ C42 * ctV (n0 147) s wo t := Int.mul_le_mul_of_nonneg_right fl.2 cl.1
    have hc := CAP_6
    have cp := CAP_pos
    have h10 : C42 < pwi b6 10 := by decide +kernel
    have ff := m_findFactor (w := w) (d := d) (n := n) (s := s) (t := (t : Int)) (by rw [e147]; exact hr) (by rw [e147]; exact hn) s0 (by rw [e147]; exact s1) (by omega) (by rw [e147]; omega)
    rw [e147] at ff
    refine gX12_findCount_22 ⟨fun z => absurd z (by rw [e147]; omega), fun _ => ⟨fun c => ⟨⟨by omega, by omega⟩, ?_⟩, fun c => EV.usP ff (fun n1 z1 => EV.usP (m_both (hN.congr (z1.2 158 (by decide) (by decide))) z1.1 (by omega) (by omega)) (fun n2 z2 => ⟨⟨by omega, by omega⟩, ?_⟩))⟩⟩
    · exact m_findCountL hr hn s0 s1 m (t + 1) n (by omega) f (by rw [e, if_pos c]; exact hN)
    · exact m_findCountL hr hn s0 s1 m (t + 1) n2 (by omega) (fun q q1 q2 => (z2.2 q (by omega) (by omega)).trans ((z1.2 q (by omega) q2).trans (f q q1 q2))) (by rw [e, if_neg c]; exact z2.1)
theorem m_findCount {s wo : Int} {n0 : NM} (hr : RowOk (n0 147)) (hn : NumsOk (n0 147)) (s0 : 0 ≤ s) (s1 : s < n0 147 7) (e147 : n 147 = n0 147) : Ev w (d + 2) 0 0 mX12_findCount [vr 145, vi s, vi wo] (B0, n) (fun r h' => ∃ n1 : NM, r = none ∧ h' = (B0, n1) ∧ NatM n1 158 (ctV (n0 147) s wo (n0 147 8).toNat) ∧ ∀ q : Nat, q < 158 ∨ 160 < q → q ≠ 162 → n1 q = n q) := by
  have h7 := hn.2.2.2.2.2.2.1
  have h8 := hn.2.2.2.2.2.2.2.1
  have q7 := hr.2.2.2.2.2.2.1 s s0 s1
  refine EV.ofP (by decide +kernel) (Nat.le_of_ble_eq_true rfl) rfl (fun _ G => gX12_findCount_0 ?_)
  rw [e147]
  refine ⟨⟨by omega, by omega⟩, ⟨by omega, by omega⟩, by omega, by omega, EV.usP (m_setTo ob_158 (by omega) (by omega)) (fun n1 z => ?_)⟩
  have e1 : n1 147 = n0 147 := (z.2 147 (by decide)).trans e147
  have ml := m_findCountL (w := w) (d := d) (G := G) (wo := wo) (n0 := n1) (by rw [e1]; exact hr) (by rw [e1]; exact hn) s0 (by rw [e1]; exact s1) (n0 147 8).toNat 0 n1 (by rw [e1]; omega) (fun _ _ _ => rfl) (by rw [e1]; exact z.1)
  rw [e1] at ml
  refine Rn.weak (fun v h' t => ?_) ml
  obtain ⟨n2, t1, t2, t3, t4⟩ := t
  exact ⟨n2, t1, t2, t3, fun q q1 q2 => (t4 q q1 q2).trans (z.2 q (by omega))⟩
theorem m_addL {G : GM} {v u s wo st : Int} {n0 : NM} {Q : Option AV → Hp → Prop} (s0 : 0 ≤ st) (s1 : st < 6) (hN : NatM n0 161 v) (hM : NatM n0 158 u) (hv : v + u < pwi b6 100) (K : ∀ n3 : NM, NatM n3 161 (v + u) → Fr1 161 n3 n0 → Rn w mX12_oddsOf d G Q 10 [(0, vr 145), (1, vi s), (2, vi wo), (3, vi (st + 1))] [] (B0, n3)) : ∀ (m k : Nat) (n : NM) (c : Int), k + m = 100 → MidM n0 n 161 k → 0 ≤ c → c ≤ 1 → vlb b6 (n 161) k + c * pwi b6 k = vlb b6 (n0 161) k + vlb b6 (n0 158) k → Rn w mX12_oddsOf d G Q 33 [(0, vr 145), (1, vi s), (2, vi wo), (3, vi st), (4, vl c), (6, vi (k : Int))] [] (B0, n)
  | 0, k, n, c, hk, hM2, c0, c1, hi => by
    have ek : k = 100 := by omega
    rw [ek, hN.2, hM.2] at hi
    have l := vlb_le (b := b6) (by decide) 100 hM2.2.1
    exact gX12_oddsOf_33 ⟨fun _ => ⟨⟨by omega, by omega⟩, K n ⟨hM2.2.1, car_0 l.1 c0 (by have := pwi_pos (b := b6) (by decide) 100; omega) hi hv⟩ hM2.1⟩, fun z => absurd z (by omega)⟩
  | m + 1, k, n, c, hk, hM2, c0, c1, hi => by
    have e158 : n 158 = n0 158 := hM2.1 158 (by decide)
    have dg : 0 ≤ n 161 (k : Int) ∧ n 161 (k : Int) < 1000000 := hM2.2.1 k (by omega) (by omega)
    have dh : 0 ≤ n0 158 (k : Int) ∧ n0 158 (k : Int) < 1000000 := hM.1 k (by omega) (by omega)
    have ex : n 161 (k : Int) = n0 161 (k : Int) := hM2.2.2 k (Int.le_refl _) (by omega)
    refine gX12_oddsOf_33 ⟨fun z => absurd z (by omega), fun _ => ?_⟩
    rw [e158]
    have r0 := Int.emod_nonneg (n 161 (k : Int) + n0 158 (k : Int) + c) (show (1000000 : Int) ≠ 0 by decide)
    have r1 := Int.emod_lt_of_pos (n 161 (k : Int) + n0 158 (k : Int) + c) (show (0 : Int) < 1000000 by decide)
    refine ⟨by omega, by omega, by omega, by omega, ⟨by omega, by omega⟩, ⟨by omega, by omega⟩, by omega, by omega, by omega, by omega, ⟨by omega, by omega⟩, ?_⟩
    refine m_addL s0 s1 hN hM hv K m (k + 1) _ _ (by omega) (hM2.next ⟨r0, r1⟩) (by omega) (by omega) ?_
    rw [MidM.val]
    refine add_step hi ?_
    rw [← ex]
    exact divmod
theorem m_oddsB {G : GM} {T A : Int} {n0 : NM} (hA : 0 ≤ A ∧ A ≤ 1000000 * (6 * CAP)) (T0 : 0 ≤ T) (hT : T ≤ 6 * CAP) : ∀ (m : Nat) (n : NM) (l h : Int), (∀ t : Nat, t ≠ 162 → n t = n0 t) → NatM n 161 T → NatM n 158 A → 0 ≤ l → l ≤ h → h ≤ 1000000 → h - l < pwi 2 m → Rn w mX12_oddsOf (d + 1) G (fun r h' => ∃ (x1 : Int) (n1 : NM), r = some (vi x1) ∧ h' = (B0, n1) ∧ x1 = (if T = 0 then 0 else bsF T A m l h) ∧ ∀ t : Nat, t ≠ 162 → n1 t = n0 t) 116 [(0, vr 145), (3, vi l), (4, vi h)] [] (B0, n) := by
  have fin : ∀ (m : Nat) (n : NM) (l h : Int), (∀ t : Nat, t ≠ 162 → n t = n0 t) → NatM n 161 T → h ≤ l → bsF T A m l h = l → Rn w mX12_oddsOf (d + 1) G (fun r h' => ∃ (x1 : Int) (n1 : NM), r = some (vi x1) ∧ h' = (B0, n1) ∧ x1 = (if T = 0 then 0 else bsF T A m l h) ∧ ∀ t : Nat, t ≠ 162 → n1 t = n0 t) 116 [(0, vr 145), (3, vi l), (4, vi h)] [] (B0, n) := by
    intro m n l h f h161 hl e
    refine gX12_oddsOf_116 ⟨fun _ => EV.usP (m_setTo ob_162 (Int.le_refl _) (by decide)) (fun n1 z => EI.use (m_cmp ob_161 ob_162 (h161.congr (z.2 161 (by decide))) z.1) ⟨fun c => ⟨_, _, rfl, rfl, ?_, fun t ht => (z.2 t ht).trans (f t ht)⟩, fun c => ⟨_, _, rfl, rfl, ?_, fun t ht => (z.2 t ht).trans (f t ht)⟩⟩), fun z => absurd z (by omega)⟩
    · by_cases q : T = 0
      · rw [if_neg (by omega), if_pos q] at c
        exact absurd rfl c
      · rw [if_neg q, e]
    · by_cases q : T = 0
      · rw [if_pos q]
      · rw [if_neg (by omega), if_neg q] at c
        exact absurd c (by decide)
  intro m
  induction m with
  | zero =>
    intro n l h f h161 h158 l0 lh h1 hl
    have : h - l < 1 := hl
    exact fin 0 n l h f h161 (by omega) rfl
  | succ m ih =>
    intro n l h f h161 h158 l0 lh h1 hl
    have e : bsF T A (m + 1) l h = if l < h then (if A < (l + h + 1) / 2 * T then bsF T A m l ((l + h + 1) / 2 - 1) else bsF T A m ((l + h + 1) / 2) h) else l := rfl
    have hl2 : h - l < pwi 2 m * 2 := hl
    have c6 := CAP_6
    by_cases c : l < h
    · have hm := Int.mul_le_mul (show (l + h + 1) / 2 ≤ 1000000 by omega) hT T0 (by decide)
      rw [e, if_pos c]
      refine gX12_oddsOf_116 ⟨fun z => absurd z (by omega), fun _ => ⟨⟨by omega, by omega⟩, ⟨by omega, by omega⟩, by omega, ?_⟩⟩
      have cp : ∀ (j k : Nat), k + j = 100 → Rn w mX12_oddsOf (d + 1) G (fun r h' => ∃ (x1 : Int) (n1 : NM), r = some (vi x1) ∧ h' = (B0, n1) ∧ x1 = (if T = 0 then 0 else if A < (l + h + 1) / 2 * T then bsF T A m l ((l + h + 1) / 2 - 1) else bsF T A m ((l + h + 1) / 2) h) ∧ ∀ t : Nat, t ≠ 162 → n1 t = n0 t) 135 [(0, vr 145), (3, vi l), (4, vi h), (5, vi ((l + h + 1) / 2)), (6, vi (k : Int))] [] (B0, wrow n 162 0 (k : Int) (n 161)) := by
        intro j
        induction j with
        | zero =>
          intro k hk
          have ek : k = 100 := by omega
          subst ek
          have ew : ∀ i : Int, 0 ≤ i → i < 100 → wrow n 162 0 ((100 : Nat) : Int) (n 161) 162 i = n 161 i := fun i i0 i1 => by
            rw [wrow_in i0 (by omega), show i - 0 = i by omega]
          have h162 : NatM (wrow n 162 0 ((100 : Nat) : Int) (n 161)) 162 T := ⟨fun i i0 i1 => by rw [ew i i0 (by omega)]; exact h161.1 i i0 i1, by rw [vlb_congr 100 (fun i i0 i1 => ew i i0 (by omega))]; exact h161.2⟩
          refine gX12_oddsOf_135 ⟨fun _ => EV.usP (m_mul ob_162 h162 (show 0 ≤ (l + h + 1) / 2 by omega) (by omega) (by omega)) (fun n1 z => ?_), fun z => absurd z (by omega)⟩
          have e161 : n1 161 = n 161 := (z.2 161 (by decide)).trans (wrow_ne (by decide))
          have e158 : n1 158 = n 158 := (z.2 158 (by decide)).trans (wrow_ne (by decide))
          refine EI.use (m_cmp ob_162 ob_158 z.1 (h158.congr e158)) ⟨fun _ => ⟨by omega, by omega⟩, fun a b ea eb => ?_⟩
          have fr : ∀ t : Nat, t ≠ 162 → n1 t = n0 t := fun t ht => (z.2 t ht).trans ((wrow_ne ht).trans (f t ht))
          by_cases k : A < (l + h + 1) / 2 * T
          · rw [if_neg (show ¬ (l + h + 1) / 2 * T < A by omega), if_neg (show ¬ (l + h + 1) / 2 * T = A by omega), if_pos (by decide)] at ea eb
            rw [if_pos k, ea, eb]
            exact ih n1 l _ fr (h161.congr e161) (h158.congr e158) l0 (by omega) (by omega) (by omega)
          · have hx : ¬ (0 : Int) < (if (l + h + 1) / 2 * T < A then -1 else if (l + h + 1) / 2 * T = A then 0 else 1) := by
              by_cases k2 : (l + h + 1) / 2 * T < A
              · rw [if_pos k2]
                decide
              · rw [if_neg k2, if_pos (by omega)]
                decide
            rw [if_neg hx] at ea eb
            rw [if_neg k, ea, eb]
            exact ih n1 _ h fr (h161.congr e161) (h158.congr e158) (by omega) (by omega) (by omega) (by omega)
        | succ j ihj =>
          intro k hk
          have nxt := ihj (k + 1) (by omega)
          refine gX12_oddsOf_135 ⟨fun z => absurd z (by omega), fun _ => ⟨by omega, by omega, by omega, by omega, ⟨by omega, by omega⟩, ?_⟩⟩
          rw [wrow_a (show (161 : Nat) ≠ 162 by decide), wrow_more (by omega) (by omega) rfl]
          exact nxt
      have q := cp 100 0 rfl
      rw [show ((0 : Nat) : Int) = 0 from rfl, wrow_0] at q
      exact q
    · exact fin (m + 1) n l h f h161 (by omega) (by rw [e, if_neg c])
theorem m_oddsL {G : GM} {st wo : Int} {n0 : NM} (hr : RowOk (n0 147)) (hn : NumsOk (n0 147)) (s0 : 0 ≤ st) (s1 : st < n0 147 7) : ∀ (m s : Nat) (n : NM), (s : Int) + m = n0 147 7 → FrT n n0 → NatM n 161 (totV (n0 147) wo s) → Rn w mX12_oddsOf (d + 3) G (fun r h' => ∃ (x1 : Int) (n1 : NM), r = some (vi x1) ∧ h' = (B0, n1) ∧ x1 = oddV (n0 147) st wo ∧ FrT n1 n0) 10 [(0, vr 145), (1, vi st), (2, vi wo), (3, vi (s : Int))] [] (B0, n)
  | 0, s, n, hs, f, hN => by
    have h7 := hn.2.2.2.2.2.2.1
    have h8 := hn.2.2.2.2.2.2.2.1
    have e147 : n 147 = n0 147 := f 147 (by decide)
    have es : (n0 147 7).toNat = s := by omega
    have c := cnt_cap hr hn (wo := wo) s0 s1 (n0 147 8).toNat (by omega)
    have tc := tot_cap6 hr hn (wo := wo) (n0 147 7).toNat (by omega)
    have c6 := CAP_6
    have cp := CAP_pos
    refine gX12_oddsOf_10 ⟨fun _ => EV.usP (m_findCount (d := d) (n0 := n0) hr hn s0 s1 e147) (fun n1 z1 => EV.usP (m_mul (x := 1000000) ob_158 z1.1 (by decide) (by decide) (by omega)) (fun n2 z2 => ?_)), fun z => absurd z (by rw [e147]; omega)⟩
    have h161 : NatM n2 161 (totV (n0 147) wo (n0 147 7).toNat) := by
      rw [es]
      exact hN.congr ((z2.2 161 (by decide)).trans (z1.2 161 (by decide) (by decide)))
    refine Rn.weak (fun v h' t => ?_) (m_oddsB (w := w) (d := d + 2) (G := G) (n0 := n2) (by omega) tc.1 tc.2 20 n2 0 1000000 (fun _ _ => rfl) h161 z2.1 (by decide) (by decide) (by decide) (by decide))
    obtain ⟨x1, n3, t1, t2, t3, t4⟩ := t
    exact ⟨x1, n3, t1, t2, t3, fun q hq => (t4 q (by omega)).trans ((z2.2 q (by omega)).trans ((z1.2 q (by omega) (by omega)).trans (f q hq)))⟩
  | m + 1, s, n, hs, f, hN => by
    have h7 := hn.2.2.2.2.2.2.1
    have h8 := hn.2.2.2.2.2.2.2.1
    have e147 : n 147 = n0 147 := f 147 (by decide)
    have c := cnt_cap hr hn (wo := wo) (s := (s : Int)) (by omega) (by omega) (n0 147 8).toNat (by omega)
    have tc := tot_cap6 hr hn (wo := wo) s (by omega)
    have c6 := CAP_6
    have cp := CAP_pos
    refine gX12_oddsOf_10 ⟨fun z => absurd z (by rw [e147]; omega), fun _ => EV.usP (m_findCount (d := d) (n0 := n0) (s := (s : Int)) hr hn (by omega) (by omega) e147) (fun n1 z1 => ?_)⟩
    have h161 : NatM n1 161 (totV (n0 147) wo s) := hN.congr (z1.2 161 (by decide) (by decide))
    refine m_addL (n0 := n1) (by omega) (by omega) h161 z1.1 (by omega) (fun n3 h3 f3 => ?_) 100 0 n1 0 rfl ⟨Fr1.rf, h161.1, fun _ _ _ => rfl⟩ (Int.le_refl _) (by decide) (by
      show (0 : Int) + 0 * pwi b6 0 = 0 + 0
      omega)
    exact m_oddsL hr hn s0 s1 m (s + 1) n3 (by omega) (fun q hq => (f3 q (by omega)).trans ((z1.2 q (by omega) (by omega)).trans (f q hq))) h3
theorem m_oddsOf {st wo : Int} {n0 : NM} (hr : RowOk (n0 147)) (hn : NumsOk (n0 147)) (s0 : 0 ≤ st) (s1 : st < n0 147 7) (e147 : n 147 = n0 147) : Ev w (d + 3) 0 0 mX12_oddsOf [vr 145, vi st, vi wo] (B0, n) (fun r h' => ∃ (x1 : Int) (n1 : NM), r = some (vi x1) ∧ h' = (B0, n1) ∧ x1 = oddV (n0 147) st wo ∧ FrT n1 n) := by
  have h7 := hn.2.2.2.2.2.2.1
  refine EI.ofP (by decide +kernel) (Nat.le_of_ble_eq_true rfl) rfl (fun _ G => gX12_oddsOf_0 (EV.usP (m_setTo ob_161 (Int.le_refl _) (by decide)) (fun n1 z => ?_)))
  have e1 : n1 147 = n0 147 := (z.2 147 (by decide)).trans e147
  have ml := m_oddsL (w := w) (d := d) (G := G) (wo := wo) (st := st) (n0 := n1) (by rw [e1]; exact hr) (by rw [e1]; exact hn) s0 (by rw [e1]; exact s1) (n0 147 7).toNat 0 n1 (by rw [e1]; omega) FrT.rf z.1
  rw [e1] at ml
  refine Rn.weak (fun v h' t => ?_) ml
  obtain ⟨x1, n3, t1, t2, t3, t4⟩ := t
  exact ⟨x1, n3, t1, t2, t3, fun q hq => (t4 q hq).trans (z.2 q (by omega))⟩
theorem FrT.z {n2 : NM} (f : FrT n2 n) : FrZ n2 n := ⟨fun t a => f t (by omega), fun j _ => by rw [f 145 (by decide)]⟩
theorem st_likely {k : Int} (h : Rel k n) (x1 : Int) : LS2 w (d + 9) k n mX11_likely [vi x1] mX12_likely [vi x1] := by
  have hn := h.numsOk
  have h7 := hn.2.2.2.2.2.2.1
  have e21 : n 21 3 = n 147 7 := h.1.2.2.2.2.2.2.2.2.1.2.1
  refine ⟨if 0 ≤ x1 ∧ x1 < n 147 7 then oddV (n 147) x1 (-1) else -1, fun n1 => FrS n1 n, ?_, ?_⟩
  · refine EI.ofP (by decide +kernel) (Nat.le_of_ble_eq_true rfl) rfl (fun _ G => gX11_likely_0 (EI.use (s_holds ob_21 (c := 22) rfl ob_22 _) (ite10 (fun c => EV.usP (s_weigh (d := d + 4) (wo := -1) h.1 h.2.1 hn FrS.rf) (fun n1 z => EI.usP (s_oddsOf (d := d + 6) h.2.1 hn z c.1 (by omega)) (fun y n2 u => ⟨_, _, rfl, rfl, ?_, u.2.1⟩))) (fun c => ⟨_, _, rfl, rfl, ?_, FrS.rf⟩))))
    · rw [if_pos (by omega)]
      exact u.1
    · rw [if_neg (by omega)]
  · intro n1 f
    have e1 : n1 147 = n 147 := f 147 (by decide)
    have e147 : (upn n1 145 0 0) 147 = n 147 := (upn_ne (by decide)).trans e1
    have hz : FrZ (upn n1 145 0 0) n := f.z.tr FrZ.z
    have fin : ∀ n2, FrZ n2 n → Rel (k + 1) n2 := fun n2 g => (h.scr g).le (by omega)
    refine EI.ofP (by decide +kernel) (Nat.le_of_ble_eq_true rfl) rfl (fun _ G => gX12_likely_0 (EI.use (m_is (by decide) (by decide) (by rw [e147]; omega)) ?_))
    rw [e147]
    refine ite01 (fun c => ⟨_, _, rfl, rfl, ?_, fin _ hz⟩) (fun c => EI.usP (m_oddsOf (d := d + 5) (n0 := n) h.2.1 hn c.1 (by omega) e147) (fun y n2 u => ⟨_, _, rfl, rfl, ?_, fin _ (hz.tr u.2.z)⟩))
    · rw [if_neg (by omega)]
    · rw [if_pos (by omega)]
      exact u.1
theorem st_moved {k : Int} (h : Rel k n) (x1 x2 : Int) : LS2 w (d + 9) k n mX11_moved [vi x1, vi x2] mX12_moved [vi x1, vi x2] := by
  have hn := h.numsOk
  have h7 := hn.2.2.2.2.2.2.1
  have h8 := hn.2.2.2.2.2.2.2.1
  have e21 : n 21 3 = n 147 7 := h.1.2.2.2.2.2.2.2.2.1.2.1
  have e23 : n 23 3 = n 147 8 := h.1.2.2.2.2.2.2.2.2.2.1.2.1
  have o1 := oddV_le (r := n 147) (s := x1) (wo := -1)
  have o2 := oddV_le (r := n 147) (s := x1) (wo := x2)
  refine ⟨if 0 ≤ x1 ∧ x1 < n 147 7 then (if 0 ≤ x2 ∧ x2 < n 147 8 then oddV (n 147) x1 (-1) - oddV (n 147) x1 x2 else -10000000) else -10000000, fun n1 => FrS n1 n, ?_, ?_⟩
  · refine EI.ofP (by decide +kernel) (Nat.le_of_ble_eq_true rfl) rfl (fun _ G => gX11_moved_0 (EI.use (s_holds ob_21 (c := 22) rfl ob_22 _) (ite01 (fun c => ⟨_, _, rfl, rfl, ?_, FrS.rf⟩) (fun c => EI.use (s_holds ob_23 (c := 24) rfl ob_24 _) (ite10 (fun c2 => EV.usP (s_weigh (d := d + 4) (wo := -1) h.1 h.2.1 hn FrS.rf) (fun n1 z => EI.usP (s_oddsOf (d := d + 6) h.2.1 hn z c.1 (by omega)) (fun y n2 u => EV.usP (s_weigh (d := d + 4) (wo := x2) h.1 h.2.1 hn u.2.1) (fun n3 z3 => EI.usP (s_oddsOf (d := d + 6) h.2.1 hn z3 c.1 (by omega)) (fun y2 n4 u2 => ⟨⟨by omega, by omega⟩, _, _, rfl, rfl, ?_, u2.2.1⟩))))) (fun c2 => ⟨_, _, rfl, rfl, ?_, FrS.rf⟩))))))
    · rw [if_neg (by omega)]
    · rw [if_pos (by omega), if_pos (by omega), u.1, u2.1]
    · rw [if_pos (by omega), if_neg (by omega)]
  · intro n1 f
    have e1 : n1 147 = n 147 := f 147 (by decide)
    have e147 : (upn n1 145 0 0) 147 = n 147 := (upn_ne (by decide)).trans e1
    have hz : FrZ (upn n1 145 0 0) n := f.z.tr FrZ.z
    have fin : ∀ n2, FrZ n2 n → Rel (k + 1) n2 := fun n2 g => (h.scr g).le (by omega)
    refine EI.ofP (by decide +kernel) (Nat.le_of_ble_eq_true rfl) rfl (fun _ G => gX12_moved_0 (EI.use (m_is (by decide) (by decide) (by rw [e147]; omega)) ?_))
    rw [e147]
    refine ite01 (fun c => ⟨_, _, rfl, rfl, ?_, fin _ hz⟩) (fun c => EI.use (m_is (by decide) (by decide) (by rw [e147]; omega)) ?_)
    · rw [if_neg (by omega)]
    · rw [e147]
      refine ite10 (fun c2 => EI.usP (m_oddsOf (d := d + 5) (n0 := n) h.2.1 hn c.1 (by omega) e147) (fun y n2 u => EI.usP (m_oddsOf (d := d + 5) (n0 := n) h.2.1 hn c.1 (by omega) ((u.2 147 (by decide)).trans e147)) (fun y2 n3 u2 => ⟨⟨by omega, by omega⟩, _, _, rfl, rfl, ?_, fin _ (hz.tr (u.2.z.tr u2.2.z))⟩))) (fun c2 => ⟨_, _, rfl, rfl, ?_, fin _ hz⟩)
      · rw [if_pos (by omega), if_pos (by omega), u.1, u2.1]
      · rw [if_pos (by omega), if_neg (by omega)]
end MODDS
