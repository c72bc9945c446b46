section NAT2
variable {w : WD} {d : Nat} {n : NM}
/-- there is a natural at a -/
def ONat (a : Nat) : Prop := Obj B0 a 4 2 ∧ rf B0 a 0 = some (a + 1) ∧ Obj B0 (a + 1) 101 64
theorem s_fillJ {B : HB} {G : GM} {a L : Nat} {x : Int} (oa : Obj B a 101 L) (hL : (L : Int) ≤ 100000) : ∀ (m j : Nat), j + m = L → Rn w mJ7_fill_d0a16 d G (fun r h' => r = none ∧ h' = (B, wrow n a 0 (L : Int) (fun _ => x))) 6 [(0, vr a), (1, vl x), (3, vi (j : Int)), (4, vi (L : Int))] [] (B, wrow n a 0 (j : Int) (fun _ => x))
  | 0, j, hj => by
    have ej : j = L := by omega
    subst ej
    exact gJ7_fill_d0a16_6 oa ⟨fun _ => ⟨rfl, rfl⟩, fun c => absurd c (by omega)⟩
  | m + 1, j, hj => by
    have nxt := s_fillJ (G := G) (x := x) oa hL m (j + 1) (by omega)
    refine gJ7_fill_d0a16_6 oa ⟨fun c => absurd c (by omega), fun _ => ⟨by omega, by omega, ⟨by omega, by omega⟩, ?_⟩⟩
    rw [wrow_more (by omega) (by omega) rfl]
    exact nxt
theorem s_become {a : Nat} {x : Int} (o : ONat a) (x0 : 0 ≤ x) (x1 : x < 1000000000) : Ev w (d + 1) 0 0 mX4_become [vr a, vi x] (B0, n) (fun r h' => ∃ n1 : NM, r = none ∧ h' = (B0, n1) ∧ NatC n1 a x ∧ Fr2 a n1 n) := by
  have fa : EV w d mJ7_fill_d0a16 [vr (a + 1), vl 0] B0 n (wrow n (a + 1) 0 64 (fun _ => 0)) := by
    refine EV.of (by decide +kernel) (Nat.le_of_ble_eq_true rfl) rfl (fun _ G => gJ7_fill_d0a16_0 o.2.2 ⟨⟨by decide, by decide⟩, ?_⟩)
    have := s_fillJ (w := w) (d := d) (G := G) (n := n) (x := 0) o.2.2 (by decide) 64 0 rfl
    rw [show wrow n (a + 1) 0 ((0 : Nat) : Int) (fun _ => 0) = n from wrow_0] at this
    exact this
  have e : ∀ i : Int, 0 ≤ i → i < 64 → upn (upn (wrow n (a + 1) 0 64 (fun _ => 0)) (a + 1) 0 x) a 1 1 (a + 1) i = if i = 0 then x else 0 := fun i i0 i1 => by
    rw [upn_a (by omega)]
    by_cases c : i = 0
    · rw [if_pos c, c, upn_self]
    · rw [if_neg c, upn_i c, wrow_in i0 (by omega)]
  refine EV.ofP (by decide +kernel) (Nat.le_of_ble_eq_true rfl) rfl (fun _ G => gX4_become_0 o.1 o.2.1 o.2.2 (EV.use fa ⟨_, rfl, rfl, ⟨?_, fun i i0 i1 => ?_, fun i i0 i1 => ?_, ?_⟩, fun t t0 t1 => ?_⟩))
  · rw [upn_self]
    exact ⟨by decide, by decide⟩
  · rw [e i i0 (by omega)]
    split
    · exact ⟨x0, x1⟩
    · exact ⟨by decide, by decide⟩
  · rw [upn_self] at i0
    rw [e i (by omega) i1, if_neg (by omega)]
  · rw [vlb_tail2 (k := 1) (N := 64) (by decide) (fun i i0 i1 => by rw [e i (by omega) (by omega), if_neg (by omega)])]
    show 0 + _ * 1 = x
    rw [e _ (by decide) (by decide), if_pos (show ((0 : Nat) : Int) = 0 from rfl)]
    omega
  · rw [upn_ne t0, upn_ne t1, wrow_ne t1]
theorem s_becomeN {a b : Nat} {v : Int} (o : ONat a) (ob : ONat b) (hN : NatC n b v) (h1 : a ≠ b) (h2 : a ≠ b + 1) (h3 : a + 1 ≠ b) : Ev w (d + 1) 0 0 mX4_become_ [vr a, vr b] (B0, n) (fun r h' => ∃ n1 : NM, r = none ∧ h' = (B0, n1) ∧ NatC n1 a v ∧ Fr2 a n1 n) := by
  have e : ∀ i : Int, 0 ≤ i → i < 64 → upn (cpn n (b + 1) (a + 1) 64) a 1 ((cpn n (b + 1) (a + 1) 64) b 1) (a + 1) i = n (b + 1) i := fun i i0 i1 => by
    rw [upn_a (by omega)]
    exact if_pos ⟨rfl, i0, i1⟩
  have e2 : (cpn n (b + 1) (a + 1) 64) b 1 = n b 1 := by rw [cpn_ne (by omega)]
  refine EV.ofP (by decide +kernel) (Nat.le_of_ble_eq_true rfl) rfl (fun _ G => gX4_become__0 o.1 o.2.1 o.2.2 ob.1 ob.2.1 ob.2.2 ⟨_, rfl, rfl, ⟨?_, fun i i0 i1 => ?_, fun i i0 i1 => ?_, ?_⟩, fun t t0 t1 => ?_⟩)
  · rw [upn_self, e2]
    exact hN.1
  · rw [e i i0 (by omega)]
    exact hN.2.1 i i0 i1
  · rw [upn_self, e2] at i0
    rw [e i (by have := hN.1.1; omega) i1]
    exact hN.2.2.1 i i0 i1
  · rw [vlb_congr 64 (fun i i0 i1 => e i i0 (by omega))]
    exact hN.2.2.2
  · rw [upn_ne t0, cpn_ne t1]
theorem s_isZeroL {G : GM} {a : Nat} {v : Int} (o : ONat a) (hN : NatC n a v) : ∀ (m k : Nat), k + m = 64 → (∀ i : Int, 0 ≤ i → i < (k : Int) → n (a + 1) i = 0) → Rn w mX4_isZero d G (fun r h' => r = some (vi (if v = 0 then 1 else 0)) ∧ h' = (B0, n)) 2 [(0, vr a), (1, vi (k : Int))] [] (B0, n)
  | m, k, hk, h0 => by
    have zero : (∀ i : Int, 0 ≤ i → i < 64 → n (a + 1) i = 0) → v = 0 := fun q => by
      rw [← hN.2.2.2, vlb_tail2 (k := 0) (N := 64) (by decide) (fun i i0 i1 => q i i0 (by omega))]
      rfl
    refine gX4_isZero_2 o.1 o.2.1 o.2.2 ⟨fun c => ⟨?_, rfl⟩, fun c => ⟨fun c2 => ⟨?_, rfl⟩, fun c2 => ⟨by omega, by omega, fun c3 => ⟨⟨by omega, by omega⟩, ?_⟩, fun c3 => ⟨?_, rfl⟩⟩⟩⟩
    · rw [if_pos (zero (fun i i0 i1 => by
        by_cases q : i < (k : Int)
        · exact h0 i i0 q
        · exact hN.2.2.1 i (by omega) i1))]
    · rw [if_pos (zero (fun i i0 i1 => h0 i i0 (by omega)))]
    · match m, hk with
      | 0, hk => omega
      | m + 1, hk =>
        refine s_isZeroL o hN m (k + 1) (by omega) (fun i i0 i1 => ?_)
        by_cases q : i < (k : Int)
        · exact h0 i i0 q
        · rw [show i = (k : Int) by omega]
          exact c3
    · rw [if_neg (fun q => ?_)]
      have sm := vlb_small (b := b9) (f := n (a + 1)) (k := 0) (by decide) 64 (by rw [Nat.zero_add]; exact hN.2.1) (by
        show vlb b9 (n (a + 1)) 64 < 1
        rw [hN.2.2.2, q]
        decide)
      exact c3 (sm.2 k (by omega) (by omega))
theorem s_isZero {a : Nat} {v : Int} (o : ONat a) (hN : NatC n a v) : EI w d mX4_isZero [vr a] B0 n (if v = 0 then 1 else 0) n :=
  EI.of (by decide +kernel) (Nat.le_of_ble_eq_true rfl) rfl (fun _ G => gX4_isZero_0 o.1 o.2.1 o.2.2 (s_isZeroL o hN 64 0 rfl (fun i i0 i1 => by omega)))
theorem s_aboveL {G : GM} {a b : Nat} {v u : Int} (o : ONat a) (ob : ONat b) (hN : NatC n a v) (hM : NatC n b u) : ∀ (k : Nat), k ≤ 64 → Rn w mX4_isAbove d G (fun r h' => r = some (vi (if vlb b9 (n (b + 1)) k < vlb b9 (n (a + 1)) k then 1 else 0)) ∧ h' = (B0, n)) 19 [(0, vr a), (1, vr b), (2, vi ((k : Int) - 1))] [] (B0, n)
  | 0, _ => gX4_isAbove_19 o.1 o.2.1 o.2.2 ob.1 ob.2.1 ob.2.2 ⟨fun _ => ⟨rfl, rfl⟩, fun z => absurd z (by decide)⟩
  | k + 1, hk => by
    have ih := s_aboveL (G := G) o ob hN hM k (by omega)
    have ek : ((k + 1 : Nat) : Int) - 1 = (k : Int) := by omega
    rw [ek]
    refine gX4_isAbove_19 o.1 o.2.1 o.2.2 ob.1 ob.2.1 ob.2.2 ⟨fun z => absurd z (by omega), fun _ => ⟨by omega, by omega, by omega, by omega, fun c => ⟨⟨by omega, by omega⟩, ?_⟩, fun c => ⟨by omega, by omega, by omega, by omega, fun c2 => ⟨?_, rfl⟩, fun c2 => ⟨?_, rfl⟩⟩⟩⟩
    · have e : (vlb b9 (n (b + 1)) (k + 1) < vlb b9 (n (a + 1)) (k + 1)) ↔ (vlb b9 (n (b + 1)) k < vlb b9 (n (a + 1)) k) := by
        show (vlb b9 (n (b + 1)) k + n (b + 1) (k : Int) * pwi b9 k < vlb b9 (n (a + 1)) k + n (a + 1) (k : Int) * pwi b9 k) ↔ _
        rw [c]
        omega
      simp only [e]
      exact ih
    · have q := vlb_lt (b := b9) (f := n (a + 1)) (g := n (b + 1)) (k := k) (by decide) (hN.2.1.le (by omega)) (hM.2.1.le (by omega)) (by omega)
      rw [if_neg (by omega)]
    · have q := vlb_lt (b := b9) (f := n (b + 1)) (g := n (a + 1)) (k := k) (by decide) (hM.2.1.le (by omega)) (hN.2.1.le (by omega)) c2
      rw [if_pos q]
theorem s_above {a b : Nat} {v u : Int} (o : ONat a) (ob : ONat b) (hN : NatC n a v) (hM : NatC n b u) : EI w (d + 1) mX4_isAbove [vr a, vr b] B0 n (if u < v then 1 else 0) n := by
  have h1 := hN.1
  have h2 := hM.1
  refine EI.of (by decide +kernel) (Nat.le_of_ble_eq_true rfl) rfl (fun _ G => gX4_isAbove_0 o.1 o.2.1 o.2.2 ob.1 ob.2.1 ob.2.2 ⟨⟨by omega, by omega⟩, ?_⟩)
  have q := s_aboveL (w := w) (d := d + 1) (G := G) o ob hN hM (max (n a 1) (n b 1)).toNat (by omega)
  have t1 : vlb b9 (n (a + 1)) 64 = vlb b9 (n (a + 1)) (max (n a 1) (n b 1)).toNat := vlb_tail2 (by omega) (fun i i0 i1 => hN.2.2.1 i (by omega) (by omega))
  have t2 : vlb b9 (n (b + 1)) 64 = vlb b9 (n (b + 1)) (max (n a 1) (n b 1)).toNat := vlb_tail2 (by omega) (fun i i0 i1 => hM.2.2.1 i (by omega) (by omega))
  rw [← t1, ← t2, hN.2.2.2, hM.2.2.2, show (((max (n a 1) (n b 1)).toNat : Nat) : Int) - 1 = min (max (n a 1) (n b 1)) 64 - 1 by omega] at q
  exact q
theorem pwi_4 {f : Int} {s : Nat} {V : Int} : pwi f s * ((f * f * f * f) * V) = pwi f (s + 4) * V := by
  show _ = pwi f s * f * f * f * f * V
  grind
theorem cap_mono {p F C V : Int} (hp : 0 ≤ p) (hV : 0 ≤ V) (hF : F ≤ C) : p * (F * V) ≤ (p * C) * V := by
  have h1 : (p * V) * F ≤ (p * V) * C := Int.mul_le_mul_of_nonneg_left hF (Int.mul_nonneg hp hV)
  have e1 : p * (F * V) = (p * V) * F := by grind
  have e2 : (p * C) * V = (p * V) * C := by grind
  omega
theorem s_oftenL {G : GM} {a : Nat} {f : Int} {n0 : NM} (o : ONat a) (f0 : 0 ≤ f) (f1 : f ≤ 100) : ∀ (m t : Nat) (n : NM) (V : Int), t ≤ 1000 → t ≤ 4 * m → NatC n a V → Fr2 a n n0 → pwi 100 t * V < pwi b9 64 → Rn w mX4_multiplyOften (d + 2) G (fun r h' => ∃ n1 : NM, r = none ∧ h' = (B0, n1) ∧ NatC n1 a (pwi f t * V) ∧ Fr2 a n1 n0) 15 [(0, vr a), (1, vi f), (3, vl (f * f * f * f)), (5, vi (t : Int))] [] (B0, n)
  | m, 0, n, V, _, ht, hN, hf, hc => by
    refine gX4_multiplyOften_15 o.1 o.2.1 o.2.2 ⟨fun _ => ⟨_, rfl, rfl, ?_, hf⟩, fun z => absurd z (by decide)⟩
    show NatC n a (1 * V)
    rw [Int.one_mul]
    exact hN
  | 0, t + 1, n, V, _, ht, hN, hf, hc => by omega
  | m + 1, t + 1, n, V, ht0, ht, hN, hf, hc => by
    have vle := hN.le
    have m2 := mulb f0 f1 f0 f1
    have m3 := mulb (A := 10000) (B := 100) m2.1 m2.2 f0 f1
    have m4 := mulb (A := 1000000) (B := 100) m3.1 m3.2 f0 f1
    have last : ∀ (n3 : NM) (y : Int), y ≤ 0 → NatC n3 a (pwi f (t + 1) * V) → Fr2 a n3 n → Rn w mX4_multiplyOften (d + 2) G (fun r h' => ∃ n1 : NM, r = none ∧ h' = (B0, n1) ∧ NatC n1 a (pwi f (t + 1) * V) ∧ Fr2 a n1 n0) 15 [(0, vr a), (1, vi f), (3, vl (f * f * f * f)), (5, vi y)] [] (B0, n3) := fun n3 y hy h3 f3 => gX4_multiplyOften_15 o.1 o.2.1 o.2.2 ⟨fun _ => ⟨_, rfl, rfl, h3, hf.tr f3⟩, fun z => absurd z (by omega)⟩
    refine gX4_multiplyOften_15 o.1 o.2.1 o.2.2 ⟨fun z => absurd z (by omega), fun _ => ⟨fun c4 => ⟨fun _ _ => ⟨by omega, by omega⟩, fun _ => ⟨by omega, by omega⟩, fun _ => ⟨by omega, by omega⟩, fun z ez => ?_⟩, fun c4 => ?_⟩⟩
    · have key : z = pwi f (t + 1) ∧ 0 ≤ z ∧ z ≤ 1000000 ∧ z ≤ pwi 100 (t + 1) := by
        match t, c4, ez with
        | 0, _, ez =>
          rw [if_pos (by decide), if_pos (by decide)] at ez
          rw [ez]
          exact ⟨(by show f = 1 * f; omega), f0, by omega, (by show f ≤ 1 * 100; omega)⟩
        | 1, _, ez =>
          rw [if_pos (by decide), if_neg (by decide)] at ez
          rw [ez]
          exact ⟨(by show f * f = 1 * f * f; rw [Int.one_mul]), m2.1, by omega, (by show f * f ≤ 1 * 100 * 100; omega)⟩
        | 2, _, ez =>
          rw [if_neg (by decide)] at ez
          rw [ez]
          exact ⟨(by show f * f * f = 1 * f * f * f; rw [Int.one_mul]), m3.1, by omega, (by show f * f * f ≤ 1 * 100 * 100 * 100; omega)⟩
        | t + 3, c4, _ => omega
      have q := cap_mono (p := 1) (F := z) (C := pwi 100 (t + 1)) (V := V) (by decide) vle.1 key.2.2.2
      rw [Int.one_mul, Int.one_mul] at q
      refine EV.usP (s_mul (d := d) o.1 o.2.1 o.2.2 hN key.2.1 (by omega) (by omega)) (fun n3 u => ⟨⟨by omega, by omega⟩, last n3 _ (by omega) ?_ u.2⟩)
      rw [← key.1]
      exact u.1
    · have q := cap_mono (p := 1) (F := f * f * f * f) (C := 100000000) (V := V) (by decide) vle.1 m4.2
      rw [Int.one_mul, Int.one_mul] at q
      obtain ⟨s, hs⟩ : ∃ s : Nat, t + 1 = s + 4 := ⟨t - 3, by omega⟩
      rw [hs] at hc ⊢
      have ps := pwi_pos (b := 100) (by decide) s
      have ec : pwi 100 (s + 4) * V = (pwi 100 s * 100000000) * V := by
        show pwi 100 s * 100 * 100 * 100 * 100 * V = _
        congr 1
        omega
      have h8 : 100000000 * V ≤ pwi 100 (s + 4) * V := by
        rw [ec]
        exact Int.mul_le_mul_of_nonneg_right (by omega) vle.1
      refine EV.usP (s_mul (d := d) o.1 o.2.1 o.2.2 hN m4.1 (by omega) (by omega)) (fun n3 u => ⟨⟨by omega, by omega⟩, ?_⟩)
      have q2 := cap_mono (p := pwi 100 s) (F := f * f * f * f) (C := 100000000) (V := V) (by omega) vle.1 m4.2
      have nxt := s_oftenL (G := G) (n0 := n0) o f0 f1 m s n3 (f * f * f * f * V) (by omega) (by omega) u.1 (hf.tr u.2) (by omega)
      rw [pwi_4] at nxt
      rw [show ((s + 4 : Nat) : Int) + -4 = (s : Int) by omega]
      exact nxt
theorem s_often {a : Nat} {f V : Int} {t : Nat} (o : ONat a) (f0 : 0 ≤ f) (f1 : f ≤ 100) (hN : NatC n a V) (ht : t ≤ 1000) (hc : pwi 100 t * V < pwi b9 64) : Ev w (d + 2) 0 0 mX4_multiplyOften [vr a, vi f, vi (t : Int)] (B0, n) (fun r h' => ∃ n1 : NM, r = none ∧ h' = (B0, n1) ∧ NatC n1 a (pwi f t * V) ∧ Fr2 a n1 n) := by
  have m2 := mulb f0 f1 f0 f1
  have m3 := mulb (A := 10000) (B := 100) m2.1 m2.2 f0 f1
  have m4 := mulb (A := 1000000) (B := 100) m3.1 m3.2 f0 f1
  exact EV.ofP (by decide +kernel) (Nat.le_of_ble_eq_true rfl) rfl (fun _ G => gX4_multiplyOften_0 o.1 o.2.1 o.2.2 ⟨⟨by omega, by omega⟩, ⟨by omega, by omega⟩, ⟨by omega, by omega⟩, s_oftenL o f0 f1 t t n V ht (by omega) hN Fr2.rf hc⟩)
theorem s_incL {G : GM} {a b : Nat} {v u : Int} {n0 : NM} (o : ONat a) (ob : ONat b) (h1 : a ≠ b) (h2 : a ≠ b + 1) (h3 : a + 1 ≠ b) (hN : NatC n0 a v) (hM : NatC n0 b u) (hU : n0 b 1 ≤ n0 a 1) (hv : v + u < pwi b9 64) : ∀ (m k : Nat) (n : NM) (c : Int), k + m = 64 → MidC n0 n a k (n0 a 1) → 0 ≤ c → c ≤ 1 → vlb b9 (n (a + 1)) k + c * pwi b9 k = vlb b9 (n0 (a + 1)) k + vlb b9 (n0 (b + 1)) k → Rn w mX4_increaseBy (d + 1) G (fun r h' => ∃ n1 : NM, r = none ∧ h' = (B0, n1) ∧ NatC n1 a (v + u) ∧ Fr2 a n1 n0) 20 [(0, vr a), (1, vr b), (2, vl c), (4, vi (k : Int))] [] (B0, n)
  | 0, k, n, c, hk, hM2, c0, c1, hi => by
    have ek : k = 64 := by omega
    rw [ek] at hi hM2
    have q := hM2.fin hN.1.1 hN.1.2 (Nat.le_refl _) hN.2.2.1 c0 hi (by rw [hN.2.2.2, hM.2.2.2]; exact hv) (Or.inl rfl)
    rw [hN.2.2.2, hM.2.2.2] at q
    exact gX4_increaseBy_20 o.1 o.2.1 o.2.2 ob.1 ob.2.1 ob.2.2 ⟨fun _ => ⟨_, rfl, rfl, q, hM2.1⟩, fun z => absurd z (by omega)⟩
  | m + 1, k, n, c, hk, hM2, c0, c1, hi => by
    have go : Rn w mX4_increaseBy (d + 1) G (fun r h' => ∃ n1 : NM, r = none ∧ h' = (B0, n1) ∧ NatC n1 a (v + u) ∧ Fr2 a n1 n0) 42 [(0, vr a), (1, vr b), (2, vl c), (4, vi (k : Int))] [] (B0, n) := by
      have dg : 0 ≤ n (a + 1) (k : Int) ∧ n (a + 1) (k : Int) < 1000000000 := hM2.2.2.1 k (by omega) (by omega)
      have eb : n (b + 1) = n0 (b + 1) := hM2.1 (b + 1) (by omega) (by omega)
      have dh : 0 ≤ n0 (b + 1) (k : Int) ∧ n0 (b + 1) (k : Int) < 1000000000 := hM.2.1 k (by omega) (by omega)
      have ex : n (a + 1) (k : Int) = n0 (a + 1) (k : Int) := hM2.2.2.2 k (Int.le_refl _) (by omega)
      refine gX4_increaseBy_42 o.1 o.2.1 o.2.2 ob.1 ob.2.1 ob.2.2 ?_
      rw [eb]
      have r0 := Int.emod_nonneg (n (a + 1) (k : Int) + n0 (b + 1) (k : Int) + c) (show (1000000000 : Int) ≠ 0 by decide)
      have r1 := Int.emod_lt_of_pos (n (a + 1) (k : Int) + n0 (b + 1) (k : Int) + c) (show (0 : Int) < 1000000000 by decide)
      have e0 : (upn n (a + 1) (k : Int) ((n (a + 1) (k : Int) + n0 (b + 1) (k : Int) + c) % 1000000000)) a 1 = n a 1 := upn_a (by omega)
      refine ⟨by omega, by omega, by omega, by omega, ⟨by omega, by omega⟩, ⟨by omega, by omega⟩, by omega, by omega, by omega, by omega, ⟨by omega, by omega⟩, ⟨by omega, by omega⟩, ?_⟩
      refine s_incL o ob h1 h2 h3 hN hM hU hv m (k + 1) _ _ (by omega) (hM2.next (by omega) ⟨r0, r1⟩ (by rw [e0])) (by omega) (by omega) ?_
      rw [MidC.val (n0 := n0)]
      refine add_step hi ?_
      rw [← ex]
      exact divmod
    refine gX4_increaseBy_20 o.1 o.2.1 o.2.2 ob.1 ob.2.1 ob.2.2 ⟨fun z => absurd z (by omega), fun _ => ⟨fun _ => go, fun hu => ⟨fun hc => ?_, fun _ => go⟩⟩⟩
    have hma := hM2.2.1
    have l1 : vlb b9 (n0 (a + 1)) k = v := by
      rw [← hN.2.2.2]
      exact (vlb_tail2 (k := k) (N := 64) (by omega) (fun i i0 i1 => hN.2.2.1 i (by omega) (by omega))).symm
    have l2 : vlb b9 (n0 (b + 1)) k = u := by
      rw [← hM.2.2.2]
      exact (vlb_tail2 (k := k) (N := 64) (by omega) (fun i i0 i1 => hM.2.2.1 i (by omega) (by omega))).symm
    rw [l1, l2] at hi
    exact ⟨_, rfl, rfl, hM2.fin hN.1.1 hN.1.2 (by omega) hN.2.2.1 c0 hi hv (Or.inr ⟨hu, by omega⟩), hM2.1⟩
theorem s_inc {a b : Nat} {v u : Int} (o : ONat a) (ob : ONat b) (h1 : a ≠ b) (h2 : a ≠ b + 1) (h3 : a + 1 ≠ b) (hN : NatC n a v) (hM : NatC n b u) (hv : v + u < pwi b9 64) : Ev w (d + 1) 0 0 mX4_increaseBy [vr a, vr b] (B0, n) (fun r h' => ∃ n1 : NM, r = none ∧ h' = (B0, n1) ∧ NatC n1 a (v + u) ∧ Fr2 a n1 n) := by
  have p1 := hN.1
  have p2 := hM.1
  have hN2 : NatC (upn n a 1 (max (n a 1) (n b 1))) a v := by
    refine ⟨by rw [upn_self]; omega, by rw [upn_ne (by omega)]; exact hN.2.1, fun i i0 i1 => ?_, by rw [upn_ne (by omega)]; exact hN.2.2.2⟩
    rw [upn_self] at i0
    rw [upn_ne (by omega)]
    exact hN.2.2.1 i (by omega) i1
  have hM2 : NatC (upn n a 1 (max (n a 1) (n b 1))) b u := hM.congr (upn_ne (by omega)) (upn_ne (by omega))
  refine EV.ofP (by decide +kernel) (Nat.le_of_ble_eq_true rfl) rfl (fun _ G => gX4_increaseBy_0 o.1 o.2.1 o.2.2 ob.1 ob.2.1 ob.2.2 (Rn.weak (fun r h' z => ?_) (s_incL o ob h1 h2 h3 hN2 hM2 (by rw [upn_self, upn_a (by omega)]; omega) hv 64 0 _ 0 rfl (MidC.start hN2) (Int.le_refl _) (by decide) (by
    show (0 : Int) + 0 * pwi b9 0 = 0 + 0
    omega))))
  obtain ⟨n1, z1, z2, z3, z4⟩ := z
  exact ⟨n1, z1, z2, z3, fun t t0 t1 => (z4 t t0 t1).trans (upn_ne t0)⟩
theorem s_decL {G : GM} {a b : Nat} {v u : Int} {n0 : NM} (o : ONat a) (ob : ONat b) (h1 : a ≠ b) (h2 : a ≠ b + 1) (h3 : a + 1 ≠ b) (hN : NatC n0 a v) (hM : NatC n0 b u) (hv : u ≤ v) : ∀ (m k : Nat) (n : NM) (c : Int), k + m = 64 → (k : Int) ≤ n0 a 1 → (∀ t : Nat, t ≠ a + 1 → n t = n0 t) → Dig b9 (n (a + 1)) 64 → (∀ i, (k : Int) ≤ i → i < 64 → n (a + 1) i = n0 (a + 1) i) → 0 ≤ c → c ≤ 1 → vlb b9 (n (a + 1)) k - c * pwi b9 k = vlb b9 (n0 (a + 1)) k - vlb b9 (n0 (b + 1)) k → Rn w mX4_decreaseBy d G (fun r h' => ∃ n1 : NM, r = none ∧ h' = (B0, n1) ∧ NatC n1 a (v - u) ∧ Fr2 a n1 n0) 5 [(0, vr a), (1, vr b), (2, vl c), (4, vi (k : Int))] [] (B0, n)
  | m, k, n, c, hk, hk2, hf, hd, hr, c0, c1, hi => by
    have ea : n a = n0 a := hf a (by omega)
    have fin : (k = 64 ∨ n0 a 1 ≤ (k : Int)) → ∃ n1 : NM, (none : Option AV) = none ∧ ((B0, n) : Hp) = (B0, n1) ∧ NatC n1 a (v - u) ∧ Fr2 a n1 n0 := fun he => by
      have hz : ∀ i : Int, (k : Int) ≤ i → i < 64 → n0 (a + 1) i = 0 := fun i i0 i1 => by
        rcases he with he | he
        · omega
        · exact hN.2.2.1 i (by omega) i1
      have l1 : vlb b9 (n0 (a + 1)) k = v := by
        rw [← hN.2.2.2]
        exact (vlb_tail2 (k := k) (N := 64) (by omega) (fun i i0 i1 => hz i i0 (by omega))).symm
      have lv := vlb_le (f := n0 (a + 1)) (b := b9) (by decide) k (hN.2.1.le (by omega))
      have l2 : vlb b9 (n0 (b + 1)) k = u := by
        have sm := vlb_small (b := b9) (f := n0 (b + 1)) (k := k) (by decide) (64 - k) (by rw [show k + (64 - k) = 64 by omega]; exact hM.2.1) (by rw [show k + (64 - k) = 64 by omega, hM.2.2.2]; omega)
        rw [show k + (64 - k) = 64 by omega, hM.2.2.2] at sm
        exact sm.1.symm
      have ln := vlb_le (f := n (a + 1)) (b := b9) (by decide) k (hd.le (by omega))
      have cz : c = 0 := by
        by_cases q : c = 0
        · exact q
        · have : c = 1 := by omega
          rw [this, Int.one_mul] at hi
          omega
      rw [cz, Int.zero_mul, l1, l2] at hi
      refine ⟨n, rfl, rfl, ⟨by rw [ea]; exact hN.1, hd, fun i i0 i1 => ?_, ?_⟩, fun t t0 t1 => hf t t1⟩
      · by_cases q : (k : Int) ≤ i
        · rw [hr i q i1]
          exact hz i q i1
        · rw [ea] at i0
          rcases he with he | he <;> omega
      · rw [vlb_tail2 (k := k) (N := 64) (by omega) (fun i i0 i1 => by rw [hr i i0 (by omega)]; exact hz i i0 (by omega))]
        omega
    refine gX4_decreaseBy_5 o.1 o.2.1 o.2.2 ob.1 ob.2.1 ob.2.2 ⟨fun z => fin (Or.inl (by omega)), fun z => ⟨fun z2 => fin (Or.inr (by rw [← ea]; exact z2)), fun z2 => ?_⟩⟩
    have dg : 0 ≤ n (a + 1) (k : Int) ∧ n (a + 1) (k : Int) < 1000000000 := hd k (by omega) (by omega)
    have eb : n (b + 1) = n0 (b + 1) := hf (b + 1) (by omega)
    have dh : 0 ≤ n0 (b + 1) (k : Int) ∧ n0 (b + 1) (k : Int) < 1000000000 := hM.2.1 k (by omega) (by omega)
    have ex : n (a + 1) (k : Int) = n0 (a + 1) (k : Int) := hr k (Int.le_refl _) (by omega)
    rw [eb]
    refine ⟨by omega, by omega, by omega, by omega, ⟨by omega, by omega⟩, ⟨by omega, by omega⟩, fun q eq => ?_⟩
    have q01 : (q = 0 ∧ 0 ≤ n (a + 1) (k : Int) - n0 (b + 1) (k : Int) - c) ∨ (q = 1 ∧ n (a + 1) (k : Int) - n0 (b + 1) (k : Int) - c < 0) := by
      rw [eq]
      by_cases z : 0 ≤ n (a + 1) (k : Int) - n0 (b + 1) (k : Int) - c
      · rw [if_pos z]
        exact Or.inl ⟨rfl, z⟩
      · rw [if_neg z]
        exact Or.inr ⟨rfl, by omega⟩
    refine ⟨⟨by omega, by omega⟩, ⟨by omega, by omega⟩, by omega, by omega, ⟨by omega, by omega⟩, ?_⟩
    match m, hk with
    | 0, hk => omega
    | m + 1, hk =>
      refine s_decL o ob h1 h2 h3 hN hM hv m (k + 1) _ q (by omega) (by rw [← ea]; omega) (fun t ht => (upn_ne ht).trans (hf t ht)) (fun i i0 i1 => ?_) (fun i i0 i1 => ?_) (by omega) (by omega) ?_
      · by_cases y : i = (k : Int)
        · rw [y, upn_self]
          show 0 ≤ _ ∧ _ < (1000000000 : Int)
          omega
        · rw [upn_i y]
          exact hd i i0 i1
      · rw [upn_i (by omega)]
        exact hr i (by omega) i1
      · rw [vlb_put (f := n (a + 1)) (fun i i0 i1 => upn_i (by omega)) (upn_self _ _ _ _)]
        refine sub_step hi ?_
        rw [← ex]
theorem s_dec {a b : Nat} {v u : Int} (o : ONat a) (ob : ONat b) (h1 : a ≠ b) (h2 : a ≠ b + 1) (h3 : a + 1 ≠ b) (hN : NatC n a v) (hM : NatC n b u) (hv : u ≤ v) : Ev w d 0 0 mX4_decreaseBy [vr a, vr b] (B0, n) (fun r h' => ∃ n1 : NM, r = none ∧ h' = (B0, n1) ∧ NatC n1 a (v - u) ∧ Fr2 a n1 n) :=
  EV.ofP (by decide +kernel) (Nat.le_of_ble_eq_true rfl) rfl (fun _ G => gX4_decreaseBy_0 o.1 o.2.1 o.2.2 ob.1 ob.2.1 ob.2.2 (s_decL o ob h1 h2 h3 hN hM hv 64 0 n 0 rfl hN.1.1 (fun _ _ => rfl) hN.2.1 (fun _ _ _ => rfl) (Int.le_refl _) (by decide) (by
    show (0 : Int) - 0 * pwi b9 0 = 0 - 0
    omega)))
end NAT2
