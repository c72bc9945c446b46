section MNAT
variable {w : WD} {d : Nat} {n : NM}
abbrev b6 : Int := 1000000
/-- the reference's number in row a is v -/
def NatM (n : NM) (a : Nat) (v : Int) : Prop := Dig b6 (n a) 100 ∧ vlb b6 (n a) 100 = v
def Fr1 (a : Nat) (n2 n : NM) : Prop := ∀ t : Nat, t ≠ a → n2 t = n t
theorem Fr1.rf {a : Nat} : Fr1 a n n := fun _ _ => rfl
theorem Fr1.tr {a : Nat} {n2 n3 : NM} (h : Fr1 a n2 n) (h2 : Fr1 a n3 n2) : Fr1 a n3 n := fun t x => (h2 t x).trans (h t x)
theorem NatM.congr {n2 : NM} {a : Nat} {v : Int} (e1 : n2 a = n a) (h : NatM n a v) : NatM n2 a v := by
  unfold NatM
  rw [e1]
  exact h
theorem NatM.le {a : Nat} {v : Int} (h : NatM n a v) : 0 ≤ v ∧ v < pwi b6 100 := by
  have := vlb_le (by decide) 100 h.1
  rw [h.2] at this
  exact this
def FrT (n2 n : NM) : Prop := ∀ t : Nat, t < 158 ∨ 162 < t → n2 t = n t
theorem FrT.rf : FrT n n := fun _ _ => rfl
theorem FrT.tr {n2 n3 : NM} (h : FrT n2 n) (h2 : FrT n3 n2) : FrT n3 n := fun t a => (h2 t a).trans (h t a)
theorem Fr1.t {n2 : NM} {a : Nat} (h : Fr1 a n2 n) (h1 : 158 ≤ a) (h2 : a ≤ 162) : FrT n2 n := fun t ht => h t (by omega)
theorem m_setToL {G : GM} {a : Nat} {v : Int} (oa : Obj B0 a 101 100) (v0 : 0 ≤ v) (v1 : v < 1000000000000) : ∀ (m k : Nat), k + m = 100 → Rn w mX12_setTo d G (fun r h' => ∃ n1 : NM, r = none ∧ h' = (B0, n1) ∧ NatM n1 a v ∧ Fr1 a n1 n) 2 [(0, vr a), (1, vl v), (3, vi (k : Int))] [] (B0, wrow n a 0 (k : Int) (fun _ => 0))
  | 0, k, hk => by
    have ek : k = 100 := by omega
    subst ek
    have e : ∀ i : Int, 0 ≤ i → i < 100 → upn (upn (wrow n a 0 ((100 : Nat) : Int) (fun _ => 0)) a 0 (v % 1000000)) a 1 (v / 1000000) a i = if i = 1 then v / 1000000 else if i = 0 then v % 1000000 else 0 := fun i i0 i1 => by
      by_cases c : i = 1
      · rw [if_pos c, c, upn_self]
      · rw [if_neg c, upn_i c]
        by_cases c2 : i = 0
        · rw [if_pos c2, c2, upn_self]
        · rw [if_neg c2, upn_i c2, wrow_in i0 (by omega)]
    refine gX12_setTo_2 oa ⟨fun _ => ⟨v0, v0, _, rfl, rfl, ⟨fun i i0 i1 => ?_, ?_⟩, fun t ht => by rw [upn_ne ht, upn_ne ht, wrow_ne ht]⟩, fun z => absurd z (by omega)⟩
    · rw [e i i0 (by omega)]
      show 0 ≤ _ ∧ _ < (1000000 : Int)
      split
      · omega
      · split <;> omega
    · rw [vlb_tail2 (k := 2) (N := 100) (by decide) (fun i i0 i1 => by rw [e i (by omega) (by omega), if_neg (by omega), if_neg (by omega)])]
      show 0 + _ * 1 + _ * (1 * 1000000) = v
      rw [e _ (by decide) (by decide), if_neg (by decide), if_pos (show ((0 : Nat) : Int) = 0 from rfl), e _ (by decide) (by decide), if_pos (show ((1 : Nat) : Int) = 1 from rfl)]
      omega
  | m + 1, k, hk => by
    have nxt := m_setToL (G := G) oa v0 v1 m (k + 1) (by omega)
    refine gX12_setTo_2 oa ⟨fun z => absurd z (by omega), fun _ => ⟨by omega, by omega, ⟨by omega, by omega⟩, ?_⟩⟩
    rw [wrow_more (by omega) (by omega) rfl]
    exact nxt
theorem m_setTo {a : Nat} {v : Int} (oa : Obj B0 a 101 100) (v0 : 0 ≤ v) (v1 : v < 1000000000000) : Ev w d 0 0 mX12_setTo [vr a, vl v] (B0, n) (fun r h' => ∃ n1 : NM, r = none ∧ h' = (B0, n1) ∧ NatM n1 a v ∧ Fr1 a n1 n) :=
  EV.ofP (by decide +kernel) (Nat.le_of_ble_eq_true rfl) rfl (fun _ G => gX12_setTo_0 oa (by
    have q := m_setToL (w := w) (d := d) (G := G) (n := n) oa v0 v1 100 0 rfl
    rw [show ((0 : Nat) : Int) = 0 from rfl, wrow_0] at q
    exact q))
/-- in the midst of a walk over a row's places -/
def MidM (n0 n : NM) (a k : Nat) : Prop := Fr1 a n n0 ∧ Dig b6 (n a) 100 ∧ ∀ i, (k : Int) ≤ i → i < 100 → n a i = n0 a i
theorem MidM.next {n0 : NM} {a k : Nat} {r : Int} (h : MidM n0 n a k) (hr : 0 ≤ r ∧ r < 1000000) : MidM n0 (upn n a (k : Int) r) a (k + 1) := by
  refine ⟨fun t t0 => by rw [upn_ne t0]; exact h.1 t t0, fun i i0 i1 => ?_, fun i i0 i1 => ?_⟩
  · by_cases c : i = (k : Int)
    · rw [c, upn_self]
      exact hr
    · rw [upn_i c]
      exact h.2.1 i i0 i1
  · rw [upn_i (by omega)]
    exact h.2.2 i (by omega) i1
theorem MidM.val {a k : Nat} {r : Int} : vlb b6 (upn n a (k : Int) r a) (k + 1) = vlb b6 (n a) k + r * pwi b6 k := vlb_put (fun i i0 i1 => upn_i (by omega)) (upn_self _ _ _ _)
/-- no carry is left -/
theorem car_0 {N c B V : Int} (hN : 0 ≤ N) (c0 : 0 ≤ c) (hB : 0 ≤ B) (h : N + c * B = V) (hV : V < B) : N = V := by
  by_cases q : c = 0
  · rw [q, Int.zero_mul] at h
    omega
  · have h1 : 1 * B ≤ c * B := Int.mul_le_mul_of_nonneg_right (by omega) hB
    omega
theorem m_mulL {G : GM} {a : Nat} {x v : Int} {n0 : NM} (oa : Obj B0 a 101 100) (hN : NatM n0 a v) (x0 : 0 ≤ x) (x1 : x ≤ 1000000000) (hv : x * v < pwi b6 100) : ∀ (m k : Nat) (n : NM) (c : Int), k + m = 100 → MidM n0 n a k → 0 ≤ c → c ≤ x → vlb b6 (n a) k + c * pwi b6 k = x * vlb b6 (n0 a) k → Rn w mX12_multiply d G (fun r h' => ∃ n1 : NM, r = none ∧ h' = (B0, n1) ∧ NatM n1 a (x * v) ∧ Fr1 a n1 n0) 5 [(0, vr a), (1, vl x), (3, vl c), (5, vi (k : Int))] [] (B0, n)
  | 0, k, n, c, hk, hM, c0, c1, hi => by
    have ek : k = 100 := by omega
    rw [ek, hN.2] at hi
    have l := vlb_le (b := b6) (by decide) 100 hM.2.1
    exact gX12_multiply_5 oa ⟨fun _ => ⟨_, rfl, rfl, ⟨hM.2.1, car_0 l.1 c0 (by have := pwi_pos (b := b6) (by decide) 100; omega) hi hv⟩, hM.1⟩, fun z => absurd z (by omega)⟩
  | m + 1, k, n, c, hk, hM, c0, c1, hi => by
    have dg : 0 ≤ n a (k : Int) ∧ n a (k : Int) < 1000000 := hM.2.1 k (by omega) (by omega)
    have h1 := mulb (A := 999999) (B := 1000000000) dg.1 (by omega) x0 x1
    have h2 : n a (k : Int) * x + c ≤ 999999 * x + x := by
      have := Int.mul_le_mul_of_nonneg_right (show n a (k : Int) ≤ 999999 by omega) x0
      omega
    have r0 := Int.emod_nonneg (n a (k : Int) * x + c) (show (1000000 : Int) ≠ 0 by decide)
    have r1 := Int.emod_lt_of_pos (n a (k : Int) * x + c) (show (0 : Int) < 1000000 by decide)
    have ex : n a (k : Int) = n0 a (k : Int) := hM.2.2 k (Int.le_refl _) (by omega)
    refine gX12_multiply_5 oa ⟨fun z => absurd z (by omega), fun _ => ⟨by omega, by omega, ⟨by omega, by omega⟩, ⟨by omega, by omega⟩, by omega, by omega, by omega, by omega, ⟨by omega, by omega⟩, ?_⟩⟩
    refine m_mulL oa hN x0 x1 hv m (k + 1) _ _ (by omega) (hM.next ⟨r0, r1⟩) (by omega) (by omega) ?_
    rw [MidM.val]
    refine mul_step hi ?_
    rw [← ex]
    exact divmod
theorem m_mul {a : Nat} {x v : Int} (oa : Obj B0 a 101 100) (hN : NatM n a v) (x0 : 0 ≤ x) (x1 : x ≤ 1000000000) (hv : x * v < pwi b6 100) : Ev w d 0 0 mX12_multiply [vr a, vl x] (B0, n) (fun r h' => ∃ n1 : NM, r = none ∧ h' = (B0, n1) ∧ NatM n1 a (x * v) ∧ Fr1 a n1 n) :=
  EV.ofP (by decide +kernel) (Nat.le_of_ble_eq_true rfl) rfl (fun _ G => gX12_multiply_0 oa (m_mulL oa hN x0 x1 hv 100 0 n 0 rfl ⟨Fr1.rf, hN.1, fun _ _ _ => rfl⟩ (Int.le_refl _) x0 (by
    show (0 : Int) + 0 * pwi b6 0 = x * 0
    omega)))
theorem m_cmpL {G : GM} {a b : Nat} {v u : Int} (oa : Obj B0 a 101 100) (ob : Obj B0 b 101 100) (hN : NatM n a v) (hM : NatM n b u) : ∀ (k : Nat), k ≤ 100 → Rn w mX12_compare d G (fun r h' => r = some (vi (if vlb b6 (n a) k < vlb b6 (n b) k then -1 else if vlb b6 (n a) k = vlb b6 (n b) k then 0 else 1)) ∧ h' = (B0, n)) 3 [(0, vr a), (1, vr b), (2, vi ((k : Int) - 1))] [] (B0, n)
  | 0, _ => gX12_compare_3 oa ob ⟨fun _ => ⟨rfl, rfl⟩, fun z => absurd z (by decide)⟩
  | k + 1, hk => by
    have ih := m_cmpL (G := G) oa ob hN hM k (by omega)
    have ek : ((k + 1 : Nat) : Int) - 1 = (k : Int) := by omega
    rw [ek]
    refine gX12_compare_3 oa ob ⟨fun z => absurd z (by omega), fun _ => ⟨by omega, by omega, by omega, by omega, fun c => ⟨⟨by omega, by omega⟩, ?_⟩, fun c => ⟨by omega, by omega, by omega, by omega, fun c2 => ⟨?_, rfl⟩, fun c2 => ⟨?_, rfl⟩⟩⟩⟩
    · have e : vlb b6 (n a) (k + 1) = vlb b6 (n a) k + n b (k : Int) * pwi b6 k := by
        rw [← c]
        rfl
      have e2 : vlb b6 (n b) (k + 1) = vlb b6 (n b) k + n b (k : Int) * pwi b6 k := rfl
      have i1 : (vlb b6 (n a) (k + 1) < vlb b6 (n b) (k + 1)) ↔ (vlb b6 (n a) k < vlb b6 (n b) k) := by
        rw [e, e2]
        omega
      have i2 : (vlb b6 (n a) (k + 1) = vlb b6 (n b) (k + 1)) ↔ (vlb b6 (n a) k = vlb b6 (n b) k) := by
        rw [e, e2]
        omega
      simp only [i1, i2]
      exact ih
    · have q := vlb_lt (b := b6) (f := n b) (g := n a) (k := k) (by decide) (hM.1.le (by omega)) (hN.1.le (by omega)) (by omega)
      rw [if_neg (by omega), if_neg (by omega)]
    · have q := vlb_lt (b := b6) (f := n a) (g := n b) (k := k) (by decide) (hN.1.le (by omega)) (hM.1.le (by omega)) c2
      rw [if_pos q]
theorem m_cmp {a b : Nat} {v u : Int} (oa : Obj B0 a 101 100) (ob : Obj B0 b 101 100) (hN : NatM n a v) (hM : NatM n b u) : EI w d mX12_compare [vr a, vr b] B0 n (if v < u then -1 else if v = u then 0 else 1) n := by
  refine EI.of (by decide +kernel) (Nat.le_of_ble_eq_true rfl) rfl (fun _ G => gX12_compare_0 oa ob ?_)
  have q := m_cmpL (w := w) (d := d) (G := G) oa ob hN hM 100 (Nat.le_refl _)
  rw [hN.2, hM.2] at q
  exact q
/-! the factor -/
def fkV (p many : Int) (k : Nat) : Int := pwi p (min k many.toNat) * pwi 100 (k - many.toNat)
theorem fkV_next {p many : Int} {k : Nat} (m0 : 0 ≤ many) : (if many ≤ (k : Int) then 100 else p) * fkV p many k = fkV p many (k + 1) := by
  unfold fkV
  by_cases c : many ≤ (k : Int)
  · rw [if_pos c, show min k many.toNat = many.toNat by omega, show min (k + 1) many.toNat = many.toNat by omega, show k + 1 - many.toNat = (k - many.toNat) + 1 by omega]
    show _ = pwi p many.toNat * (pwi 100 (k - many.toNat) * 100)
    grind
  · rw [if_neg c, show min k many.toNat = k by omega, show min (k + 1) many.toNat = k + 1 by omega, show k + 1 - many.toNat = 0 by omega, show k - many.toNat = 0 by omega]
    show _ = (pwi p k * p) * 1
    show p * (pwi p k * 1) = _
    grind
theorem fkV_le {p many : Int} (p0 : 0 ≤ p) (p1 : p ≤ 100) : ∀ k : Nat, 0 ≤ fkV p many k ∧ fkV p many k ≤ pwi 100 k := fun k => by
  unfold fkV
  have h1 := pwi_mono p0 p1 (min k many.toNat)
  have h2 := pwi_pos (b := 100) (by decide) (k - many.toNat)
  have h3 : pwi p (min k many.toNat) * pwi 100 (k - many.toNat) ≤ pwi 100 (min k many.toNat) * pwi 100 (k - many.toNat) := Int.mul_le_mul_of_nonneg_right h1.2 (by omega)
  rw [← pwi_add, show min k many.toNat + (k - many.toNat) = k by omega] at h3
  exact ⟨Int.mul_nonneg h1.1 (by omega), h3⟩
theorem pw20 : pwi 100 20 = 10000000000000000000000000000000000000000 := by decide +kernel
theorem m_ffL {G : GM} {s t : Int} {n0 : NM} (e158 : True) (hr : RowOk (n0 147)) (s0 : 0 ≤ s) (s1 : s < n0 147 7) (t0 : 0 ≤ t) (t1 : t < n0 147 8) (t12 : t < 12) {Q : Option AV → Hp → Prop} (K : ∀ n3 : NM, NatM n3 159 (fkV (100 - n0 147 (720 + 4 * t)) (manyV (n0 147) s t) 20) → Fr1 159 n3 n0 → Rn w mX12_findFactor (d + 1) G Q 62 [(0, vr 145), (4, vi (720 + 4 * t)), (5, vi (manyV (n0 147) s t)), (6, vi 20)] [] (B0, n3)) : ∀ (m k : Nat) (n : NM), k + m = 20 → Fr1 159 n n0 → NatM n 159 (fkV (100 - n0 147 (720 + 4 * t)) (manyV (n0 147) s t) k) → Rn w mX12_findFactor (d + 1) G Q 62 [(0, vr 145), (4, vi (720 + 4 * t)), (5, vi (manyV (n0 147) s t)), (6, vi (k : Int))] [] (B0, n)
  | 0, k, n, hk, f, hN => by
    have ek : k = 20 := by omega
    subst ek
    exact K n hN f
  | m + 1, k, n, hk, f, hN => by
    have q8 := hr.2.2.2.2.2.2.2.1 t t0 t1
    have e147 : n 147 = n0 147 := f 147 (by decide)
    have mv := many_le hr (t := t) s0 s1
    have fl := fkV_le (p := 100 - n0 147 (720 + 4 * t)) (many := manyV (n0 147) s t) (by omega) (by omega) k
    have fp := pwi_le (b := 100) (k := k) (by decide) (20 - k)
    rw [show k + (20 - k) = 20 by omega, pw20] at fp
    refine gX12_findFactor_62 ⟨fun z => absurd z (by omega), fun _ => ⟨fun _ => by omega, fun _ => by omega, fun _ => ⟨by rw [e147]; omega, by rw [e147]; omega⟩, fun z ez => ?_⟩⟩
    rw [e147] at ez
    have hz : 0 ≤ z ∧ z ≤ 100 := by
      rw [ez]
      split <;> omega
    have hb : z * fkV (100 - n0 147 (720 + 4 * t)) (manyV (n0 147) s t) k ≤ 100 * 10000000000000000000000000000000000000000 := Int.mul_le_mul hz.2 (by omega) fl.1 (by decide)
    have hc : (100 * 10000000000000000000000000000000000000000 : Int) < pwi b6 100 := by decide +kernel
    refine EV.usP (m_mul ob_159 hN hz.1 (by omega) (by omega)) (fun n3 u => ⟨⟨by omega, by omega⟩, m_ffL e158 hr s0 s1 t0 t1 t12 K m (k + 1) n3 (by omega) (f.tr u.2) ?_⟩)
    rw [← fkV_next mv.1, ← ez]
    exact u.1
theorem m_subL {G : GM} {v u : Int} {n0 : NM} (hN : NatM n0 162 v) (hM : NatM n0 159 u) (hv : u ≤ v) : ∀ (m k : Nat) (n : NM) (c : Int), k + m = 100 → MidM n0 n 159 k → 0 ≤ c → c ≤ 1 → vlb b6 (n 159) k - c * pwi b6 k = vlb b6 (n0 162) k - vlb b6 (n0 159) k → Rn w mX12_findFactor d G (fun r h' => ∃ n1 : NM, r = none ∧ h' = (B0, n1) ∧ NatM n1 159 (v - u) ∧ Fr1 159 n1 n0) 163 [(0, vr 145), (6, vl c), (8, vi (k : Int))] [] (B0, n)
  | 0, k, n, c, hk, hM2, c0, c1, hi => by
    have ek : k = 100 := by omega
    rw [ek, hN.2, hM.2] at hi
    have l := vlb_le (b := b6) (by decide) 100 hM2.2.1
    have cz : c = 0 := by
      by_cases q : c = 0
      · exact q
      · have : c = 1 := by omega
        rw [this, Int.one_mul] at hi
        omega
    rw [cz, Int.zero_mul] at hi
    exact gX12_findFactor_163 ⟨fun _ => ⟨_, rfl, rfl, ⟨hM2.2.1, by omega⟩, hM2.1⟩, fun z => absurd z (by omega)⟩
  | m + 1, k, n, c, hk, hM2, c0, c1, hi => by
    have e162 : n 162 = n0 162 := hM2.1 162 (by decide)
    have dg : 0 ≤ n0 162 (k : Int) ∧ n0 162 (k : Int) < 1000000 := hN.1 k (by omega) (by omega)
    have dh : 0 ≤ n0 159 (k : Int) ∧ n0 159 (k : Int) < 1000000 := hM.1 k (by omega) (by omega)
    have ex : n 159 (k : Int) = n0 159 (k : Int) := hM2.2.2 k (Int.le_refl _) (by omega)
    refine gX12_findFactor_163 ⟨fun z => absurd z (by omega), fun _ => ?_⟩
    rw [e162, ex]
    refine ⟨by omega, by omega, by omega, by omega, ⟨by omega, by omega⟩, ⟨by omega, by omega⟩, fun q eq => ⟨fun _ => ⟨by omega, by omega⟩, fun y ey => ⟨by omega, by omega, ⟨by omega, by omega⟩, ?_⟩⟩⟩
    have q01 : (q = 0 ∧ 0 ≤ n0 162 (k : Int) - n0 159 (k : Int) - c ∧ y = n0 162 (k : Int) - n0 159 (k : Int) - c) ∨ (q = 1 ∧ n0 162 (k : Int) - n0 159 (k : Int) - c < 0 ∧ y = n0 162 (k : Int) - n0 159 (k : Int) - c + 1000000) := by
      rw [eq, ey]
      by_cases z : 0 ≤ n0 162 (k : Int) - n0 159 (k : Int) - c
      · rw [if_pos z, if_pos z]
        exact Or.inl ⟨rfl, z, rfl⟩
      · rw [if_neg z, if_neg z]
        exact Or.inr ⟨rfl, by omega, rfl⟩
    refine m_subL hN hM hv m (k + 1) _ q (by omega) (hM2.next (by omega)) (by omega) (by omega) ?_
    rw [MidM.val]
    refine sub_step hi ?_
    show _ + q * (1000000 : Int) = y
    omega
theorem C42_v : ∀ n2 : NM, NatM n2 162 0 → NatM (upn n2 162 7 1) 162 C42 := fun n2 h => by
  have sm := vlb_small (b := b6) (f := n2 162) (k := 0) (by decide) 100 (by rw [Nat.zero_add]; exact h.1) (by
    show vlb b6 (n2 162) 100 < 1
    rw [h.2]
    decide)
  have e : ∀ i : Int, 0 ≤ i → i < 100 → upn n2 162 7 1 162 i = if i = 7 then 1 else 0 := fun i i0 i1 => by
    by_cases c : i = 7
    · rw [if_pos c, c, upn_self]
    · rw [if_neg c, upn_i c]
      exact sm.2 i (by omega) (by omega)
  refine ⟨fun i i0 i1 => ?_, ?_⟩
  · rw [e i i0 (by omega)]
    show 0 ≤ _ ∧ _ < (1000000 : Int)
    split <;> omega
  · rw [vlb_tail2 (k := 8) (N := 100) (by decide) (fun i i0 i1 => by rw [e i (by omega) (by omega), if_neg (by omega)])]
    rw [show vlb b6 (upn n2 162 7 1 162) 8 = vlb b6 (fun i => if i = 7 then 1 else 0) 8 from vlb_congr 8 (fun i i0 i1 => e i i0 (by omega))]
    decide +kernel
theorem m_findFactor {s t : Int} (hr : RowOk (n 147)) (hn : NumsOk (n 147)) (s0 : 0 ≤ s) (s1 : s < n 147 7) (t0 : 0 ≤ t) (t1 : t < n 147 8) : Ev w (d + 1) 0 0 mX12_findFactor [vr 145, vi s, vi t] (B0, n) (fun r h' => ∃ n1 : NM, r = none ∧ h' = (B0, n1) ∧ NatM n1 159 (facV (n 147) s t) ∧ (∀ q : Nat, q ≠ 159 → q ≠ 162 → n1 q = n q)) := by
  have h7 := hn.2.2.2.2.2.2.1
  have h8 := hn.2.2.2.2.2.2.2.1
  have q8 := hr.2.2.2.2.2.2.2.1 t t0 t1
  have q7 := hr.2.2.2.2.2.2.1 s s0 s1
  have mv := many_le hr (t := t) s0 s1
  have bl := bas_le hr s0 s1 t0 t1
  have hc : C42 < pwi b6 100 := by decide +kernel
  have eb : (100 - n 147 (720 + 4 * t + 2)) * fkV (100 - n 147 (720 + 4 * t)) (manyV (n 147) s t) 20 = basV (n 147) s t := by
    unfold fkV basV
    rw [show min 20 (manyV (n 147) s t).toNat = (manyV (n 147) s t).toNat by omega, show (20 - manyV (n 147) s t).toNat = 20 - (manyV (n 147) s t).toNat by omega]
    grind
  have fl := fkV_le (p := 100 - n 147 (720 + 4 * t)) (many := manyV (n 147) s t) (by omega) (by omega) 20
  refine EV.ofP (by decide +kernel) (Nat.le_of_ble_eq_true rfl) rfl (fun _ G => gX12_findFactor_0 ⟨⟨by omega, by omega⟩, ⟨by omega, by omega⟩, ⟨by omega, by omega⟩, ⟨by omega, by omega⟩, ⟨by omega, by omega⟩, by omega, by omega, ⟨by omega, by omega⟩, by omega, by omega, fun _ => ⟨by omega, by omega⟩, fun _ => by omega, fun _ => by omega, fun z ez => EV.usP (m_setTo ob_159 (by decide) (by decide)) (fun n1 z1 => ?_)⟩)
  rw [show z = manyV (n 147) s t from ez]
  refine m_ffL (n0 := n) trivial hr s0 s1 t0 t1 (by omega) (fun n3 h3 f3 => ?_) 20 0 n1 rfl z1.2 (by
    have e1 : fkV (100 - n 147 (720 + 4 * t)) (manyV (n 147) s t) 0 = 1 := by
      unfold fkV
      rw [Nat.zero_min, Nat.zero_sub]
      rfl
    rw [e1]
    exact z1.1)
  have e147 : n3 147 = n 147 := f3 147 (by decide)
  refine gX12_findFactor_62 ⟨fun _ => ?_, fun z => absurd z (by decide)⟩
  rw [e147]
  refine ⟨⟨by omega, by omega⟩, by omega, by omega, ⟨by omega, by omega⟩, EV.usP (m_mul ob_159 h3 (by omega) (by omega) (by rw [eb]; omega)) (fun n4 z4 => ?_)⟩
  have e1474 : n4 147 = n 147 := (z4.2 147 (by decide)).trans e147
  have z5 : NatM n4 159 (basV (n 147) s t) := by
    rw [← eb]
    exact z4.1
  rw [e1474]
  refine ⟨⟨by omega, by omega⟩, by omega, by omega, fun c => ⟨_, rfl, rfl, ?_, fun q a b => ((f3.tr z4.2) q a)⟩, fun c => EV.usP (m_setTo ob_162 (Int.le_refl _) (by decide)) (fun n5 z6 => ?_)⟩
  · unfold facV
    rw [if_neg (by omega)]
    exact z5
  · have hC := C42_v n5 z6.1
    have h9 : NatM (upn n5 162 7 1) 159 (basV (n 147) s t) := z5.congr ((upn_ne (by decide)).trans (z6.2 159 (by decide)))
    refine Rn.weak (fun r h' y => ?_) (m_subL (w := w) (d := d + 1) (G := G) hC h9 bl.2 100 0 (upn n5 162 7 1) 0 rfl ⟨Fr1.rf, h9.1, fun _ _ _ => rfl⟩ (Int.le_refl _) (by decide) (by
      show (0 : Int) - 0 * pwi b6 0 = 0 - 0
      omega))
    obtain ⟨n6, y1, y2, y3, y4⟩ := y
    refine ⟨n6, y1, y2, ?_, fun q a b => ?_⟩
    · unfold facV
      rw [if_pos (by omega)]
      exact y3
    · rw [y4 q a, upn_ne b, z6.2 q b]
      exact (f3.tr z4.2) q a
end MNAT
