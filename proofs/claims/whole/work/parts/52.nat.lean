section NATV
variable {w : WD} {d : Nat}
def pwi (b : Int) : Nat → Int
  | 0 => 1
  | k + 1 => pwi b k * b
theorem pwi_pos {b : Int} (h : 0 < b) : ∀ k : Nat, 0 < pwi b k
  | 0 => (by show (0 : Int) < 1; decide)
  | k + 1 => Int.mul_pos (pwi_pos h k) h
/-- what the first k places of f make -/
def vlb (b : Int) (f : Int → Int) : Nat → Int
  | 0 => 0
  | k + 1 => vlb b f k + f (k : Int) * pwi b k
def Dig (b : Int) (f : Int → Int) (N : Nat) : Prop := ∀ i : Int, 0 ≤ i → i < (N : Int) → 0 ≤ f i ∧ f i < b
theorem Dig.le {b : Int} {f : Int → Int} {N M : Nat} (h : Dig b f N) (q : M ≤ N) : Dig b f M := fun i i0 i1 => h i i0 (by omega)
theorem vlb_congr {b : Int} {f g : Int → Int} : ∀ k : Nat, (∀ i : Int, 0 ≤ i → i < (k : Int) → f i = g i) → vlb b f k = vlb b g k
  | 0, _ => rfl
  | k + 1, h => by
    show vlb b f k + f (k : Int) * pwi b k = vlb b g k + g (k : Int) * pwi b k
    rw [vlb_congr k (fun i i0 i1 => h i i0 (by omega)), h k (by omega) (by omega)]
theorem vlb_le {b : Int} {f : Int → Int} (hb : 0 < b) : ∀ k : Nat, Dig b f k → 0 ≤ vlb b f k ∧ vlb b f k < pwi b k
  | 0, _ => ⟨Int.le_refl _, (by show (0 : Int) < 1; decide)⟩
  | k + 1, h => by
    have ih := vlb_le hb k (h.le (by omega))
    have q := h k (by omega) (by omega)
    have p := pwi_pos hb k
    have h1 : f (k : Int) * pwi b k ≤ (b - 1) * pwi b k := Int.mul_le_mul_of_nonneg_right (by omega) (by omega)
    have h2 : 0 ≤ f (k : Int) * pwi b k := Int.mul_nonneg q.1 (by omega)
    have e : (b - 1) * pwi b k + pwi b k = pwi b k * b := by
      rw [Int.sub_mul, Int.one_mul, Int.mul_comm b]
      omega
    show 0 ≤ vlb b f k + f (k : Int) * pwi b k ∧ vlb b f k + f (k : Int) * pwi b k < pwi b k * b
    omega
theorem vlb_tail {b : Int} {f : Int → Int} {k : Nat} : ∀ m : Nat, (∀ i : Int, (k : Int) ≤ i → i < (k : Int) + m → f i = 0) → vlb b f (k + m) = vlb b f k
  | 0, _ => rfl
  | m + 1, h => by
    have ih := vlb_tail (b := b) m (fun i i0 i1 => h i i0 (by omega))
    show vlb b f (k + m) + f ((k + m : Nat) : Int) * pwi b (k + m) = _
    rw [ih, h _ (by omega) (by omega), Int.zero_mul, Int.add_zero]
theorem vlb_tail2 {b : Int} {f : Int → Int} {k N : Nat} (hk : k ≤ N) (h : ∀ i : Int, (k : Int) ≤ i → i < (N : Int) → f i = 0) : vlb b f N = vlb b f k := by
  have q := vlb_tail (b := b) (f := f) (k := k) (N - k) (fun i i0 i1 => h i i0 (by omega))
  rw [show k + (N - k) = N by omega] at q
  exact q
theorem pwi_le {b : Int} (hb : 1 ≤ b) {k : Nat} : ∀ m : Nat, pwi b k ≤ pwi b (k + m)
  | 0 => Int.le_refl _
  | m + 1 => by
    have ih := pwi_le hb (k := k) m
    have p := pwi_pos (b := b) (by omega) (k + m)
    have h1 : pwi b (k + m) * 1 ≤ pwi b (k + m) * b := Int.mul_le_mul_of_nonneg_left hb (by omega)
    show _ ≤ pwi b (k + m) * b
    omega
/-- a value below b to the k has no places from k on -/
theorem vlb_small {b : Int} {f : Int → Int} {k : Nat} (hb : 1 ≤ b) : ∀ m : Nat, Dig b f (k + m) → vlb b f (k + m) < pwi b k → vlb b f (k + m) = vlb b f k ∧ ∀ i : Int, (k : Int) ≤ i → i < (k : Int) + m → f i = 0
  | 0, _, _ => ⟨rfl, fun i i0 i1 => by omega⟩
  | m + 1, hd, hv => by
    have q := hd ((k + m : Nat) : Int) (by omega) (by omega)
    have p := pwi_pos (b := b) (by omega) (k + m)
    have l := vlb_le (f := f) (by omega) (k + m) (hd.le (by omega))
    have pl := pwi_le hb (k := k) m
    have e : vlb b f (k + (m + 1)) = vlb b f (k + m) + f ((k + m : Nat) : Int) * pwi b (k + m) := rfl
    have z : f ((k + m : Nat) : Int) = 0 := by
      by_cases c : f ((k + m : Nat) : Int) = 0
      · exact c
      · have h1 : 1 * pwi b (k + m) ≤ f ((k + m : Nat) : Int) * pwi b (k + m) := Int.mul_le_mul_of_nonneg_right (by omega) (by omega)
        omega
    rw [e, z, Int.zero_mul, Int.add_zero] at hv ⊢
    have ih := vlb_small hb m (hd.le (by omega)) hv
    refine ⟨ih.1, fun i i0 i1 => ?_⟩
    by_cases c : i < (k : Int) + m
    · exact ih.2 i i0 c
    · rw [show i = ((k + m : Nat) : Int) by omega]
      exact z
theorem mul_step {N O c x o q r b B : Int} (h1 : N + c * B = x * O) (h2 : o * x + c = b * q + r) : (N + r * B) + q * (B * b) = x * (O + o * B) := by grind
theorem add_step {N O P c o p q r b B : Int} (h1 : N + c * B = O + P) (h2 : (o + p) + c = b * q + r) : (N + r * B) + q * (B * b) = (O + o * B) + (P + p * B) := by grind
theorem sub_step {N O P c o p q r b B : Int} (h1 : N - c * B = O - P) (h2 : ((o - p) - c) + q * b = r) : (N + r * B) - q * (B * b) = (O + o * B) - (P + p * B) := by grind
theorem divmod {a b : Int} : a = b * (a / b) + a % b := by
  have := Int.emod_add_mul_ediv a b
  omega
/-- behind one place more -/
theorem vlb_put {b : Int} {f g : Int → Int} {k : Nat} {r : Int} (h : ∀ i : Int, 0 ≤ i → i < (k : Int) → g i = f i) (hr : g (k : Int) = r) : vlb b g (k + 1) = vlb b f k + r * pwi b k := by
  show vlb b g k + g (k : Int) * pwi b k = _
  rw [vlb_congr k h, hr]
/-- places compared from the top -/
theorem vlb_lt {b : Int} {f g : Int → Int} {k : Nat} (hb : 0 < b) (hf : Dig b f k) (hg : Dig b g k) (h : f (k : Int) < g (k : Int)) : vlb b f (k + 1) < vlb b g (k + 1) := by
  have l1 := vlb_le hb k hf
  have l2 := vlb_le hb k hg
  have p := pwi_pos hb k
  have h1 : (f (k : Int) + 1) * pwi b k ≤ g (k : Int) * pwi b k := Int.mul_le_mul_of_nonneg_right (by omega) (by omega)
  rw [Int.add_mul, Int.one_mul] at h1
  show vlb b f k + f (k : Int) * pwi b k < vlb b g k + g (k : Int) * pwi b k
  omega
end NATV
section NATC
variable {w : WD} {d : Nat} {n : NM}
abbrev b9 : Int := 1000000000
/-- the class's natural at a (its limbs at a + 1) is v -/
def NatC (n : NM) (a : Nat) (v : Int) : Prop := (0 ≤ n a 1 ∧ n a 1 ≤ 64) ∧ Dig b9 (n (a + 1)) 64 ∧ (∀ i, n a 1 ≤ i → i < 64 → n (a + 1) i = 0) ∧ vlb b9 (n (a + 1)) 64 = v
def Fr2 (a : Nat) (n2 n : NM) : Prop := ∀ t : Nat, t ≠ a → t ≠ a + 1 → n2 t = n t
theorem Fr2.rf {a : Nat} : Fr2 a n n := fun _ _ _ => rfl
theorem Fr2.tr {a : Nat} {n2 n3 : NM} (h : Fr2 a n2 n) (h2 : Fr2 a n3 n2) : Fr2 a n3 n := fun t x y => (h2 t x y).trans (h t x y)
theorem NatC.congr {n2 : NM} {a : Nat} {v : Int} (e1 : n2 a = n a) (e2 : n2 (a + 1) = n (a + 1)) (h : NatC n a v) : NatC n2 a v := by
  unfold NatC
  rw [e1, e2]
  exact h
theorem NatC.le {a : Nat} {v : Int} (h : NatC n a v) : 0 ≤ v ∧ v < pwi b9 64 := by
  have := vlb_le (by decide) 64 h.2.1
  rw [h.2.2.2] at this
  exact this
/-- in the midst of a walk over the limbs: k of them are done -/
def MidC (n0 n : NM) (a k : Nat) (u : Int) : Prop := Fr2 a n n0 ∧ n a 1 = max u (k : Int) ∧ Dig b9 (n (a + 1)) 64 ∧ ∀ i, (k : Int) ≤ i → i < 64 → n (a + 1) i = n0 (a + 1) i
theorem MidC.next {n0 : NM} {a k : Nat} {u r m : Int} (h : MidC n0 n a k u) (hk : k < 64) (hr : 0 ≤ r ∧ r < b9) (hm : m = max (n a 1) ((k : Int) + 1)) : MidC n0 (upn (upn n (a + 1) (k : Int) r) a 1 m) a (k + 1) u := by
  refine ⟨fun t t0 t1 => by rw [upn_ne t0, upn_ne t1]; exact h.1 t t0 t1, ?_, fun i i0 i1 => ?_, fun i i0 i1 => ?_⟩
  · rw [upn_self, hm, h.2.1]
    omega
  · rw [upn_ne (by omega)]
    by_cases c : i = (k : Int)
    · rw [c, upn_self]
      exact hr
    · rw [upn_i c]
      exact h.2.2.1 i i0 i1
  · rw [upn_ne (by omega), upn_i (by omega)]
    exact h.2.2.2 i (by omega) i1
theorem MidC.val {n0 : NM} {a k : Nat} {r m : Int} : vlb b9 (upn (upn n (a + 1) (k : Int) r) a 1 m (a + 1)) (k + 1) = vlb b9 (n (a + 1)) k + r * pwi b9 k := by
  refine vlb_put (fun i i0 i1 => ?_) ?_
  · rw [upn_ne (by omega), upn_i (by omega)]
  · rw [upn_ne (by omega), upn_self]
/-- the walk ends here -/
theorem MidC.fin {n0 : NM} {a k : Nat} {u c V : Int} (h : MidC n0 n a k u) (u0 : 0 ≤ u) (hu : u ≤ 64) (hk : k ≤ 64) (hz : ∀ i, u ≤ i → i < 64 → n0 (a + 1) i = 0) (c0 : 0 ≤ c) (hv : vlb b9 (n (a + 1)) k + c * pwi b9 k = V) (hV : V < pwi b9 64) (he : k = 64 ∨ (n a 1 ≤ (k : Int) ∧ c = 0)) : NatC n a V := by
  rcases he with he | ⟨he, hc⟩
  · subst he
    have l := vlb_le (by decide) 64 h.2.2.1
    have c1 : c = 0 := by
      by_cases q : c = 0
      · exact q
      · have h1 : 1 * pwi b9 64 ≤ c * pwi b9 64 := Int.mul_le_mul_of_nonneg_right (by omega) (by have := pwi_pos (b := b9) (by decide) 64; omega)
        omega
    rw [c1, Int.zero_mul, Int.add_zero] at hv
    exact ⟨by rw [h.2.1]; omega, h.2.2.1, fun i i0 i1 => by rw [h.2.1] at i0; omega, hv⟩
  · rw [hc, Int.zero_mul, Int.add_zero] at hv
    have hu2 := h.2.1
    refine ⟨by omega, h.2.2.1, fun i i0 i1 => ?_, ?_⟩
    · rw [h.2.2.2 i (by omega) i1]
      exact hz i (by omega) i1
    · rw [vlb_tail2 hk (fun i i0 i1 => ?_)]
      · exact hv
      · rw [h.2.2.2 i (by omega) i1]
        exact hz i (by omega) i1
section ONE
variable {a v : Nat}
theorem s_mulL {G : GM} {a : Nat} {x v : Int} {n0 : NM} (oa : Obj B0 a 4 2) (ra : rf B0 a 0 = some (a + 1)) (oc : Obj B0 (a + 1) 101 64) (hN : NatC n0 a v) (x0 : 0 ≤ x) (x1 : x ≤ 1000000000) (hv : x * v < pwi b9 64) : ∀ (m k : Nat) (n : NM) (c : Int), k + m = 64 → MidC n0 n a k (n0 a 1) → 0 ≤ c → c ≤ x → vlb b9 (n (a + 1)) k + c * pwi b9 k = x * vlb b9 (n0 (a + 1)) k → Rn w mX4_multiply (d + 1) G (fun r h' => ∃ n1 : NM, r = none ∧ h' = (B0, n1) ∧ NatC n1 a (x * v) ∧ Fr2 a n1 n0) 5 [(0, vr a), (1, vl x), (3, vl c), (5, vi (k : Int))] [] (B0, n)
  | 0, k, n, c, hk, hM, c0, c1, hi => by
    have ek : k = 64 := by omega
    rw [ek] at hi hM
    have q := hM.fin hN.1.1 hN.1.2 (Nat.le_refl _) hN.2.2.1 c0 hi (by rw [hN.2.2.2]; exact hv) (Or.inl rfl)
    rw [hN.2.2.2] at q
    exact gX4_multiply_5 oa ra oc ⟨fun _ => ⟨_, rfl, rfl, q, hM.1⟩, fun z => absurd z (by omega)⟩
  | m + 1, k, n, c, hk, hM, c0, c1, hi => by
    have go : Rn w mX4_multiply (d + 1) G (fun r h' => ∃ n1 : NM, r = none ∧ h' = (B0, n1) ∧ NatC n1 a (x * v) ∧ Fr2 a n1 n0) 27 [(0, vr a), (1, vl x), (3, vl c), (5, vi (k : Int))] [] (B0, n) := by
      have dg : 0 ≤ n (a + 1) (k : Int) ∧ n (a + 1) (k : Int) < 1000000000 := hM.2.2.1 k (by omega) (by omega)
      have h1 := mulb (A := 999999999) (B := 1000000000) dg.1 (by omega) x0 x1
      have h2 : n (a + 1) (k : Int) * x + c ≤ 999999999 * x + x := by
        have := Int.mul_le_mul_of_nonneg_right (show n (a + 1) (k : Int) ≤ 999999999 by omega) x0
        omega
      have r0 := Int.emod_nonneg (n (a + 1) (k : Int) * x + c) (show (1000000000 : Int) ≠ 0 by decide)
      have r1 := Int.emod_lt_of_pos (n (a + 1) (k : Int) * x + c) (show (0 : Int) < 1000000000 by decide)
      have e0 : (upn n (a + 1) (k : Int) ((n (a + 1) (k : Int) * x + c) % 1000000000)) a 1 = n a 1 := upn_a (by omega)
      have ex : n (a + 1) (k : Int) = n0 (a + 1) (k : Int) := hM.2.2.2 k (Int.le_refl _) (by omega)
      refine gX4_multiply_27 oa ra oc ⟨by omega, by omega, ⟨by omega, by omega⟩, ⟨by omega, by omega⟩, by omega, by omega, by omega, by omega, ⟨by omega, by omega⟩, ⟨by omega, by omega⟩, ?_⟩
      refine s_mulL oa ra oc hN x0 x1 hv m (k + 1) _ _ (by omega) (hM.next (by omega) ⟨r0, r1⟩ (by rw [e0])) (by omega) (by omega) ?_
      rw [MidC.val (n0 := n0)]
      refine mul_step hi ?_
      rw [← ex]
      exact divmod
    refine gX4_multiply_5 oa ra oc ⟨fun z => absurd z (by omega), fun _ => ⟨fun _ => go, fun hu => ⟨fun hc => ?_, fun _ => go⟩⟩⟩
    have q := hM.fin hN.1.1 hN.1.2 (by omega) hN.2.2.1 c0 hi ?_ (Or.inr ⟨hu, by omega⟩)
    · refine ⟨_, rfl, rfl, ?_, hM.1⟩
      have hl : vlb b9 (n0 (a + 1)) k = v := by
        rw [← hN.2.2.2]
        refine (vlb_tail2 (k := k) (N := 64) (by omega) (fun i i0 i1 => hN.2.2.1 i ?_ i1)).symm
        rw [hM.2.1] at hu
        omega
      rw [hl] at q
      exact q
    · have hl : vlb b9 (n0 (a + 1)) k = v := by
        rw [← hN.2.2.2]
        refine (vlb_tail2 (k := k) (N := 64) (by omega) (fun i i0 i1 => hN.2.2.1 i ?_ i1)).symm
        rw [hM.2.1] at hu
        omega
      rw [hl]
      exact hv
theorem MidC.start {a : Nat} {v : Int} (hN : NatC n a v) : MidC n n a 0 (n a 1) := ⟨Fr2.rf, by have := hN.1.1; omega, hN.2.1, fun _ _ _ => rfl⟩
theorem s_mul {a : Nat} {x v : Int} (oa : Obj B0 a 4 2) (ra : rf B0 a 0 = some (a + 1)) (oc : Obj B0 (a + 1) 101 64) (hN : NatC n a v) (x0 : 0 ≤ x) (x1 : x ≤ 1000000000) (hv : x * v < pwi b9 64) : Ev w (d + 1) 0 0 mX4_multiply [vr a, vl x] (B0, n) (fun r h' => ∃ n1 : NM, r = none ∧ h' = (B0, n1) ∧ NatC n1 a (x * v) ∧ Fr2 a n1 n) :=
  EV.ofP (by decide +kernel) (Nat.le_of_ble_eq_true rfl) rfl (fun _ G => gX4_multiply_0 oa ra oc (s_mulL oa ra oc hN x0 x1 hv 64 0 n 0 rfl (MidC.start hN) (Int.le_refl _) x0 (by
    show (0 : Int) + 0 * pwi b9 0 = x * 0
    omega)))
end ONE
end NATC
