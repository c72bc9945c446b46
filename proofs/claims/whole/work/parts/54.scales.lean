section SCALES
variable {w : WD} {d : Nat} {n : NM}
def manyV (r : Int → Int) (s t : Int) : Int := if r (700 + 3 * s + 2) < r (720 + 4 * t + 1) then 0 else r (700 + 3 * s + 1)
def basV (r : Int → Int) (s t : Int) : Int := (100 - r (720 + 4 * t + 2)) * (pwi 100 (20 - manyV r s t).toNat * pwi (100 - r (720 + 4 * t)) (manyV r s t).toNat)
def C42 : Int := 1000000000000000000000000000000000000000000
def facV (r : Int → Int) (s t : Int) : Int := if r (720 + 4 * t + 3) ≠ 0 then C42 - basV r s t else basV r s t
def ctV (r : Int → Int) (s wo : Int) : Nat → Int
  | 0 => r (700 + 3 * s)
  | t + 1 => if (t : Int) = wo then ctV r s wo t else facV r s (t : Int) * ctV r s wo t
def totV (r : Int → Int) (wo : Int) : Nat → Int
  | 0 => 0
  | s + 1 => totV r wo s + ctV r (s : Int) wo (r 8).toNat
theorem pwi_mono {f g : Int} (f0 : 0 ≤ f) (fg : f ≤ g) : ∀ k : Nat, 0 ≤ pwi f k ∧ pwi f k ≤ pwi g k
  | 0 => ⟨by show (0 : Int) ≤ 1; decide, Int.le_refl _⟩
  | k + 1 => by
    have ih := pwi_mono f0 fg k
    have h1 : pwi f k * f ≤ pwi f k * g := Int.mul_le_mul_of_nonneg_left fg ih.1
    have h2 : pwi f k * g ≤ pwi g k * g := Int.mul_le_mul_of_nonneg_right ih.2 (by omega)
    exact ⟨Int.mul_nonneg ih.1 f0, by show pwi f k * f ≤ pwi g k * g; omega⟩
theorem pwi_add {f : Int} {a : Nat} : ∀ b : Nat, pwi f (a + b) = pwi f a * pwi f b
  | 0 => by
    show pwi f a = pwi f a * 1
    omega
  | b + 1 => by
    have ih := pwi_add (f := f) (a := a) b
    show pwi f (a + b) * f = pwi f a * (pwi f b * f)
    rw [ih]
    grind
theorem many_le {r : Int → Int} (hr : RowOk r) {s t : Int} (s0 : 0 ≤ s) (s1 : s < r 7) : 0 ≤ manyV r s t ∧ manyV r s t ≤ 20 := by
  have q := hr.2.2.2.2.2.2.1 s s0 s1
  unfold manyV
  split <;> omega
theorem bas_le {r : Int → Int} (hr : RowOk r) {s t : Int} (s0 : 0 ≤ s) (s1 : s < r 7) (t0 : 0 ≤ t) (t1 : t < r 8) : 0 ≤ basV r s t ∧ basV r s t ≤ C42 := by
  have m := many_le hr (t := t) s0 s1
  have q := hr.2.2.2.2.2.2.2.1 t t0 t1
  have p1 := pwi_mono (f := 100 - r (720 + 4 * t)) (g := 100) (by omega) (by omega) (manyV r s t).toNat
  have p2 := pwi_pos (b := 100) (by decide) (20 - manyV r s t).toNat
  have h1 : pwi 100 (20 - manyV r s t).toNat * pwi (100 - r (720 + 4 * t)) (manyV r s t).toNat ≤ pwi 100 (20 - manyV r s t).toNat * pwi 100 (manyV r s t).toNat := Int.mul_le_mul_of_nonneg_left p1.2 (by omega)
  have h2 : 0 ≤ pwi 100 (20 - manyV r s t).toNat * pwi (100 - r (720 + 4 * t)) (manyV r s t).toNat := Int.mul_nonneg (by omega) p1.1
  have e : pwi 100 (20 - manyV r s t).toNat * pwi 100 (manyV r s t).toNat = pwi 100 20 := by
    rw [← pwi_add]
    congr 1
    omega
  rw [e, show pwi 100 20 = 10000000000000000000000000000000000000000 by decide +kernel] at h1
  have h3 : (100 - r (720 + 4 * t + 2)) * (pwi 100 (20 - manyV r s t).toNat * pwi (100 - r (720 + 4 * t)) (manyV r s t).toNat) ≤ 100 * 10000000000000000000000000000000000000000 := Int.mul_le_mul (by omega) h1 h2 (by decide)
  refine ⟨Int.mul_nonneg (by omega) h2, ?_⟩
  show _ ≤ (1000000000000000000000000000000000000000000 : Int)
  exact h3
theorem fac_le {r : Int → Int} (hr : RowOk r) {s t : Int} (s0 : 0 ≤ s) (s1 : s < r 7) (t0 : 0 ≤ t) (t1 : t < r 8) : 0 ≤ facV r s t ∧ facV r s t ≤ C42 := by
  have b := bas_le hr s0 s1 t0 t1
  unfold facV
  split <;> omega
theorem cnt_le {r : Int → Int} (hr : RowOk r) {s wo : Int} (s0 : 0 ≤ s) (s1 : s < r 7) : ∀ t : Nat, (t : Int) ≤ r 8 → 0 ≤ ctV r s wo t ∧ ctV r s wo t ≤ 100 * pwi C42 t
  | 0, _ => by
    have q := hr.2.2.2.2.2.2.1 s s0 s1
    show 0 ≤ r (700 + 3 * s) ∧ r (700 + 3 * s) ≤ 100 * 1
    omega
  | t + 1, ht => by
    have ih := cnt_le hr (wo := wo) s0 s1 t (by omega)
    have f := fac_le hr s0 s1 (t := t) (by omega) (by omega)
    have p := pwi_pos (b := C42) (by decide) t
    have e : ctV r s wo (t + 1) = if (t : Int) = wo then ctV r s wo t else facV r s (t : Int) * ctV r s wo t := rfl
    have e2 : pwi C42 (t + 1) = pwi C42 t * C42 := rfl
    rw [e, e2]
    split
    · have h1 : pwi C42 t * 1 ≤ pwi C42 t * C42 := Int.mul_le_mul_of_nonneg_left (by decide) (by omega)
      omega
    · have h1 : facV r s (t : Int) * ctV r s wo t ≤ C42 * (100 * pwi C42 t) := Int.mul_le_mul f.2 ih.2 ih.1 (by decide)
      have e3 : C42 * (100 * pwi C42 t) = 100 * (pwi C42 t * C42) := by grind
      exact ⟨Int.mul_nonneg f.1 ih.1, by omega⟩
def CAP : Int := 100 * pwi C42 12
theorem C42_12 : ∀ t : Nat, t ≤ 12 → pwi C42 t ≤ pwi C42 12 := fun t ht => by
  have q := pwi_le (b := C42) (k := t) (by decide) (12 - t)
  rw [show t + (12 - t) = 12 by omega] at q
  exact q
theorem cnt_cap {r : Int → Int} (hr : RowOk r) (hn : NumsOk r) {s wo : Int} (s0 : 0 ≤ s) (s1 : s < r 7) (t : Nat) (ht : (t : Int) ≤ r 8) : 0 ≤ ctV r s wo t ∧ ctV r s wo t ≤ CAP := by
  have c := cnt_le hr (wo := wo) s0 s1 t ht
  have h8 := hn.2.2.2.2.2.2.2.1
  have q := C42_12 t (by omega)
  unfold CAP
  omega
theorem cnt_cap2 {r : Int → Int} (hr : RowOk r) (hn : NumsOk r) {s wo : Int} (s0 : 0 ≤ s) (s1 : s < r 7) (t : Nat) (ht : (t : Int) < r 8) : 0 ≤ ctV r s wo t ∧ C42 * ctV r s wo t ≤ CAP := by
  have c := cnt_le hr (wo := wo) s0 s1 t (by omega)
  have h8 := hn.2.2.2.2.2.2.2.1
  have q := C42_12 (t + 1) (by omega)
  have e2 : pwi C42 (t + 1) = pwi C42 t * C42 := rfl
  have h1 : C42 * ctV r s wo t ≤ C42 * (100 * pwi C42 t) := Int.mul_le_mul_of_nonneg_left c.2 (by decide)
  have e3 : C42 * (100 * pwi C42 t) = 100 * (pwi C42 t * C42) := by grind
  unfold CAP
  exact ⟨c.1, by omega⟩
theorem tot_cap {r : Int → Int} (hr : RowOk r) (hn : NumsOk r) {wo : Int} : ∀ s : Nat, (s : Int) ≤ r 7 → 0 ≤ totV r wo s ∧ totV r wo s ≤ s * CAP
  | 0, _ => ⟨Int.le_refl _, by show (0 : Int) ≤ ((0 : Nat) : Int) * CAP; omega⟩
  | s + 1, hs => by
    have ih := tot_cap hr hn (wo := wo) s (by omega)
    have h8 := hn.2.2.2.2.2.2.2.1
    have c := cnt_cap hr hn (wo := wo) (s := s) (by omega) (by omega) (r 8).toNat (by omega)
    have e : totV r wo (s + 1) = totV r wo s + ctV r (s : Int) wo (r 8).toNat := rfl
    have e2 : ((s + 1 : Nat) : Int) * CAP = (s : Int) * CAP + CAP := by
      rw [Int.natCast_add, Int.add_mul]
      show _ + 1 * CAP = _
      omega
    rw [e, e2]
    omega
theorem CAP_pos : 0 ≤ CAP := by decide +kernel
theorem tot_cap6 {r : Int → Int} (hr : RowOk r) (hn : NumsOk r) {wo : Int} (s : Nat) (hs : (s : Int) ≤ r 7) : 0 ≤ totV r wo s ∧ totV r wo s ≤ 6 * CAP := by
  have q := tot_cap hr hn (wo := wo) s hs
  have h7 := hn.2.2.2.2.2.2.1
  have h1 : (s : Int) * CAP ≤ 6 * CAP := Int.mul_le_mul_of_nonneg_right (by omega) CAP_pos
  omega
theorem CAP_9 : 1000000 * (6 * CAP) < pwi b9 64 := by decide +kernel
def bsF (T A : Int) : Nat → Int → Int → Int
  | 0, l, _ => l
  | m + 1, l, h => if l < h then (if A < (l + h + 1) / 2 * T then bsF T A m l ((l + h + 1) / 2 - 1) else bsF T A m ((l + h + 1) / 2) h) else l
theorem bsF_le {T A : Int} : ∀ (m : Nat) (l h : Int), l ≤ h → l ≤ bsF T A m l h ∧ bsF T A m l h ≤ h
  | 0, l, h, q => ⟨Int.le_refl _, q⟩
  | m + 1, l, h, q => by
    have e : bsF T A (m + 1) l h = if l < h then (if A < (l + h + 1) / 2 * T then bsF T A m l ((l + h + 1) / 2 - 1) else bsF T A m ((l + h + 1) / 2) h) else l := rfl
    rw [e]
    split
    · split
      · have := bsF_le (T := T) (A := A) m l ((l + h + 1) / 2 - 1) (by omega)
        omega
      · have := bsF_le (T := T) (A := A) m ((l + h + 1) / 2) h (by omega)
        omega
    · omega
/-- what a story's odds are, without the sweep wo -/
def oddV (r : Int → Int) (s wo : Int) : Int := if totV r wo (r 7).toNat = 0 then 0 else bsF (totV r wo (r 7).toNat) (1000000 * ctV r s wo (r 8).toNat) 20 0 1000000
theorem oddV_le {r : Int → Int} {s wo : Int} : 0 ≤ oddV r s wo ∧ oddV r s wo ≤ 1000000 := by
  unfold oddV
  split
  · decide
  · exact bsF_le 20 0 1000000 (by decide)
/-! the class's scales -/
theorem on53 : ONat 53 := ⟨ob_53, rfl, ob_54⟩
theorem on55 : ONat 55 := ⟨ob_55, rfl, ob_56⟩
theorem on57 : ONat 57 := ⟨ob_57, rfl, ob_58⟩
theorem on59 : ONat 59 := ⟨ob_59, rfl, ob_60⟩
theorem onA {i : Int} (h0 : 0 ≤ i) (h1 : i < 6) : ONat (natA i) := by
  have e : natL i = natA i + 1 := by
    unfold natL natA
    omega
  have a := rf_natA h0 h1
  have b := ob_natL h0 h1
  rw [e] at a b
  exact ⟨ob_natA h0 h1, a, b⟩
theorem natA_le {i : Int} (h0 : 0 ≤ i) (h1 : i < 6) : 61 ≤ natA i ∧ natA i ≤ 71 := by
  unfold natA
  omega
/-- what the scales leave as it was -/
def FrS (n2 n : NM) : Prop := ∀ t : Nat, t < 53 ∨ 72 < t → n2 t = n t
theorem FrS.rf : FrS n n := fun _ _ => rfl
theorem FrS.tr {n2 n3 : NM} (h : FrS n2 n) (h2 : FrS n3 n2) : FrS n3 n := fun t a => (h2 t a).trans (h t a)
theorem Fr2.s {n2 : NM} {a : Nat} (h : Fr2 a n2 n) (h1 : 53 ≤ a) (h2 : a ≤ 71) : FrS n2 n := fun t ht => h t (by omega) (by omega)
theorem FrS.lake {n2 : NM} (f : FrS n2 n) (h : LakeRel n 1 (n 147)) : LakeRel n2 1 (n2 147) := by
  rw [f 147 (by decide)]
  exact h.congr (fun t a b => f t (by omega)) (fun _ _ _ => rfl)
theorem FrS.z {n2 : NM} (f : FrS n2 n) : FrZ n2 n := ⟨fun t a => f t (by omega), fun j _ => by rw [f 145 (by decide)]⟩
theorem s_heardOf {s : Int} {b : Int} (hL : LakeRel n 1 (n 147)) (s0 : 0 ≤ s) (s1 : s < n 147 7) : EI w (d + 2) mX1_heardOf [vr 1, vi s, vi b] B0 n (if n 147 (700 + 3 * s + 2) < b then 0 else n 147 (700 + 3 * s + 1)) n := by
  have hT : TR n 21 3 6 7 700 (n 147) := hL.2.2.2.2.2.2.2.2.1
  refine EI.of (by decide +kernel) (Nat.le_of_ble_eq_true rfl) rfl (fun _ G => gX1_heardOf_0 (EI.use (s_tr (p := 700 + 3 * s + 2) ob_21 rfl ob_22 hT rfl (by decide) s0 s1 (by decide) (by decide) rfl) ⟨fun c => ⟨?_, rfl⟩, fun c => EI.use (s_tr (p := 700 + 3 * s + 1) ob_21 rfl ob_22 hT rfl (by decide) s0 s1 (by decide) (by decide) rfl) ⟨?_, rfl⟩⟩))
  · rw [if_pos c]
  · rw [if_neg (by omega)]
theorem s_swG {t j p : Int} (hL : LakeRel n 1 (n 147)) (t0 : 0 ≤ t) (t1 : t < n 147 8) (j0 : 0 ≤ j) (j1 : j < 4) (hp : p = 720 + 4 * t + j) {n2 : NM} (f : FrS n2 n) : EI w (d + 1) mX7_get [vr 23, vi t, vi j] B0 n2 (n 147 p) n2 := by
  have e := f 147 (by decide)
  have hT : TR n2 23 4 12 8 720 (n2 147) := (f.lake hL).2.2.2.2.2.2.2.2.2.1
  have q := s_tr (w := w) (d := d) (n := n2) ob_23 rfl ob_24 hT (by decide) (by decide) t0 (by rw [e]; exact t1) j0 j1 hp
  rw [e] at q
  exact q
theorem s_weighSweep {s t V : Int} {n0 : NM} (hL : LakeRel n0 1 (n0 147)) (hr : RowOk (n0 147)) (f : FrS n n0) (s0 : 0 ≤ s) (s1 : s < n0 147 7) (s6 : s < 6) (t0 : 0 ≤ t) (t1 : t < n0 147 8) (hN : NatC n (natA s) V) (hV : C42 * V ≤ CAP) : Ev w (d + 3) 0 0 mX6_weighSweep [vr 51, vr 1, vi s, vi t, vr (natA s)] (B0, n) (fun r h' => ∃ n1 : NM, r = none ∧ h' = (B0, n1) ∧ NatC n1 (natA s) (facV (n0 147) s t * V) ∧ ∀ q : Nat, q ≠ natA s → q ≠ natA s + 1 → q ≠ 55 → q ≠ 56 → n1 q = n q) := by
  have oA := onA s0 s6
  have lA := natA_le s0 s6
  have e := f 147 (by decide)
  have hd := s_heardOf (w := w) (d := d) (n := n) (s := s) (b := n0 147 (720 + 4 * t + 1)) (f.lake hL) s0 (by rw [e]; exact s1)
  rw [e] at hd
  have mv := many_le hr (t := t) s0 s1
  have mvu : 0 ≤ (if n0 147 (700 + 3 * s + 2) < n0 147 (720 + 4 * t + 1) then 0 else n0 147 (700 + 3 * s + 1)) ∧ (if n0 147 (700 + 3 * s + 2) < n0 147 (720 + 4 * t + 1) then 0 else n0 147 (700 + 3 * s + 1)) ≤ 20 := mv
  have vle := hN.le
  have q8 := hr.2.2.2.2.2.2.2.1 t t0 t1
  have c9 := CAP_9
  have em : ((manyV (n0 147) s t).toNat : Int) = manyV (n0 147) s t := by omega
  have p1 := pwi_mono (f := 100 - n0 147 (720 + 4 * t)) (g := 100) (by omega) (by omega) (manyV (n0 147) s t).toNat
  have big : pwi 100 (20 - manyV (n0 147) s t).toNat * pwi 100 (manyV (n0 147) s t).toNat = 10000000000000000000000000000000000000000 := by
    rw [← pwi_add, show (20 - manyV (n0 147) s t).toNat + (manyV (n0 147) s t).toNat = 20 by omega]
    decide +kernel
  have ppos := pwi_pos (b := 100) (by decide) (20 - manyV (n0 147) s t).toNat
  have c20 : 10000000000000000000000000000000000000000 * V ≤ C42 * V := Int.mul_le_mul_of_nonneg_right (by decide) vle.1
  have hb1 : pwi 100 (manyV (n0 147) s t).toNat * V < pwi b9 64 := by
    have h1 : 1 * pwi 100 (manyV (n0 147) s t).toNat ≤ pwi 100 (20 - manyV (n0 147) s t).toNat * pwi 100 (manyV (n0 147) s t).toNat := Int.mul_le_mul_of_nonneg_right (by omega) (by have := pwi_pos (b := 100) (by decide) (manyV (n0 147) s t).toNat; omega)
    have h2 : pwi 100 (manyV (n0 147) s t).toNat * V ≤ 10000000000000000000000000000000000000000 * V := Int.mul_le_mul_of_nonneg_right (by omega) vle.1
    have := CAP_pos
    omega
  have hb2 : pwi 100 (20 - manyV (n0 147) s t).toNat * (pwi (100 - n0 147 (720 + 4 * t)) (manyV (n0 147) s t).toNat * V) ≤ 10000000000000000000000000000000000000000 * V := by
    have h1 := cap_mono (p := pwi 100 (20 - manyV (n0 147) s t).toNat) (V := V) (by omega) vle.1 p1.2
    rw [big] at h1
    exact h1
  have hb3 : 0 ≤ pwi 100 (20 - manyV (n0 147) s t).toNat * (pwi (100 - n0 147 (720 + 4 * t)) (manyV (n0 147) s t).toNat * V) := Int.mul_nonneg (by omega) (Int.mul_nonneg p1.1 vle.1)
  have hb4 : (100 - n0 147 (720 + 4 * t + 2)) * (pwi 100 (20 - manyV (n0 147) s t).toNat * (pwi (100 - n0 147 (720 + 4 * t)) (manyV (n0 147) s t).toNat * V)) ≤ 100 * (10000000000000000000000000000000000000000 * V) := Int.mul_le_mul (by omega) hb2 hb3 (by decide)
  have e42 : C42 * V = 100 * (10000000000000000000000000000000000000000 * V) := by
    rw [← Int.mul_assoc]
    rfl
  have eb : (100 - n0 147 (720 + 4 * t + 2)) * (pwi 100 (20 - manyV (n0 147) s t).toNat * (pwi (100 - n0 147 (720 + 4 * t)) (manyV (n0 147) s t).toNat * V)) = basV (n0 147) s t * V := by
    unfold basV
    grind
  have cp := CAP_pos
  refine EV.ofP (by decide +kernel) (Nat.le_of_ble_eq_true rfl) rfl (fun _ G => gX6_weighSweep_0 oA.1 oA.2.1 oA.2.2 (EI.use (s_swG (d := d + 1) (p := 720 + 4 * t + 1) hL t0 t1 (by decide) (by decide) rfl f) (EI.use hd (EV.usP (s_becomeN (d := d + 1) on55 oA hN (by omega) (by omega) (by omega)) (fun n1 z1 => ?_)))))
  have f1 : FrS n1 n0 := f.tr (z1.2.s (by decide) (by decide))
  have k1 := s_often (w := w) (d := d) (t := (manyV (n0 147) s t).toNat) on55 (show 0 ≤ 100 - n0 147 (720 + 4 * t) by omega) (by omega) z1.1 (by omega) hb1
  rw [em] at k1
  refine EI.use (s_swG (d := d + 1) (p := 720 + 4 * t) hL t0 t1 (by decide) (by decide) (Int.add_zero _).symm f1) ⟨⟨by omega, by omega⟩, EV.usP k1 (fun n2 z2 => ?_)⟩
  have f2 : FrS n2 n0 := f1.tr (z2.2.s (by decide) (by decide))
  have k2 := s_often (w := w) (d := d) (t := (20 - manyV (n0 147) s t).toNat) on55 (show (0 : Int) ≤ 100 by decide) (by decide) z2.1 (by omega) (by omega)
  rw [show (((20 - manyV (n0 147) s t).toNat : Nat) : Int) = 20 - manyV (n0 147) s t by omega] at k2
  refine ⟨⟨by omega, by omega⟩, EV.usP k2 (fun n3 z3 => ?_)⟩
  have f3 : FrS n3 n0 := f2.tr (z3.2.s (by decide) (by decide))
  refine EI.use (s_swG (d := d + 1) (p := 720 + 4 * t + 2) hL t0 t1 (by decide) (by decide) rfl f3) ⟨⟨by omega, by omega⟩, EV.usP (s_mul (d := d + 1) on55.1 on55.2.1 on55.2.2 z3.1 (by omega) (by omega) (by omega)) (fun n4 z4 => ?_)⟩
  have f4 : FrS n4 n0 := f3.tr (z4.2.s (by decide) (by decide))
  have z5 : NatC n4 55 (basV (n0 147) s t * V) := by
    rw [← eb]
    exact z4.1
  have fr : Fr2 55 n4 n := ((z1.2.tr z2.2).tr z3.2).tr z4.2
  have hA : NatC n4 (natA s) V := hN.congr (fr _ (by omega) (by omega)) (fr _ (by omega) (by omega))
  refine EI.use (s_swG (d := d + 1) (p := 720 + 4 * t + 3) hL t0 t1 (by decide) (by decide) rfl f4) ⟨fun c => ?_, fun c => ?_⟩
  · have k3 := s_often (w := w) (d := d) (t := 21) oA (show (0 : Int) ≤ 100 by decide) (by decide) hA (by decide) (by
      rw [show pwi 100 21 = C42 by decide +kernel]
      omega)
    rw [show pwi 100 21 = C42 by decide +kernel] at k3
    refine EV.usP k3 (fun n5 z6 => EV.usP (s_dec oA on55 (by omega) (by omega) (by omega) z6.1 (z5.congr (z6.2 _ (by omega) (by omega)) (z6.2 _ (by omega) (by omega))) (by omega)) (fun n6 z7 => ⟨_, rfl, rfl, ?_, fun q a b c e => ?_⟩))
    · have e5 : facV (n0 147) s t * V = C42 * V - basV (n0 147) s t * V := by
        unfold facV
        rw [if_pos c, Int.sub_mul]
      rw [e5]
      exact z7.1
    · rw [z7.2 q a b, z6.2 q a b, fr q c e]
  · refine EV.usP (s_becomeN (d := d + 1) oA on55 z5 (by omega) (by omega) (by omega)) (fun n5 z6 => ⟨_, rfl, rfl, ?_, fun q a b c e => ?_⟩)
    · unfold facV
      rw [if_neg (not_not_intro c)]
      exact z6.1
    · rw [z6.2 q a b, fr q c e]
/-- the scales behind s stories -/
def WgP (n0 : NM) (wo : Int) (s : Nat) (n : NM) : Prop := FrS n n0 ∧ NatC n 53 (totV (n0 147) wo s) ∧ ∀ j : Nat, j < s → NatC n (natA (j : Int)) (ctV (n0 147) (j : Int) wo (n0 147 8).toNat)
theorem s_weighI {G : GM} {wo : Int} {s : Nat} {n0 : NM} {Q : Option AV → Hp → Prop} (hL : LakeRel n0 1 (n0 147)) (hr : RowOk (n0 147)) (hn : NumsOk (n0 147)) (s1 : (s : Int) < n0 147 7) (K : ∀ n3 : NM, WgP n0 wo (s + 1) n3 → Rn w mX6_weigh (d + 4) G Q 10 [(0, vr 51), (1, vr 1), (2, vi wo), (3, vi ((s : Int) + 1))] [] (B0, n3)) : ∀ (m t : Nat) (n : NM), (t : Int) + m = n0 147 8 → WgP n0 wo s n → NatC n (natA (s : Int)) (ctV (n0 147) (s : Int) wo t) → Rn w mX6_weigh (d + 4) G Q 52 [(0, vr 51), (1, vr 1), (2, vi wo), (3, vi (s : Int)), (4, vr (natA (s : Int))), (5, vi (t : Int))] [] (B0, n)
  | 0, t, n, ht, hW, hN => by
    have h7 := hn.2.2.2.2.2.2.1
    have lA := natA_le (i := (s : Int)) (by omega) (by omega)
    have e23 : n 23 3 = n0 147 8 := by
      rw [hW.1 23 (by decide)]
      exact hL.2.2.2.2.2.2.2.2.2.1.2.1
    have et : (n0 147 8).toNat = t := by omega
    have c := cnt_cap hr hn (wo := wo) (s := (s : Int)) (by omega) s1 t (by omega)
    have tc := tot_cap6 hr hn (wo := wo) s (by omega)
    have c9 := CAP_9
    have cp := CAP_pos
    refine gX6_weigh_52 (EI.use (s_size ob_23 (c := 24) rfl ob_24) ⟨fun _ => EV.usP (s_inc (d := d + 2) on53 (onA (by omega) (by omega)) (by omega) (by omega) (by omega) hW.2.1 hN (by omega)) (fun n3 z => ⟨⟨by omega, by omega⟩, K n3 ⟨hW.1.tr (z.2.s (by decide) (by decide)), ?_, fun j hj => ?_⟩⟩), fun z => absurd z (by omega)⟩)
    · show NatC n3 53 (totV (n0 147) wo s + ctV (n0 147) (s : Int) wo (n0 147 8).toNat)
      rw [et]
      exact z.1
    · have lj := natA_le (i := (j : Int)) (by omega) (by omega)
      by_cases q : j = s
      · rw [q, et]
        exact hN.congr (z.2 _ (by omega) (by omega)) (z.2 _ (by omega) (by omega))
      · exact (hW.2.2 j (by omega)).congr (z.2 _ (by omega) (by omega)) (z.2 _ (by omega) (by omega))
  | m + 1, t, n, ht, hW, hN => by
    have h7 := hn.2.2.2.2.2.2.1
    have h8 := hn.2.2.2.2.2.2.2.1
    have lA := natA_le (i := (s : Int)) (by omega) (by omega)
    have e23 : n 23 3 = n0 147 8 := by
      rw [hW.1 23 (by decide)]
      exact hL.2.2.2.2.2.2.2.2.2.1.2.1
    have e : ctV (n0 147) (s : Int) wo (t + 1) = if (t : Int) = wo then ctV (n0 147) (s : Int) wo t else facV (n0 147) (s : Int) (t : Int) * ctV (n0 147) (s : Int) wo t := rfl
    refine gX6_weigh_52 (EI.use (s_size ob_23 (c := 24) rfl ob_24) ⟨fun z => absurd z (by omega), fun _ => ⟨fun c => ⟨⟨by omega, by omega⟩, ?_⟩, fun c => EV.usP (s_weighSweep (d := d) hL hr hW.1 (by omega) s1 (by omega) (by omega) (by omega) hN (cnt_cap2 hr hn (by omega) s1 t (by omega)).2) (fun n3 z => ⟨⟨by omega, by omega⟩, ?_⟩)⟩⟩)
    · exact s_weighI hL hr hn s1 K m (t + 1) n (by omega) hW (by rw [e, if_pos c]; exact hN)
    · refine s_weighI hL hr hn s1 K m (t + 1) n3 (by omega) ⟨hW.1.tr (fun q hq => z.2 q (by omega) (by omega) (by omega) (by omega)), hW.2.1.congr (z.2 _ (by omega) (by omega) (by omega) (by omega)) (z.2 _ (by omega) (by omega) (by omega) (by omega)), fun j hj => ?_⟩ (by rw [e, if_neg c]; exact z.1)
      have lj := natA_le (i := (j : Int)) (by omega) (by omega)
      have ne : natA (j : Int) + 2 ≤ natA (s : Int) := by
        unfold natA
        omega
      exact (hW.2.2 j hj).congr (z.2 _ (by omega) (by omega) (by omega) (by omega)) (z.2 _ (by omega) (by omega) (by omega) (by omega))
theorem s_weighL {G : GM} {wo : Int} {n0 : NM} (hL : LakeRel n0 1 (n0 147)) (hr : RowOk (n0 147)) (hn : NumsOk (n0 147)) : ∀ (m s : Nat) (n : NM), (s : Int) + m = n0 147 7 → WgP n0 wo s n → Rn w mX6_weigh (d + 4) G (fun r h' => ∃ n1 : NM, r = none ∧ h' = (B0, n1) ∧ WgP n0 wo (n0 147 7).toNat n1) 10 [(0, vr 51), (1, vr 1), (2, vi wo), (3, vi (s : Int))] [] (B0, n)
  | 0, s, n, hs, hW => by
    have e21 : n 21 3 = n0 147 7 := by
      rw [hW.1 21 (by decide)]
      exact hL.2.2.2.2.2.2.2.2.1.2.1
    have es : (n0 147 7).toNat = s := by omega
    rw [es]
    exact gX6_weigh_10 ⟨fun _ => ⟨_, rfl, rfl, hW⟩, fun _ => EI.use (s_size ob_21 (c := 22) rfl ob_22) ⟨fun _ => ⟨_, rfl, rfl, hW⟩, fun z => absurd z (by omega)⟩⟩
  | m + 1, s, n, hs, hW => by
    have h7 := hn.2.2.2.2.2.2.1
    have h8 := hn.2.2.2.2.2.2.2.1
    have e147 := hW.1 147 (by decide)
    have e21 : n 21 3 = n0 147 7 := by
      rw [hW.1 21 (by decide)]
      exact hL.2.2.2.2.2.2.2.2.1.2.1
    have hT : TR n 21 3 6 7 700 (n 147) := (hW.1.lake hL).2.2.2.2.2.2.2.2.1
    have gt := s_tr (w := w) (d := d + 2) (n := n) (p := 700 + 3 * (s : Int)) (j := 0) ob_21 rfl ob_22 hT rfl (by decide) (i := (s : Int)) (by omega) (by rw [e147]; omega) (by decide) (by decide) (by omega)
    rw [e147] at gt
    have q := hr.2.2.2.2.2.2.1 s (by omega) (by omega)
    have lA := natA_le (i := (s : Int)) (by omega) (by omega)
    refine gX6_weigh_10 ⟨fun z => absurd z (by omega), fun _ => EI.use (s_size ob_21 (c := 22) rfl ob_22) ⟨fun z => absurd z (by omega), fun _ => ⟨by omega, by omega, EI.use gt (EV.usP (s_become (d := d + 2) (onA (by omega) (by omega)) (by omega) (by omega)) (fun n3 z => ?_))⟩⟩⟩
    refine s_weighI hL hr hn (by omega) (fun n4 h4 => ?_) (n0 147 8).toNat 0 n3 (by omega) ⟨hW.1.tr (z.2.s (by omega) (by omega)), hW.2.1.congr (z.2 _ (by omega) (by omega)) (z.2 _ (by omega) (by omega)), fun j hj => ?_⟩ z.1
    · exact s_weighL hL hr hn m (s + 1) n4 (by omega) h4
    · have ne : natA (j : Int) + 2 ≤ natA (s : Int) := by
        unfold natA
        omega
      exact (hW.2.2 j hj).congr (z.2 _ (by omega) (by omega)) (z.2 _ (by omega) (by omega))
theorem s_weigh {wo : Int} (hL : LakeRel n 1 (n 147)) (hr : RowOk (n 147)) (hn : NumsOk (n 147)) {n2 : NM} (f : FrS n2 n) : Ev w (d + 4) 0 0 mX6_weigh [vr 51, vr 1, vi wo] (B0, n2) (fun r h' => ∃ n1 : NM, r = none ∧ h' = (B0, n1) ∧ WgP n wo (n 147 7).toNat n1) := by
  have h7 := hn.2.2.2.2.2.2.1
  exact EV.ofP (by decide +kernel) (Nat.le_of_ble_eq_true rfl) rfl (fun _ G => gX6_weigh_0 (EV.usP (s_become (d := d + 2) on53 (by decide) (by decide)) (fun n3 z => s_weighL hL hr hn (n 147 7).toNat 0 n3 (by omega) ⟨f.tr (z.2.s (by decide) (by decide)), z.1, fun j hj => absurd hj (by omega)⟩)))
theorem s_oddsL {G : GM} {T A : Int} {n0 : NM} (hA : A ≤ 1000000 * (6 * CAP)) (T0 : 0 ≤ T) (hT : T ≤ 6 * CAP) (hN : NatC n0 53 T) : ∀ (m i : Nat) (n : NM) (l h : Int), i + m = 20 → (∀ t : Nat, t < 57 ∨ 60 < t → n t = n0 t) → NatC n 57 A → 0 ≤ l → l ≤ h → h ≤ 1000000 → h - l < pwi 2 m → Rn w mX6_oddsOf (d + 2) G (fun r h' => ∃ (x1 : Int) (n1 : NM), r = some (vi x1) ∧ h' = (B0, n1) ∧ x1 = bsF T A m l h ∧ ∀ t : Nat, t < 57 ∨ 60 < t → n1 t = n0 t) 53 [(0, vr 51), (2, vi l), (3, vi h), (4, vi (i : Int))] [] (B0, n)
  | 0, i, n, l, h, hi, f, h57, l0, lh, h1, hl => by
    have : h - l < 1 := hl
    exact gX6_oddsOf_53 ⟨fun _ => ⟨_, _, rfl, rfl, rfl, f⟩, fun _ => ⟨fun _ => ⟨_, _, rfl, rfl, rfl, f⟩, fun z => absurd z (by omega)⟩⟩
  | m + 1, i, n, l, h, hi, f, h57, l0, lh, h1, hl => by
    have e : bsF T A (m + 1) l h = if l < h then (if A < (l + h + 1) / 2 * T then bsF T A m l ((l + h + 1) / 2 - 1) else bsF T A m ((l + h + 1) / 2) h) else l := rfl
    have hl2 : h - l < pwi 2 m * 2 := hl
    have c9 := CAP_9
    refine gX6_oddsOf_53 ⟨fun z => absurd z (by omega), fun _ => ⟨fun c => ⟨_, _, rfl, rfl, by rw [e, if_neg (by omega)], f⟩, fun c => ⟨⟨by omega, by omega⟩, ⟨by omega, by omega⟩, by omega, ?_⟩⟩⟩
    have h53 : NatC n 53 T := hN.congr (f _ (by omega)) (f _ (by omega))
    have hm := Int.mul_le_mul (show (l + h + 1) / 2 ≤ 1000000 by omega) hT T0 (by decide)
    refine EV.usP (s_becomeN (d := d) on59 on53 h53 (by decide) (by decide) (by decide)) (fun n1 z1 => EV.usP (s_mul (d := d) on59.1 on59.2.1 on59.2.2 z1.1 (show 0 ≤ (l + h + 1) / 2 by omega) (by omega) (by omega)) (fun n2 z2 => ?_))
    have h57b : NatC n2 57 A := h57.congr (((z1.2.tr z2.2) 57 (by decide) (by decide))) ((z1.2.tr z2.2) 58 (by decide) (by decide))
    have fr : ∀ t : Nat, t < 57 ∨ 60 < t → n2 t = n0 t := fun t ht => ((z1.2.tr z2.2) t (by omega) (by omega)).trans (f t ht)
    refine EI.use (s_above (d := d) on59 on57 z2.1 h57b) ⟨fun _ => ⟨by omega, by omega⟩, fun a b ea eb => ⟨⟨by omega, by omega⟩, ?_⟩⟩
    rw [e, if_pos c]
    by_cases k : A < (l + h + 1) / 2 * T
    · rw [if_pos k, if_neg (by decide)] at ea eb
      rw [if_pos k, ea, eb]
      exact s_oddsL hA T0 hT hN m (i + 1) n2 l _ (by omega) fr h57b l0 (by omega) (by omega) (by omega)
    · rw [if_neg k, if_pos rfl] at ea eb
      rw [if_neg k, ea, eb]
      exact s_oddsL hA T0 hT hN m (i + 1) n2 _ h (by omega) fr h57b (by omega) (by omega) (by omega) (by omega)
/-- weighed: what the scales hold -/
theorem s_oddsOf {wo : Int} {s : Int} {n2 : NM} (hr : RowOk (n 147)) (hn : NumsOk (n 147)) (hW : WgP n wo (n 147 7).toNat n2) (s0 : 0 ≤ s) (s1 : s < n 147 7) : Ev w (d + 2) 0 0 mX6_oddsOf [vr 51, vi s] (B0, n2) (fun r h' => ∃ (x1 : Int) (n1 : NM), r = some (vi x1) ∧ h' = (B0, n1) ∧ x1 = oddV (n 147) s wo ∧ WgP n wo (n 147 7).toNat n1) := by
  have h7 := hn.2.2.2.2.2.2.1
  have h8 := hn.2.2.2.2.2.2.2.1
  have c := cnt_cap hr hn (wo := wo) s0 s1 (n 147 8).toNat (by omega)
  have tc := tot_cap6 hr hn (wo := wo) (n 147 7).toNat (by omega)
  have c9 := CAP_9
  have cp := CAP_pos
  have lA := natA_le (i := s) (by omega) (by omega)
  have hc : NatC n2 (natA s) (ctV (n 147) s wo (n 147 8).toNat) := by
    have := hW.2.2 s.toNat (by omega)
    rw [show ((s.toNat : Nat) : Int) = s by omega] at this
    exact this
  have keep : ∀ n1 : NM, (∀ t : Nat, t < 57 ∨ 60 < t → n1 t = n2 t) → WgP n wo (n 147 7).toNat n1 := fun n1 f => by
    refine ⟨hW.1.tr (fun t ht => f t (by omega)), hW.2.1.congr (f _ (by omega)) (f _ (by omega)), fun j hj => ?_⟩
    have lj := natA_le (i := (j : Int)) (by omega) (by omega)
    exact (hW.2.2 j hj).congr (f _ (by omega)) (f _ (by omega))
  refine EI.ofP (by decide +kernel) (Nat.le_of_ble_eq_true rfl) rfl (fun _ G => gX6_oddsOf_0 ⟨fun z => absurd z (by omega), fun _ => ⟨fun z => absurd z (by omega), fun _ => EI.use (s_isZero on53 hW.2.1) ⟨fun z => ⟨by omega, by omega, EV.usP (s_becomeN (d := d) on57 (onA (by omega) (by omega)) hc (by omega) (by omega) (by omega)) (fun n3 z3 => EV.usP (s_mul (d := d) on57.1 on57.2.1 on57.2.2 z3.1 (by decide) (by decide) (by omega)) (fun n4 z4 => ?_))⟩, fun z => ⟨_, _, rfl, rfl, ?_, hW⟩⟩⟩⟩)
  · have fr : ∀ t : Nat, t < 57 ∨ 60 < t → n4 t = n2 t := fun t ht => (z3.2.tr z4.2) t (by omega) (by omega)
    have tz : ¬ totV (n 147) wo (n 147 7).toNat = 0 := fun q => by
      rw [if_pos q] at z
      exact absurd z (by decide)
    refine Rn.weak (fun v h' t => ?_) (s_oddsL (w := w) (d := d) (G := G) (T := totV (n 147) wo (n 147 7).toNat) (A := 1000000 * ctV (n 147) s wo (n 147 8).toNat) (n0 := n2) (by omega) tc.1 tc.2 hW.2.1 20 0 n4 0 1000000 rfl fr z4.1 (by decide) (by decide) (by decide) (by decide))
    obtain ⟨x1, n1, t1, t2, t3, t4⟩ := t
    refine ⟨x1, n1, t1, t2, ?_, keep n1 t4⟩
    unfold oddV
    rw [if_neg tz]
    exact t3
  · by_cases q : totV (n 147) wo (n 147 7).toNat = 0
    · unfold oddV
      rw [if_pos q]
    · rw [if_neg q] at z
      exact absurd rfl z
end SCALES
