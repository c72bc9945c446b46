section PLAN
variable {w : WD} {d : Nat} {n : NM}
abbrev P2 (o : Nat) : Int := ((2 ^ o : Nat) : Int)
theorem P2_pos (o : Nat) : 0 < P2 o := by
  have h2 : 0 < 2 ^ o := Nat.pow_pos (by decide)
  show 0 < ((2 ^ o : Nat) : Int)
  omega
theorem P2_s (o : Nat) : P2 (o + 1) = 2 * P2 o := by
  show ((2 ^ (o + 1) : Nat) : Int) = 2 * ((2 ^ o : Nat) : Int)
  rw [Nat.pow_succ]
  omega
theorem P2_le {a b : Nat} (h : a ≤ b) : P2 a ≤ P2 b := by
  have h1 : 2 ^ a ≤ 2 ^ b := Nat.pow_le_pow_right (by decide) h
  show ((2 ^ a : Nat) : Int) ≤ ((2 ^ b : Nat) : Int)
  omega
theorem P2_add {a b : Nat} : P2 (a + b) = P2 a * P2 b := by
  show ((2 ^ (a + b) : Nat) : Int) = _
  rw [Nat.pow_add]
  rfl
theorem bit_no {x : Int} {o j : Nat} (x0 : 0 ≤ x) (x1 : x < P2 o) (h : o ≤ j) : bitI x j = 0 := by
  have h1 := P2_le h
  unfold bitI
  rw [show ((2 ^ j : Nat) : Int) = P2 j from rfl, Int.ediv_eq_zero_of_lt x0 (by omega)]
  rfl
theorem bit_hi {x : Int} {o : Nat} (x0 : 0 ≤ x) (x1 : x < P2 o) : bitI (x + P2 o) o = 1 := by
  have hp := P2_pos o
  unfold bitI
  have e : (x + P2 o) / P2 o = 1 := by
    have q := Int.add_mul_ediv_left x 1 (show P2 o ≠ 0 by omega)
    rw [Int.mul_one, Int.ediv_eq_zero_of_lt x0 x1] at q
    exact q
  rw [show ((2 ^ o : Nat) : Int) = P2 o from rfl, e]
  rfl
theorem bit_lo {x : Int} {o j : Nat} (h : j < o) : bitI (x + P2 o) j = bitI x j := by
  have hp := P2_pos j
  unfold bitI
  have e : P2 o = P2 j * (2 * P2 (o - j - 1)) := by
    rw [← P2_s, show o - j - 1 + 1 = o - j by omega, ← P2_add, show j + (o - j) = o by omega]
  rw [show ((2 ^ j : Nat) : Int) = P2 j from rfl, e, Int.add_mul_ediv_left _ _ (by omega)]
  omega
section SETS
variable {r : Int → Int} {s x : Int} {o : Nat}
theorem sbV_lo : ∀ j : Nat, j ≤ o → sbV r (x + P2 o) s j = sbV r x s j
  | 0, _ => rfl
  | j + 1, h => by
    have ih := sbV_lo j (by omega)
    have e : ∀ y, sbV r y s (j + 1) = if bitI y j ≠ 1 then sbV r y s j else afO r s (j : Int) (sbV r y s j) := fun _ => rfl
    rw [e, e, ih, bit_lo (by omega)]
theorem sbV_next (x0 : 0 ≤ x) (x1 : x < P2 o) : sbV r (x + P2 o) s (o + 1) = afO r s (o : Int) (sbV r x s o) := by
  have e : sbV r (x + P2 o) s (o + 1) = if bitI (x + P2 o) o ≠ 1 then sbV r (x + P2 o) s o else afO r s (o : Int) (sbV r (x + P2 o) s o) := rfl
  rw [e, if_neg (not_not_intro (bit_hi x0 x1)), sbV_lo o (Nat.le_refl _)]
theorem sbV_up (x0 : 0 ≤ x) (x1 : x < P2 o) : ∀ m : Nat, sbV r x s (o + m) = sbV r x s o
  | 0 => rfl
  | m + 1 => by
    have ih := sbV_up x0 x1 m
    have e : sbV r x s (o + (m + 1)) = if bitI x (o + m) ≠ 1 then sbV r x s (o + m) else afO r s ((o + m : Nat) : Int) (sbV r x s (o + m)) := rfl
    rw [e, if_pos (by rw [bit_no x0 x1 (by omega)]; decide), ih]
theorem sbV_all {N : Nat} (x0 : 0 ≤ x) (x1 : x < P2 o) (h : o ≤ N) : sbV r x s N = sbV r x s o := by
  have q := sbV_up (r := r) (s := s) x0 x1 (N - o)
  rw [show o + (N - o) = N by omega] at q
  exact q
def coV (r : Int → Int) (x : Int) : Nat → Int
  | 0 => 0
  | o + 1 => coV r x o + (if bitI x o ≠ 1 then 0 else r (770 + 4 * (o : Int) + 3))
theorem coV_le (hr : RowOk r) : ∀ o : Nat, (o : Int) ≤ r 9 → 0 ≤ coV r x o ∧ coV r x o ≤ 100 * o
  | 0, _ => ⟨Int.le_refl _, Int.le_refl _⟩
  | o + 1, h => by
    have ih := coV_le hr o (by omega)
    have q := hr.2.2.2.2.2.2.2.2.1 o (by omega) (by omega)
    show 0 ≤ coV r x o + (if bitI x o ≠ 1 then 0 else r (770 + 4 * (o : Int) + 3)) ∧ coV r x o + (if bitI x o ≠ 1 then 0 else r (770 + 4 * (o : Int) + 3)) ≤ 100 * ((o + 1 : Nat) : Int)
    split <;> omega
theorem coV_lo : ∀ j : Nat, j ≤ o → coV r (x + P2 o) j = coV r x j
  | 0, _ => rfl
  | j + 1, h => by
    have ih := coV_lo j (by omega)
    have e : ∀ y, coV r y (j + 1) = coV r y j + (if bitI y j ≠ 1 then 0 else r (770 + 4 * (j : Int) + 3)) := fun _ => rfl
    rw [e, e, ih, bit_lo (by omega)]
theorem coV_next (x0 : 0 ≤ x) (x1 : x < P2 o) : coV r (x + P2 o) (o + 1) = coV r x o + r (770 + 4 * (o : Int) + 3) := by
  have e : coV r (x + P2 o) (o + 1) = coV r (x + P2 o) o + (if bitI (x + P2 o) o ≠ 1 then 0 else r (770 + 4 * (o : Int) + 3)) := rfl
  rw [e, if_neg (not_not_intro (bit_hi x0 x1)), coV_lo o (Nat.le_refl _)]
theorem coV_up1 (x0 : 0 ≤ x) (x1 : x < P2 o) : coV r x (o + 1) = coV r x o := by
  have e : coV r x (o + 1) = coV r x o + (if bitI x o ≠ 1 then 0 else r (770 + 4 * (o : Int) + 3)) := rfl
  rw [e, if_pos (by rw [bit_no x0 x1 (Nat.le_refl _)]; decide), Int.add_zero]
end SETS
def Fr75 (n2 n : NM) : Prop := ∀ t : Nat, t ≠ 74 → t ≠ 75 → n2 t = n t
theorem Fr75.tr {n2 n3 : NM} (h : Fr75 n2 n) (h2 : Fr75 n3 n2) : Fr75 n3 n := fun t a b => (h2 t a b).trans (h t a b)
/-- the planner's rows: by story s, its first o offers done, k sets of the next -/
def SayI (r : Int → Int) (n2 : NM) (s : Nat) (o : Nat) (k : Int) : Prop :=
  (∀ x : Int, 0 ≤ x → x < P2 o → n2 74 x = sbV r x (s : Int) o ∧ n2 75 x = syV r x (s + 1)) ∧
  (∀ x : Int, P2 o ≤ x → x < P2 o + k → n2 74 x = sbV r x (s : Int) (o + 1) ∧ n2 75 x = syV r x (s + 1)) ∧
  (∀ x : Int, P2 o + k ≤ x → x < P2 (r 9).toNat → n2 75 x = syV r x s)
theorem s_withL {G : GM} {r : Int → Int} {s o : Nat} {n0 : NM} (hr : RowOk r) (hn : NumsOk r) (s1 : (s : Int) < r 7) (o1 : (o : Int) < r 9) : ∀ (m : Nat) (k : Int) (n2 : NM), 0 ≤ k → k + m = P2 o → SayI r n2 s o k → Fr75 n2 n0 → Rn w mX5_sayWith (d + 1) G (fun r2 h' => ∃ n1 : NM, r2 = none ∧ h' = (B0, n1) ∧ SayI r n1 s o (P2 o) ∧ Fr75 n1 n0) 52 [(0, vr 73), (4, vi (oddV r (s : Int) (-1))), (5, vi (1 * P2 o)), (6, vi (manyO r (s : Int) (o : Int))), (7, vi (100 - r (770 + 4 * (o : Int)))), (8, vi (100 - r (770 + 4 * (o : Int) + 2))), (9, vi k)] [] (B0, n2)
  | 0, k, n2, k0, hk, hI, f => by
    have ek : k = P2 o := by omega
    subst ek
    rw [Int.one_mul]
    exact gX5_sayWith_52 ⟨fun _ => ⟨_, rfl, rfl, hI, f⟩, fun z => absurd z (by omega)⟩
  | m + 1, k, n2, k0, hk, hI, f => by
    have h7 := hn.2.2.2.2.2.2.1
    have h9 := hn.2.2.2.2.2.2.2.2
    have q := hr.2.2.2.2.2.2.2.2.1 o (by omega) (by omega)
    have mo := manyO_le hr (o := (o : Int)) (s := (s : Int)) (by omega) s1
    have pl := P2_le (show o + 1 ≤ (r 9).toNat by omega)
    have p10 := P2_le (show (r 9).toNat ≤ 10 by omega)
    have p1024 : P2 10 = 1024 := rfl
    have ps := P2_s o
    have pp := P2_pos o
    have l := sbV_le hr (x := k) (s := (s : Int)) o (by omega)
    have sa := s_after (w := w) (d := d) (n := n2) (t := (manyO r (s : Int) (o : Int)).toNat) (p := 100 - r (770 + 4 * (o : Int))) (q := 100 - r (770 + 4 * (o : Int) + 2)) (x := sbV r k (s : Int) o) (by omega) (by omega) (by omega) (by omega) l.1 l.2 (by omega)
    rw [show (((manyO r (s : Int) (o : Int)).toNat : Nat) : Int) = manyO r (s : Int) (o : Int) by omega] at sa
    have la := afO_le hr (s := (s : Int)) (o := (o : Int)) (by omega) o1 l.1 l.2
    have od := oddV_le (r := r) (s := (s : Int)) (wo := -1)
    have sh := (shV_le od.1 od.2 la.1 la.2).2
    have sy := syV_le hr hn (x := k + P2 o) s
    have e75 := hI.2.2 (k + P2 o) (by omega) (by omega)
    have enx := sbV_next (r := r) (s := (s : Int)) k0 (show k < P2 o by omega)
    rw [Int.one_mul]
    refine gX5_sayWith_52 ⟨fun z => absurd z (by omega), fun _ => ⟨⟨by omega, by omega⟩, fun z => absurd z (by omega), fun _ => ⟨k0, by omega, ?_⟩⟩⟩
    rw [(hI.1 k k0 (by omega)).1]
    refine EI.use sa ⟨⟨by omega, by omega⟩, by omega, by omega, ⟨by omega, by omega⟩, by omega, by omega, EI.use (s_share (x := afO r (s : Int) (o : Int) (sbV r k (s : Int) o)) od.1 od.2 la.1 la.2) ?_⟩
    rw [e75]
    refine ⟨⟨by omega, by omega⟩, by omega, by omega, ⟨by omega, by omega⟩, ?_⟩
    have nxt := s_withL (G := G) (n0 := n0) hr hn s1 o1 m (k + 1) (upn (upn n2 74 (k + P2 o) (afO r (s : Int) (o : Int) (sbV r k (s : Int) o))) 75 (k + P2 o) (syV r (k + P2 o) s + shV (oddV r (s : Int) (-1)) (afO r (s : Int) (o : Int) (sbV r k (s : Int) o)))) (by omega) (by omega) ⟨fun x x0 x1 => ?_, fun x x0 x1 => ?_, fun x x0 x1 => ?_⟩ (fun t t0 t1 => by rw [upn_ne t1, upn_ne t0]; exact f t t0 t1)
    · rw [Int.one_mul] at nxt
      exact nxt
    · rw [upn_a (by decide), upn_i (by omega), upn_i (by omega), upn_a (by decide)]
      exact hI.1 x x0 x1
    · by_cases c : x = k + P2 o
      · subst c
        rw [upn_a (by decide), upn_self, upn_self]
        refine ⟨enx.symm, ?_⟩
        show _ = syV r (k + P2 o) s + shV (oddV r (s : Int) (-1)) (sbV r (k + P2 o) (s : Int) (r 9).toNat)
        rw [sbV_all (o := o + 1) (x := k + P2 o) (N := (r 9).toNat) (by omega) (by omega) (by omega), enx]
      · rw [upn_a (by decide), upn_i c, upn_i c, upn_a (by decide)]
        exact hI.2.1 x x0 (by omega)
    · rw [upn_i (by omega), upn_a (by decide)]
      exact hI.2.2 x (by omega) x1
theorem SayI.next {r : Int → Int} {n2 : NM} {s o : Nat} (h : SayI r n2 s o (P2 o)) : SayI r n2 s (o + 1) 0 := by
  have ps := P2_s o
  refine ⟨fun x x0 x1 => ?_, fun x x0 x1 => absurd x1 (by omega), fun x x0 x1 => h.2.2 x (by omega) x1⟩
  by_cases c : x < P2 o
  · have q := h.1 x x0 c
    exact ⟨by rw [sbV_all (o := o) x0 c (by omega)]; exact q.1, q.2⟩
  · exact h.2.1 x (by omega) (by omega)
theorem s_sayWith {s o : Nat} {n2 : NM} (f : FrP n2 n) (hL : LakeRel n 1 (n 147)) (hr : RowOk (n 147)) (hn : NumsOk (n 147)) (s1 : (s : Int) < n 147 7) (o1 : (o : Int) < n 147 9) (hI : SayI (n 147) n2 s o 0) : Ev w (d + 3) 0 0 mX5_sayWith [vr 73, vr 1, vi (o : Int), vi (s : Int), vi (oddV (n 147) (s : Int) (-1))] (B0, n2) (fun r h' => ∃ n1 : NM, r = none ∧ h' = (B0, n1) ∧ SayI (n 147) n1 s (o + 1) 0 ∧ Fr75 n1 n2) := by
  have h9 := hn.2.2.2.2.2.2.2.2
  have p2 : 1 ≤ P2 o ∧ P2 o ≤ 1024 := p2_le (show o ≤ 10 by omega)
  have eP : ((2 ^ o : Nat) : Int) = P2 o := rfl
  have q := hr.2.2.2.2.2.2.2.2.1 o (by omega) (by omega)
  have pp := P2_pos o
  refine EV.ofP (by decide +kernel) (Nat.le_of_ble_eq_true rfl) rfl (fun _ G => gX5_sayWith_0 ⟨o, rfl, by omega, ⟨by omega, by omega⟩, EI.use (s_ofG (d := d + 1) (p := 770 + 4 * (o : Int) + 1) hL (by omega) (by omega) (by decide) (by decide) rfl f) (EI.use (s_heardP f hL (by omega) s1) (EI.use (s_ofG (d := d + 1) (p := 770 + 4 * (o : Int)) hL (by omega) (by omega) (by decide) (by decide) (Int.add_zero _).symm f) ⟨⟨by omega, by omega⟩, EI.use (s_ofG (d := d + 1) (p := 770 + 4 * (o : Int) + 2) hL (by omega) (by omega) (by decide) (by decide) rfl f) ⟨⟨by omega, by omega⟩, ?_⟩⟩))⟩)
  have wl := s_withL (w := w) (d := d + 2) (G := G) (n0 := n2) hr hn s1 o1 (P2 o).toNat 0 n2 (Int.le_refl _) (by omega) hI (fun _ _ _ => rfl)
  refine Rn.weak (fun v h' t => ?_) wl
  obtain ⟨n1, t1, t2, t3, t4⟩ := t
  exact ⟨n1, t1, t2, t3.next, t4⟩
theorem Fr75.p {n2 : NM} (h : Fr75 n2 n) : FrP n2 n := fun t ht => h t (by omega) (by omega)
theorem WgQ.congr {r : Int → Int} {n2 : NM} (hn : NumsOk r) (h : ∀ t : Nat, 53 ≤ t → t ≤ 72 → n2 t = n t) (hW : WgQ r n) : WgQ r n2 := by
  have h7 := hn.2.2.2.2.2.2.1
  refine ⟨hW.1.congr (h 53 (by decide) (by decide)) (h 54 (by decide) (by decide)), fun j hj => ?_⟩
  have lj := natA_le (i := (j : Int)) (by omega) (by omega)
  exact (hW.2 j hj).congr (h _ (by omega) (by omega)) (h _ (by omega) (by omega))
theorem s_sayI {G : GM} {s : Nat} {Q : Option AV → Hp → Prop} (hL : LakeRel n 1 (n 147)) (hr : RowOk (n 147)) (hn : NumsOk (n 147)) (s1 : (s : Int) < n 147 7) (K : ∀ n3 : NM, FrP n3 n → WgQ (n 147) n3 → SayI (n 147) n3 s (n 147 9).toNat 0 → Rn w mX5_sayAll (d + 4) G Q 18 [(0, vr 73), (1, vr 1), (2, vr 51), (3, vi ((s : Int) + 1))] [] (B0, n3)) : ∀ (m o : Nat) (n2 : NM), (o : Int) + m = n 147 9 → FrP n2 n → WgQ (n 147) n2 → SayI (n 147) n2 s o 0 → Rn w mX5_sayAll (d + 4) G Q 39 [(0, vr 73), (1, vr 1), (2, vr 51), (3, vi (s : Int)), (4, vi (oddV (n 147) (s : Int) (-1))), (5, vi (o : Int))] [] (B0, n2)
  | 0, o, n2, ho, f, hW, hI => by
    have h7 := hn.2.2.2.2.2.2.1
    have e25 : n2 25 3 = n 147 9 := by
      rw [f 25 (by decide)]
      exact hL.2.2.2.2.2.2.2.2.2.2.1.2.1
    have eo : (n 147 9).toNat = o := by omega
    exact gX5_sayAll_39 (EI.use (s_size ob_25 (c := 26) rfl ob_26) ⟨fun _ => ⟨⟨by omega, by omega⟩, K n2 f hW (by rw [eo]; exact hI)⟩, fun z => absurd z (by omega)⟩)
  | m + 1, o, n2, ho, f, hW, hI => by
    have h9 := hn.2.2.2.2.2.2.2.2
    have e25 : n2 25 3 = n 147 9 := by
      rw [f 25 (by decide)]
      exact hL.2.2.2.2.2.2.2.2.2.2.1.2.1
    exact gX5_sayAll_39 (EI.use (s_size ob_25 (c := 26) rfl ob_26) ⟨fun z => absurd z (by omega), fun _ => EV.usP (s_sayWith (d := d) f hL hr hn s1 (by omega) hI) (fun n3 z => ⟨⟨by omega, by omega⟩, s_sayI hL hr hn s1 K m (o + 1) n3 (by omega) (f.tr z.2.p) (hW.congr hn (fun t t0 t1 => z.2 t (by omega) (by omega))) z.1⟩)⟩)
/-- what the planner says -/
def SaidI (r : Int → Int) (n2 : NM) (s : Nat) : Prop := n2 74 0 = 1000000 ∧ ∀ x : Int, 0 ≤ x → x < P2 (r 9).toNat → n2 75 x = syV r x s
theorem sy0 {r : Int → Int} {s : Nat} : syV r 0 (s + 1) = syV r 0 s := by
  show syV r 0 s + shV (oddV r (s : Int) (-1)) (sbV r 0 (s : Int) (r 9).toNat) = _
  rw [sbV_all (o := 0) (Int.le_refl _) (by decide) (by omega)]
  show syV r 0 s + (oddV r (s : Int) (-1) * (1000000 - 1000000)) / 1000000 = _
  rw [Int.sub_self, Int.mul_zero]
  show syV r 0 s + 0 = _
  omega
theorem s_sayL {G : GM} (hL : LakeRel n 1 (n 147)) (hr : RowOk (n 147)) (hn : NumsOk (n 147)) : ∀ (m s : Nat) (n2 : NM), (s : Int) + m = n 147 7 → FrP n2 n → WgQ (n 147) n2 → SaidI (n 147) n2 s → Rn w mX5_sayAll (d + 4) G (fun r h' => ∃ n1 : NM, r = none ∧ h' = (B0, n1) ∧ FrP n1 n ∧ SaidI (n 147) n1 (n 147 7).toNat) 18 [(0, vr 73), (1, vr 1), (2, vr 51), (3, vi (s : Int))] [] (B0, n2)
  | 0, s, n2, hs, f, hW, hI => by
    have e21 : n2 21 3 = n 147 7 := by
      rw [f 21 (by decide)]
      exact hL.2.2.2.2.2.2.2.2.1.2.1
    exact gX5_sayAll_18 (EI.use (s_size ob_21 (c := 22) rfl ob_22) ⟨fun _ => ⟨_, rfl, rfl, f, by rw [show (n 147 7).toNat = s by omega]; exact hI⟩, fun z => absurd z (by omega)⟩)
  | m + 1, s, n2, hs, f, hW, hI => by
    have h7 := hn.2.2.2.2.2.2.1
    have h9 := hn.2.2.2.2.2.2.2.2
    have pp := P2_pos (n 147 9).toNat
    have e21 : n2 21 3 = n 147 7 := by
      rw [f 21 (by decide)]
      exact hL.2.2.2.2.2.2.2.2.1.2.1
    refine gX5_sayAll_18 (EI.use (s_size ob_21 (c := 22) rfl ob_22) ⟨fun z => absurd z (by omega), fun _ => EI.usP (s_oddsQ (d := d + 1) f hr hn hW (by omega) (by omega)) (fun y n3 z => ?_)⟩)
    obtain ⟨rfl, z1, z2⟩ := z
    refine s_sayI hL hr hn (by omega) (fun n4 f4 w4 i4 => ?_) (n 147 9).toNat 0 n3 (by omega) (f.tr z2.p) z1 ⟨fun x x0 x1 => ?_, fun x x0 x1 => absurd x1 (by omega), fun x x0 x1 => ?_⟩
    · refine s_sayL hL hr hn m (s + 1) n4 (by omega) f4 w4 ⟨?_, fun x x0 x1 => (i4.1 x x0 x1).2⟩
      rw [(i4.1 0 (Int.le_refl _) pp).1]
      exact sbV_all (o := 0) (Int.le_refl _) (by decide) (by omega)
    · have ex : x = 0 := by
        have : x < 1 := x1
        omega
      subst ex
      rw [z2 74 (by decide), z2 75 (by decide), hI.1, hI.2 0 (Int.le_refl _) pp, sy0]
      exact ⟨rfl, rfl⟩
    · rw [z2 75 (by decide)]
      refine hI.2 x ?_ x1
      have : P2 0 = 1 := rfl
      omega
theorem s_sayAll {n2 : NM} (f : FrP n2 n) (hL : LakeRel n 1 (n 147)) (hr : RowOk (n 147)) (hn : NumsOk (n 147)) (hW : WgQ (n 147) n2) : Ev w (d + 4) 0 0 mX5_sayAll [vr 73, vr 1, vr 51] (B0, n2) (fun r h' => ∃ n1 : NM, r = none ∧ h' = (B0, n1) ∧ FrP n1 n ∧ SaidI (n 147) n1 (n 147 7).toNat) := by
  have h7 := hn.2.2.2.2.2.2.1
  have h9 := hn.2.2.2.2.2.2.2.2
  have p10 := P2_le (show (n 147 9).toNat ≤ 10 by omega)
  have p1024 : P2 10 = 1024 := rfl
  have fa : EV w (d + 3) mJ7_fill_53178 [vr 75, vi 0] B0 n2 (wrow n2 75 0 1024 (fun _ => 0)) := by
    refine EV.of (by decide +kernel) (Nat.le_of_ble_eq_true rfl) rfl (fun _ G => gJ7_fill_53178_0 ob_75 ⟨⟨by decide, by decide⟩, ?_⟩)
    have := s_fillL (w := w) (d := d + 3) (G := G) (n := n2) (x := 0) ob_75 (by decide) 1024 0 rfl
    rw [show wrow n2 75 0 ((0 : Nat) : Int) (fun _ => 0) = n2 from wrow_0] at this
    exact this
  have e : ∀ t : Nat, t ≠ 74 → t ≠ 75 → (upn (wrow n2 75 0 1024 (fun _ => 0)) 74 0 1000000) t = n2 t := fun t a b => by rw [upn_ne a, wrow_ne b]
  refine EV.ofP (by decide +kernel) (Nat.le_of_ble_eq_true rfl) rfl (fun _ G => gX5_sayAll_0 (EV.use fa (s_sayL hL hr hn (n 147 7).toNat 0 _ (by omega) (f.tr (fun t ht => e t (by omega) (by omega))) (hW.congr hn (fun t t0 t1 => e t (by omega) (by omega))) ⟨upn_self _ _ _ _, fun x x0 x1 => ?_⟩)))
  rw [upn_a (by decide), wrow_in x0 (by omega)]
  rfl
/-- what the planner's costs hold: o offers done, k sets of the next -/
def CosI (r : Int → Int) (n2 : NM) (o : Nat) (k : Int) : Prop := (∀ x : Int, 0 ≤ x → x < P2 o → n2 76 x = coV r x o) ∧ ∀ x : Int, P2 o ≤ x → x < P2 o + k → n2 76 x = coV r x (o + 1)
theorem CosI.next {r : Int → Int} {n2 : NM} {o : Nat} (h : CosI r n2 o (P2 o)) : CosI r n2 (o + 1) 0 := by
  have ps := P2_s o
  refine ⟨fun x x0 x1 => ?_, fun x x0 x1 => absurd x1 (by omega)⟩
  by_cases c : x < P2 o
  · rw [coV_up1 x0 c]
    exact h.1 x x0 c
  · exact h.2 x (by omega) (by omega)
theorem s_costI {G : GM} {o : Nat} {Q : Option AV → Hp → Prop} {n0 : NM} (f : FrP n0 n) (hL : LakeRel n 1 (n 147)) (hr : RowOk (n 147)) (hn : NumsOk (n 147)) (o1 : (o : Int) < n 147 9) (K : ∀ n3 : NM, Fr1 76 n3 n0 → CosI (n 147) n3 (o + 1) 0 → Rn w mX5_costAll (d + 2) G Q 9 [(0, vr 73), (1, vr 1), (2, vi ((o : Int) + 1))] [] (B0, n3)) : ∀ (m : Nat) (k : Int) (n2 : NM), 0 ≤ k → k + m = P2 o → Fr1 76 n2 n0 → CosI (n 147) n2 o k → Rn w mX5_costAll (d + 2) G Q 27 [(0, vr 73), (1, vr 1), (2, vi (o : Int)), (3, vi (1 * P2 o)), (4, vi k)] [] (B0, n2)
  | 0, k, n2, k0, hk, f2, hI => by
    have h9 := hn.2.2.2.2.2.2.2.2
    have ek : k = P2 o := by omega
    subst ek
    rw [Int.one_mul]
    exact gX5_costAll_27 ⟨fun _ => ⟨⟨by omega, by omega⟩, K n2 f2 hI.next⟩, fun z => absurd z (by omega)⟩
  | m + 1, k, n2, k0, hk, f2, hI => by
    have h9 := hn.2.2.2.2.2.2.2.2
    have q := hr.2.2.2.2.2.2.2.2.1 o (by omega) (by omega)
    have pl := P2_le (show o + 1 ≤ (n 147 9).toNat by omega)
    have p10 := P2_le (show (n 147 9).toNat ≤ 10 by omega)
    have p1024 : P2 10 = 1024 := rfl
    have ps := P2_s o
    have pp := P2_pos o
    have co := coV_le hr (x := k) o (by omega)
    have f3 : FrP n2 n := f.tr (fun t ht => f2 t (by omega))
    rw [Int.one_mul]
    refine gX5_costAll_27 ⟨fun z => absurd z (by omega), fun _ => ⟨⟨by omega, by omega⟩, fun z => absurd z (by omega), fun _ => ⟨⟨by omega, by omega⟩, k0, by omega, EI.use (s_ofG (d := d) (p := 770 + 4 * (o : Int) + 3) hL (by omega) (by omega) (by decide) (by decide) rfl f3) ?_⟩⟩⟩
    rw [hI.1 k k0 (by omega)]
    refine ⟨⟨by omega, by omega⟩, by omega, by omega, ⟨by omega, by omega⟩, ?_⟩
    have nxt := s_costI (G := G) f hL hr hn o1 K m (k + 1) (upn n2 76 (k + P2 o) (coV (n 147) k o + n 147 (770 + 4 * (o : Int) + 3))) (by omega) (by omega) (fun t ht => (upn_ne ht).trans (f2 t ht)) ⟨fun x x0 x1 => ?_, fun x x0 x1 => ?_⟩
    · rw [Int.one_mul] at nxt
      exact nxt
    · rw [upn_i (by omega)]
      exact hI.1 x x0 x1
    · by_cases c : x = k + P2 o
      · subst c
        rw [upn_self, coV_next k0 (by omega)]
      · rw [upn_i c]
        exact hI.2 x x0 (by omega)
theorem s_costL {G : GM} {n0 : NM} (f : FrP n0 n) (hL : LakeRel n 1 (n 147)) (hr : RowOk (n 147)) (hn : NumsOk (n 147)) : ∀ (m o : Nat) (n2 : NM), (o : Int) + m = n 147 9 → Fr1 76 n2 n0 → CosI (n 147) n2 o 0 → Rn w mX5_costAll (d + 2) G (fun r h' => ∃ n1 : NM, r = none ∧ h' = (B0, n1) ∧ Fr1 76 n1 n0 ∧ CosI (n 147) n1 (n 147 9).toNat 0) 9 [(0, vr 73), (1, vr 1), (2, vi (o : Int))] [] (B0, n2)
  | 0, o, n2, ho, f2, hI => by
    have e25 : n2 25 3 = n 147 9 := by
      rw [f2 25 (by decide), f 25 (by decide)]
      exact hL.2.2.2.2.2.2.2.2.2.2.1.2.1
    exact gX5_costAll_9 (EI.use (s_size ob_25 (c := 26) rfl ob_26) ⟨fun _ => ⟨_, rfl, rfl, f2, by rw [show (n 147 9).toNat = o by omega]; exact hI⟩, fun z => absurd z (by omega)⟩)
  | m + 1, o, n2, ho, f2, hI => by
    have h9 := hn.2.2.2.2.2.2.2.2
    have p2 : 1 ≤ P2 o ∧ P2 o ≤ 1024 := p2_le (show o ≤ 10 by omega)
    have eP : ((2 ^ o : Nat) : Int) = P2 o := rfl
    have pp := P2_pos o
    have e25 : n2 25 3 = n 147 9 := by
      rw [f2 25 (by decide), f 25 (by decide)]
      exact hL.2.2.2.2.2.2.2.2.2.2.1.2.1
    exact gX5_costAll_9 (EI.use (s_size ob_25 (c := 26) rfl ob_26) ⟨fun z => absurd z (by omega), fun _ => ⟨o, rfl, by omega, ⟨by omega, by omega⟩, s_costI f hL hr hn (by omega) (fun n3 f3 i3 => s_costL f hL hr hn m (o + 1) n3 (by omega) f3 i3) (P2 o).toNat 0 n2 (Int.le_refl _) (by omega) f2 hI⟩⟩)
theorem s_costAll {n2 : NM} (f : FrP n2 n) (hL : LakeRel n 1 (n 147)) (hr : RowOk (n 147)) (hn : NumsOk (n 147)) : Ev w (d + 2) 0 0 mX5_costAll [vr 73, vr 1] (B0, n2) (fun r h' => ∃ n1 : NM, r = none ∧ h' = (B0, n1) ∧ Fr1 76 n1 n2 ∧ CosI (n 147) n1 (n 147 9).toNat 0) := by
  have h9 := hn.2.2.2.2.2.2.2.2
  refine EV.ofP (by decide +kernel) (Nat.le_of_ble_eq_true rfl) rfl (fun _ G => gX5_costAll_0 (s_costL f hL hr hn (n 147 9).toNat 0 _ (by omega) (fun t ht => upn_ne ht) ⟨fun x x0 x1 => ?_, fun x x0 x1 => absurd x1 (by omega)⟩))
  have ex : x = 0 := by
    have : x < 1 := x1
    omega
  rw [ex, upn_self]
  rfl
/-- the best set of the first k + 1 -/
def plF (r : Int → Int) (co : Int) : Nat → Int
  | 0 => 0
  | k + 1 => if co < coV r ((k : Int) + 1) (r 9).toNat then plF r co k else if syV r (plF r co k) (r 7).toNat < syV r ((k : Int) + 1) (r 7).toNat ∨ (syV r ((k : Int) + 1) (r 7).toNat = syV r (plF r co k) (r 7).toNat ∧ coV r ((k : Int) + 1) (r 9).toNat < coV r (plF r co k) (r 9).toNat) then (k : Int) + 1 else plF r co k
theorem plF_le {r : Int → Int} {co : Int} : ∀ k : Nat, 0 ≤ plF r co k ∧ plF r co k ≤ k
  | 0 => ⟨Int.le_refl _, Int.le_refl _⟩
  | k + 1 => by
    have ih := plF_le (r := r) (co := co) k
    have e : plF r co (k + 1) = if co < coV r ((k : Int) + 1) (r 9).toNat then plF r co k else if syV r (plF r co k) (r 7).toNat < syV r ((k : Int) + 1) (r 7).toNat ∨ (syV r ((k : Int) + 1) (r 7).toNat = syV r (plF r co k) (r 7).toNat ∧ coV r ((k : Int) + 1) (r 9).toNat < coV r (plF r co k) (r 9).toNat) then (k : Int) + 1 else plF r co k := rfl
    rw [e]
    split
    · omega
    · split <;> omega
theorem s_bestL {G : GM} {co : Int} {n2 : NM} (f : FrP n2 n) (hL : LakeRel n 1 (n 147)) (hn : NumsOk (n 147)) (hS : ∀ x : Int, 0 ≤ x → x < P2 (n 147 9).toNat → n2 75 x = syV (n 147) x (n 147 7).toNat ∧ n2 76 x = coV (n 147) x (n 147 9).toNat) : ∀ (m k : Nat), (k : Int) + 1 + m = P2 (n 147 9).toNat → Rn w mX5_bestFor (d + 1) G (fun r h' => ∃ (x1 : Int) (n1 : NM), r = some (vi x1) ∧ h' = (B0, n1) ∧ x1 = plF (n 147) co (P2 (n 147 9).toNat - 1).toNat ∧ FrP n1 n) 17 [(0, vr 73), (1, vr 1), (3, vi co), (4, vi (plF (n 147) co k)), (5, vi ((k : Int) + 1))] [] (B0, n2)
  | 0, k, hk => by
    have h9 := hn.2.2.2.2.2.2.2.2
    have p2 : 1 ≤ P2 (n 147 9).toNat ∧ P2 (n 147 9).toNat ≤ 1024 := p2_le (show (n 147 9).toNat ≤ 10 by omega)
    have eP : ((2 ^ (n 147 9).toNat : Nat) : Int) = P2 (n 147 9).toNat := rfl
    have e25 : n2 25 3 = n 147 9 := by
      rw [f 25 (by decide)]
      exact hL.2.2.2.2.2.2.2.2.2.2.1.2.1
    have ek : (P2 (n 147 9).toNat - 1).toNat = k := by omega
    rw [ek]
    exact gX5_bestFor_17 ⟨fun _ => ⟨_, _, rfl, rfl, rfl, f⟩, fun _ => EI.use (s_size ob_25 (c := 26) rfl ob_26) ⟨(n 147 9).toNat, by omega, by omega, ⟨by omega, by omega⟩, fun _ => ⟨_, _, rfl, rfl, rfl, f⟩, fun z => absurd z (by omega)⟩⟩
  | m + 1, k, hk => by
    have h9 := hn.2.2.2.2.2.2.2.2
    have p2 : 1 ≤ P2 (n 147 9).toNat ∧ P2 (n 147 9).toNat ≤ 1024 := p2_le (show (n 147 9).toNat ≤ 10 by omega)
    have eP : ((2 ^ (n 147 9).toNat : Nat) : Int) = P2 (n 147 9).toNat := rfl
    have e25 : n2 25 3 = n 147 9 := by
      rw [f 25 (by decide)]
      exact hL.2.2.2.2.2.2.2.2.2.2.1.2.1
    have pl := plF_le (r := n 147) (co := co) k
    have nxt := s_bestL (G := G) (co := co) f hL hn hS m (k + 1) (by omega)
    have e : plF (n 147) co (k + 1) = if co < coV (n 147) ((k : Int) + 1) (n 147 9).toNat then plF (n 147) co k else if syV (n 147) (plF (n 147) co k) (n 147 7).toNat < syV (n 147) ((k : Int) + 1) (n 147 7).toNat ∨ (syV (n 147) ((k : Int) + 1) (n 147 7).toNat = syV (n 147) (plF (n 147) co k) (n 147 7).toNat ∧ coV (n 147) ((k : Int) + 1) (n 147 9).toNat < coV (n 147) (plF (n 147) co k) (n 147 9).toNat) then (k : Int) + 1 else plF (n 147) co k := rfl
    have hx := hS ((k : Int) + 1) (by omega) (by omega)
    have hb := hS (plF (n 147) co k) pl.1 (by omega)
    refine gX5_bestFor_17 ⟨fun z => absurd z (by omega), fun _ => EI.use (s_size ob_25 (c := 26) rfl ob_26) ⟨(n 147 9).toNat, by omega, by omega, ⟨by omega, by omega⟩, fun z => absurd z (by omega), fun _ => ?_⟩⟩
    rw [hx.1, hx.2, hb.1, hb.2]
    refine ⟨by omega, by omega, pl.1, by omega, fun _ => by omega, fun _ => by omega, fun _ => pl.1, fun _ => by omega, fun _ _ => by omega, fun _ _ => by omega, fun _ _ => pl.1, fun _ _ => by omega, fun z1 e1 => ⟨by omega, by omega, fun z2 e2 => ⟨⟨by omega, by omega⟩, ?_⟩⟩⟩
    have ez : z2 = plF (n 147) co (k + 1) := by
      rw [e, e2]
      by_cases c1 : co < coV (n 147) ((k : Int) + 1) (n 147 9).toNat
      · rw [if_pos c1, if_pos c1]
      · rw [if_neg c1, if_neg c1]
        by_cases c2 : syV (n 147) (plF (n 147) co k) (n 147 7).toNat < syV (n 147) ((k : Int) + 1) (n 147 7).toNat
        · rw [if_pos c2] at e1
          rw [if_neg (by omega), if_pos (Or.inl c2)]
        · rw [if_neg c2] at e1
          by_cases c3 : syV (n 147) ((k : Int) + 1) (n 147 7).toNat = syV (n 147) (plF (n 147) co k) (n 147 7).toNat
          · rw [if_neg (not_not_intro c3)] at e1
            by_cases c4 : coV (n 147) (plF (n 147) co k) (n 147 9).toNat ≤ coV (n 147) ((k : Int) + 1) (n 147 9).toNat
            · rw [if_pos c4] at e1
              rw [if_pos e1, if_neg (by omega)]
            · rw [if_neg c4] at e1
              rw [if_neg (by omega), if_pos (Or.inr ⟨c3, by omega⟩)]
          · rw [if_pos c3] at e1
            rw [if_pos e1, if_neg (by omega)]
    rw [ez]
    exact nxt
theorem s_bestFor {co : Int} {n2 : NM} (f : FrP n2 n) (hL : LakeRel n 1 (n 147)) (hr : RowOk (n 147)) (hn : NumsOk (n 147)) (hW : WgQ (n 147) n2) : Ev w (d + 5) 0 0 mX5_bestFor [vr 73, vr 1, vr 51, vi co] (B0, n2) (fun r h' => ∃ (x1 : Int) (n1 : NM), r = some (vi x1) ∧ h' = (B0, n1) ∧ x1 = plF (n 147) co (P2 (n 147 9).toNat - 1).toNat ∧ FrP n1 n) := by
  have pp := P2_pos (n 147 9).toNat
  refine EI.ofP (by decide +kernel) (Nat.le_of_ble_eq_true rfl) rfl (fun _ G => gX5_bestFor_0 (EV.usP (s_sayAll (d := d) f hL hr hn hW) (fun n3 z => EV.usP (s_costAll (d := d + 2) z.1 hL hr hn) (fun n4 u => ?_))))
  have f4 : FrP n4 n := z.1.tr (fun t ht => u.1 t (by omega))
  have q := s_bestL (w := w) (d := d + 4) (G := G) (co := co) f4 hL hn (fun x x0 x1 => ⟨by rw [u.1 75 (by decide)]; exact z.2.2 x x0 x1, u.2.1 x x0 x1⟩) (P2 (n 147 9).toNat - 1).toNat 0 (by omega)
  exact q
/-! the reference -/
theorem m_costL {G : GM} {x : Int} (hr : RowOk (n 147)) (hn : NumsOk (n 147)) : ∀ (m o : Nat), (o : Int) + m = n 147 9 → Rn w mX12_costOf d G (fun r h' => r = some (vi (coV (n 147) x (n 147 9).toNat)) ∧ h' = (B0, n)) 4 [(0, vr 145), (1, vi x), (2, vi (coV (n 147) x o)), (3, vi (o : Int))] [] (B0, n)
  | 0, o, ho => gX12_costOf_4 ⟨fun _ => ⟨by rw [show (n 147 9).toNat = o by omega], rfl⟩, fun z => absurd z (by omega)⟩
  | m + 1, o, ho => by
    have h9 := hn.2.2.2.2.2.2.2.2
    have co := coV_le hr (x := x) o (by omega)
    have q := hr.2.2.2.2.2.2.2.2.1 o (by omega) (by omega)
    have nxt := m_costL (G := G) (x := x) hr hn m (o + 1) (by omega)
    have e : coV (n 147) x (o + 1) = coV (n 147) x o + (if bitI x o ≠ 1 then 0 else n 147 (770 + 4 * (o : Int) + 3)) := rfl
    rw [e] at nxt
    refine gX12_costOf_4 ⟨fun z => absurd z (by omega), fun _ => ⟨o, rfl, by omega, fun _ => ⟨by omega, by omega⟩, fun _ => ⟨by omega, by omega⟩, fun _ => ⟨by omega, by omega⟩, fun _ => by omega, fun _ => by omega, fun z ez => ⟨⟨?_, ?_⟩, ⟨by omega, by omega⟩, ?_⟩⟩⟩
    · rw [ez]
      split <;> omega
    · rw [ez]
      split <;> omega
    · rw [ez]
      exact nxt
theorem m_costOf {x : Int} {n2 : NM} (e147 : n2 147 = n 147) (hr : RowOk (n 147)) (hn : NumsOk (n 147)) : EI w d mX12_costOf [vr 145, vi x] B0 n2 (coV (n 147) x (n 147 9).toNat) n2 := by
  have h9 := hn.2.2.2.2.2.2.2.2
  have q := fun G : GM => m_costL (w := w) (d := d) (G := G) (n := n2) (x := x) (by rw [e147]; exact hr) (by rw [e147]; exact hn) (n 147 9).toNat 0 (by rw [e147]; omega)
  rw [e147] at q
  exact EI.of (by decide +kernel) (Nat.le_of_ble_eq_true rfl) rfl (fun _ G => gX12_costOf_0 (q G))
theorem m_planL {G : GM} {co : Int} {n2 : NM} (e147 : n2 147 = n 147) (hr : RowOk (n 147)) (hn : NumsOk (n 147)) (hv : ∀ j : Int, 0 ≤ j → j < n 147 7 → n2 163 j = oddV (n 147) j (-1)) : ∀ (m k : Nat), (k : Int) + 1 + m = P2 (n 147 9).toNat → Rn w mX12_plan (d + 2) G (fun r h' => r = some (vi (plF (n 147) co (P2 (n 147 9).toNat - 1).toNat)) ∧ h' = (B0, n2)) 34 [(0, vr 145), (1, vi co), (2, vi (plF (n 147) co k)), (3, vi (syV (n 147) (plF (n 147) co k) (n 147 7).toNat)), (4, vi ((k : Int) + 1))] [] (B0, n2)
  | 0, k, hk => by
    have h9 := hn.2.2.2.2.2.2.2.2
    have p2 : 1 ≤ P2 (n 147 9).toNat ∧ P2 (n 147 9).toNat ≤ 1024 := p2_le (show (n 147 9).toNat ≤ 10 by omega)
    have eP : ((2 ^ (n 147 9).toNat : Nat) : Int) = P2 (n 147 9).toNat := rfl
    have ek : (P2 (n 147 9).toNat - 1).toNat = k := by omega
    rw [ek]
    exact gX12_plan_34 ⟨(n 147 9).toNat, by rw [e147]; omega, by omega, ⟨by omega, by omega⟩, fun _ => ⟨rfl, rfl⟩, fun z => absurd z (by omega)⟩
  | m + 1, k, hk => by
    have h9 := hn.2.2.2.2.2.2.2.2
    have p2 : 1 ≤ P2 (n 147 9).toNat ∧ P2 (n 147 9).toNat ≤ 1024 := p2_le (show (n 147 9).toNat ≤ 10 by omega)
    have eP : ((2 ^ (n 147 9).toNat : Nat) : Int) = P2 (n 147 9).toNat := rfl
    have sy := syV_le hr hn (x := plF (n 147) co k) (n 147 7).toNat
    have nxt := m_planL (G := G) (co := co) e147 hr hn hv m (k + 1) (by omega)
    have e : plF (n 147) co (k + 1) = if co < coV (n 147) ((k : Int) + 1) (n 147 9).toNat then plF (n 147) co k else if syV (n 147) (plF (n 147) co k) (n 147 7).toNat < syV (n 147) ((k : Int) + 1) (n 147 7).toNat ∨ (syV (n 147) ((k : Int) + 1) (n 147 7).toNat = syV (n 147) (plF (n 147) co k) (n 147 7).toNat ∧ coV (n 147) ((k : Int) + 1) (n 147 9).toNat < coV (n 147) (plF (n 147) co k) (n 147 9).toNat) then (k : Int) + 1 else plF (n 147) co k := rfl
    rw [e] at nxt
    refine gX12_plan_34 ⟨(n 147 9).toNat, by rw [e147]; omega, by omega, ⟨by omega, by omega⟩, fun z => absurd z (by omega), fun _ => EI.use (m_costOf e147 hr hn) ⟨fun c1 => ?_, fun c1 => EI.use (m_saysOf e147 hr hn hv) ?_⟩⟩
    · rw [if_pos c1] at nxt
      exact gX12_plan_72 ⟨fun z => absurd z (by omega), fun _ => ⟨fun _ => ⟨⟨by omega, by omega⟩, nxt⟩, fun z => absurd z (by omega)⟩⟩
    · rw [if_neg (by omega)] at nxt
      refine gX12_plan_72 ⟨fun c2 => ⟨⟨by omega, by omega⟩, ?_⟩, fun c2 => ⟨fun c3 => ⟨⟨by omega, by omega⟩, ?_⟩, fun c3 => EI.use (m_costOf e147 hr hn) (fun z1 z2 e1 e2 => ⟨⟨by omega, by omega⟩, ?_⟩)⟩⟩
      · rw [if_pos (Or.inl c2)] at nxt
        exact nxt
      · rw [if_neg (by omega)] at nxt
        exact nxt
      · by_cases c4 : coV (n 147) (plF (n 147) co k) (n 147 9).toNat ≤ coV (n 147) ((k : Int) + 1) (n 147 9).toNat
        · rw [if_pos c4] at e1 e2
          rw [if_neg (by omega)] at nxt
          rw [e1, e2]
          exact nxt
        · rw [if_neg c4] at e1 e2
          rw [if_pos (Or.inr ⟨c3, by omega⟩)] at nxt
          rw [e1, e2]
          exact nxt
theorem st_plan {k : Int} (h : Rel k n) (x1 : Int) : LS2 w (d + 9) k n mX11_plan [vi x1] mX12_plan [vi x1] := by
  have hn := h.numsOk
  have h7 := hn.2.2.2.2.2.2.1
  have h9 := hn.2.2.2.2.2.2.2.2
  have pp := P2_pos (n 147 9).toNat
  refine ⟨if 0 ≤ x1 ∧ x1 ≤ 1000 then plF (n 147) x1 (P2 (n 147 9).toNat - 1).toNat else -1, fun n1 => FrP n1 n, ?_, ?_⟩
  · refine EI.ofP (by decide +kernel) (Nat.le_of_ble_eq_true rfl) rfl (fun _ G => gX11_plan_0 (EI.use (s_within _ _ _) (ite10 (fun c => EV.usP (s_weigh (d := d + 4) (wo := -1) h.1 h.2.1 hn FrS.rf) (fun n1 z => EI.usP (s_bestFor (d := d + 3) z.1.p h.1 h.2.1 hn ⟨z.2.1, z.2.2⟩) (fun y n2 u => ⟨_, _, rfl, rfl, ?_, u.2⟩))) (fun c => ⟨_, _, rfl, rfl, ?_, FrP.rf⟩))))
    · rw [if_pos c]
      exact u.1
    · rw [if_neg c]
  · intro n1 f
    have e1 : n1 147 = n 147 := f 147 (by decide)
    have e147 : (upn n1 145 0 0) 147 = n 147 := (upn_ne (by decide)).trans e1
    have hz : FrZ (upn n1 145 0 0) n := f.z.tr FrZ.z
    have fin : ∀ n2, FrZ n2 n → Rel (k + 1) n2 := fun n2 g => (h.scr g).le (by omega)
    refine EI.ofP (by decide +kernel) (Nat.le_of_ble_eq_true rfl) rfl (fun _ G => gX12_plan_0 (EI.use (m_in _ _ _) (ite10 (fun c => EV.usP (m_findOdds (d := d + 4) (n0 := n) h.2.1 hn e147) (fun n2 z => EI.use (m_saysOf (n := n) ((z.1 147 (by decide)).trans e147) h.2.1 hn z.2) ?_)) (fun c => ⟨_, _, rfl, rfl, ?_, fin _ hz⟩))))
    · have q := m_planL (w := w) (d := d + 7) (G := G) (n := n) (n2 := n2) (co := x1) ((z.1 147 (by decide)).trans e147) h.2.1 hn z.2 (P2 (n 147 9).toNat - 1).toNat 0 (by omega)
      refine Rn.weak (fun v h' t => ⟨_, _, t.1, t.2, ?_, fin _ (hz.tr ⟨fun t a => z.1 t (by omega), fun j _ => by rw [z.1 145 (by decide)]⟩)⟩) q
      rw [if_pos c]
    · rw [if_neg c]
end PLAN
