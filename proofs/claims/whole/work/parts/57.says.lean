section SAYS
variable {w : WD} {d : Nat} {n : NM}
/-- what is left of x behind so many times p through 100 -/
def saI (p x : Int) : Nat → Int
  | 0 => x
  | k + 1 => (saI p x k * p) / 100
theorem saI_le {p x : Int} (p0 : 0 ≤ p) (p1 : p ≤ 100) (x0 : 0 ≤ x) (x1 : x ≤ 1000000) : ∀ k : Nat, 0 ≤ saI p x k ∧ saI p x k ≤ 1000000
  | 0 => ⟨x0, x1⟩
  | k + 1 => by
    have ih := saI_le p0 p1 x0 x1 k
    have h1 : saI p x k * p ≤ saI p x k * 100 := Int.mul_le_mul_of_nonneg_left p1 ih.1
    have h2 : 0 ≤ saI p x k * p := Int.mul_nonneg ih.1 p0
    show 0 ≤ (saI p x k * p) / 100 ∧ (saI p x k * p) / 100 ≤ 1000000
    omega
theorem saI_0 {p x : Int} {k : Nat} (h : saI p x k = 0) : ∀ m : Nat, saI p x (k + m) = 0
  | 0 => h
  | m + 1 => by
    show (saI p x (k + m) * p) / 100 = 0
    rw [saI_0 h m, Int.zero_mul]
    rfl
def afI (p q x : Int) (k : Nat) : Int := (saI p x k * q) / 100
theorem afI_le {p q x : Int} (p0 : 0 ≤ p) (p1 : p ≤ 100) (q0 : 0 ≤ q) (q1 : q ≤ 100) (x0 : 0 ≤ x) (x1 : x ≤ 1000000) (k : Nat) : (0 ≤ saI p x k * q ∧ saI p x k * q ≤ 100000000) ∧ 0 ≤ afI p q x k ∧ afI p q x k ≤ 1000000 := by
  have h := saI_le p0 p1 x0 x1 k
  have h1 := mulb h.1 h.2 q0 q1
  unfold afI
  omega
theorem s_afterL {G : GM} {t : Nat} {p q x : Int} (p0 : 0 ≤ p) (p1 : p ≤ 100) (q0 : 0 ≤ q) (q1 : q ≤ 100) (x0 : 0 ≤ x) (x1 : x ≤ 1000000) (ht : t ≤ 100) : ∀ (m k : Nat), k + m = t → Rn w mX5_silentAfter d G (fun r h' => r = some (vi (afI p q x t)) ∧ h' = (B0, n)) 6 [(1, vi (t : Int)), (2, vi p), (3, vi q), (4, vi (saI p x k)), (5, vi (k : Int))] [] (B0, n)
  | 0, k, hk => by
    have e : k = t := by omega
    subst e
    have l := afI_le p0 p1 q0 q1 x0 x1 k
    exact gX5_silentAfter_6 ⟨fun _ => ⟨⟨by omega, by omega⟩, by omega, rfl, rfl⟩, fun z => absurd z (by omega)⟩
  | m + 1, k, hk => by
    have l := afI_le p0 p1 q0 q1 x0 x1 k
    have ls := saI_le p0 p1 x0 x1 k
    have lp := mulb ls.1 ls.2 p0 p1
    refine gX5_silentAfter_6 ⟨fun z => absurd z (by omega), fun _ => ⟨fun c => ⟨⟨by omega, by omega⟩, by omega, ?_, rfl⟩, fun c => ⟨⟨by omega, by omega⟩, by omega, ⟨by omega, by omega⟩, s_afterL p0 p1 q0 q1 x0 x1 ht m (k + 1) (by omega)⟩⟩⟩
    have z := saI_0 (p := p) (x := x) (k := k) (by omega) (m + 1)
    rw [hk] at z
    unfold afI
    rw [z, show saI p x k = 0 by omega]
theorem s_after {t : Nat} {p q x : Int} (p0 : 0 ≤ p) (p1 : p ≤ 100) (q0 : 0 ≤ q) (q1 : q ≤ 100) (x0 : 0 ≤ x) (x1 : x ≤ 1000000) (ht : t ≤ 100) : EI w d mX5_silentAfter [vi x, vi (t : Int), vi p, vi q] B0 n (afI p q x t) n :=
  EI.of (by decide +kernel) (Nat.le_of_ble_eq_true rfl) rfl (fun _ G => gX5_silentAfter_0 (s_afterL p0 p1 q0 q1 x0 x1 ht t 0 (Nat.zero_add t)))
def manyO (r : Int → Int) (s o : Int) : Int := if r (700 + 3 * s + 2) < r (770 + 4 * o + 1) then 0 else r (700 + 3 * s + 1)
theorem manyO_le {r : Int → Int} (hr : RowOk r) {s o : Int} (s0 : 0 ≤ s) (s1 : s < r 7) : 0 ≤ manyO r s o ∧ manyO r s o ≤ 20 := by
  have q := hr.2.2.2.2.2.2.1 s s0 s1
  unfold manyO
  split <;> omega
/-- behind an offer -/
def afO (r : Int → Int) (s o x : Int) : Int := afI (100 - r (770 + 4 * o)) (100 - r (770 + 4 * o + 2)) x (manyO r s o).toNat
theorem afO_le {r : Int → Int} (hr : RowOk r) {s o x : Int} (o0 : 0 ≤ o) (o1 : o < r 9) (x0 : 0 ≤ x) (x1 : x ≤ 1000000) : 0 ≤ afO r s o x ∧ afO r s o x ≤ 1000000 := by
  have q := hr.2.2.2.2.2.2.2.2.1 o o0 o1
  exact (afI_le (by omega) (by omega) (by omega) (by omega) x0 x1 _).2
abbrev bitI (x : Int) (o : Nat) : Int := (x / ((2 ^ o : Nat) : Int)) % 2
/-- what hears nothing by a story, of a set -/
def sbV (r : Int → Int) (x s : Int) : Nat → Int
  | 0 => 1000000
  | o + 1 => if bitI x o ≠ 1 then sbV r x s o else afO r s (o : Int) (sbV r x s o)
theorem sbV_le {r : Int → Int} (hr : RowOk r) {x s : Int} : ∀ o : Nat, (o : Int) ≤ r 9 → 0 ≤ sbV r x s o ∧ sbV r x s o ≤ 1000000
  | 0, _ => ⟨by show (0 : Int) ≤ 1000000; decide, Int.le_refl _⟩
  | o + 1, ho => by
    have ih := sbV_le hr (x := x) (s := s) o (by omega)
    have e : sbV r x s (o + 1) = if bitI x o ≠ 1 then sbV r x s o else afO r s (o : Int) (sbV r x s o) := rfl
    rw [e]
    split
    · exact ih
    · exact afO_le hr (by omega) (by omega) ih.1 ih.2
def shV (q x : Int) : Int := (q * (1000000 - x)) / 1000000
theorem shV_le {q x : Int} (q0 : 0 ≤ q) (q1 : q ≤ 1000000) (x0 : 0 ≤ x) (x1 : x ≤ 1000000) : (0 ≤ q * (1000000 - x) ∧ q * (1000000 - x) ≤ 1000000000000) ∧ 0 ≤ shV q x ∧ shV q x ≤ 1000000 := by
  have h := mulb q0 q1 (show 0 ≤ 1000000 - x by omega) (show 1000000 - x ≤ 1000000 by omega)
  unfold shV
  omega
theorem s_share {q x : Int} (q0 : 0 ≤ q) (q1 : q ≤ 1000000) (x0 : 0 ≤ x) (x1 : x ≤ 1000000) : EI w d mX5_share [vi q, vi x] B0 n (shV q x) n := by
  have h := shV_le q0 q1 x0 x1
  exact EI.of (by decide +kernel) (Nat.le_of_ble_eq_true rfl) rfl (fun _ G => gX5_share_0 ⟨⟨by omega, by omega⟩, ⟨by omega, by omega⟩, by omega, ⟨h.2.1 |> fun _ => by omega, by omega⟩, rfl, rfl⟩)
/-- what a set says, by the first s stories -/
def syV (r : Int → Int) (x : Int) : Nat → Int
  | 0 => 0
  | s + 1 => syV r x s + shV (oddV r (s : Int) (-1)) (sbV r x (s : Int) (r 9).toNat)
theorem syV_le {r : Int → Int} (hr : RowOk r) (hn : NumsOk r) {x : Int} : ∀ s : Nat, 0 ≤ syV r x s ∧ syV r x s ≤ 1000000 * s
  | 0 => ⟨Int.le_refl _, Int.le_refl _⟩
  | s + 1 => by
    have ih := syV_le hr hn (x := x) s
    have h9 := hn.2.2.2.2.2.2.2.2
    have l := sbV_le hr (x := x) (s := (s : Int)) (r 9).toNat (by omega)
    have o := oddV_le (r := r) (s := (s : Int)) (wo := -1)
    have q := (shV_le o.1 o.2 l.1 l.2).2
    show 0 ≤ syV r x s + _ ∧ syV r x s + _ ≤ 1000000 * ((s + 1 : Nat) : Int)
    omega
/-- what the planner and the scales leave as it was -/
def FrP (n2 n : NM) : Prop := ∀ t : Nat, t < 53 ∨ 76 < t → n2 t = n t
theorem FrP.rf : FrP n n := fun _ _ => rfl
theorem FrP.tr {n2 n3 : NM} (h : FrP n2 n) (h2 : FrP n3 n2) : FrP n3 n := fun t a => (h2 t a).trans (h t a)
theorem FrS.p {n2 : NM} (h : FrS n2 n) : FrP n2 n := fun t ht => h t (by omega)
theorem FrP.lake {n2 : NM} (f : FrP n2 n) (h : LakeRel n 1 (n 147)) : LakeRel n2 1 (n2 147) := by
  rw [f 147 (by decide)]
  exact h.congr (fun t a b => f t (by omega)) (fun _ _ _ => rfl)
theorem FrP.z {n2 : NM} (f : FrP n2 n) : FrZ n2 n := ⟨fun t a => f t (by omega), fun j _ => by rw [f 145 (by decide)]⟩
/-- weighed by the row r -/
def WgQ (r : Int → Int) (n : NM) : Prop := NatC n 53 (totV r (-1) (r 7).toNat) ∧ ∀ j : Nat, j < (r 7).toNat → NatC n (natA (j : Int)) (ctV r (j : Int) (-1) (r 8).toNat)
theorem s_oddsQ {s : Int} {n2 : NM} (f : FrP n2 n) (hr : RowOk (n 147)) (hn : NumsOk (n 147)) (hW : WgQ (n 147) n2) (s0 : 0 ≤ s) (s1 : s < n 147 7) : Ev w (d + 2) 0 0 mX6_oddsOf [vr 51, vi s] (B0, n2) (fun r h' => ∃ (x1 : Int) (n1 : NM), r = some (vi x1) ∧ h' = (B0, n1) ∧ x1 = oddV (n 147) s (-1) ∧ WgQ (n 147) n1 ∧ FrS n1 n2) := by
  have e := f 147 (by decide)
  have q := s_oddsOf (w := w) (d := d) (n := n2) (n2 := n2) (wo := -1) (s := s) (by rw [e]; exact hr) (by rw [e]; exact hn) ⟨FrS.rf, by rw [e]; exact hW.1, by rw [e]; exact hW.2⟩ s0 (by rw [e]; exact s1)
  unfold WgP at q
  rw [e] at q
  exact EI.usP q (fun y n1 z => ⟨z.1, ⟨z.2.2.1, z.2.2.2⟩, z.2.1⟩)
theorem s_heardP {s b : Int} {n2 : NM} (f : FrP n2 n) (hL : LakeRel n 1 (n 147)) (s0 : 0 ≤ s) (s1 : s < n 147 7) : EI w (d + 2) mX1_heardOf [vr 1, vi s, vi b] B0 n2 (if n 147 (700 + 3 * s + 2) < b then 0 else n 147 (700 + 3 * s + 1)) n2 := by
  have e := f 147 (by decide)
  have q := s_heardOf (w := w) (d := d) (n := n2) (s := s) (b := b) (f.lake hL) s0 (by rw [e]; exact s1)
  rw [e] at q
  exact q
theorem s_ofG {t j p : Int} (hL : LakeRel n 1 (n 147)) (t0 : 0 ≤ t) (t1 : t < n 147 9) (j0 : 0 ≤ j) (j1 : j < 4) (hp : p = 770 + 4 * t + j) {n2 : NM} (f : FrP n2 n) : EI w (d + 1) mX7_get [vr 25, vi t, vi j] B0 n2 (n 147 p) n2 := by
  have e := f 147 (by decide)
  have hT : TR n2 25 4 10 9 770 (n2 147) := (f.lake hL).2.2.2.2.2.2.2.2.2.2.1
  have q := s_tr (w := w) (d := d) (n := n2) ob_25 rfl ob_26 hT (by decide) (by decide) t0 (by rw [e]; exact t1) j0 j1 hp
  rw [e] at q
  exact q
theorem s_silentL {G : GM} {x s : Int} {n2 : NM} (f : FrP n2 n) (hL : LakeRel n 1 (n 147)) (hr : RowOk (n 147)) (hn : NumsOk (n 147)) (s0 : 0 ≤ s) (s1 : s < n 147 7) : ∀ (m o : Nat), (o : Int) + m = n 147 9 → Rn w mX5_silentBy (d + 4) G (fun r h' => r = some (vi (sbV (n 147) x s (n 147 9).toNat)) ∧ h' = (B0, n2)) 6 [(0, vr 1), (1, vi x), (2, vi s), (3, vi (sbV (n 147) x s o)), (4, vi (o : Int))] [] (B0, n2)
  | 0, o, ho => by
    have e25 : n2 25 3 = n 147 9 := by
      rw [f 25 (by decide)]
      exact hL.2.2.2.2.2.2.2.2.2.2.1.2.1
    exact gX5_silentBy_6 (EI.use (s_size ob_25 (c := 26) rfl ob_26) ⟨fun _ => ⟨by rw [show (n 147 9).toNat = o by omega], rfl⟩, fun z => absurd z (by omega)⟩)
  | m + 1, o, ho => by
    have h9 := hn.2.2.2.2.2.2.2.2
    have e25 : n2 25 3 = n 147 9 := by
      rw [f 25 (by decide)]
      exact hL.2.2.2.2.2.2.2.2.2.2.1.2.1
    have l := sbV_le hr (x := x) (s := s) o (by omega)
    have q := hr.2.2.2.2.2.2.2.2.1 o (by omega) (by omega)
    have mo := manyO_le hr (o := (o : Int)) s0 s1
    have nxt := s_silentL (G := G) (x := x) f hL hr hn s0 s1 m (o + 1) (by omega)
    have e : sbV (n 147) x s (o + 1) = if bitI x o ≠ 1 then sbV (n 147) x s o else afO (n 147) s (o : Int) (sbV (n 147) x s o) := rfl
    have sa := s_after (w := w) (d := d + 3) (n := n2) (t := (manyO (n 147) s (o : Int)).toNat) (p := 100 - n 147 (770 + 4 * (o : Int))) (q := 100 - n 147 (770 + 4 * (o : Int) + 2)) (x := sbV (n 147) x s o) (by omega) (by omega) (by omega) (by omega) l.1 l.2 (by omega)
    rw [show (((manyO (n 147) s (o : Int)).toNat : Nat) : Int) = manyO (n 147) s (o : Int) by omega] at sa
    refine gX5_silentBy_6 (EI.use (s_size ob_25 (c := 26) rfl ob_26) ⟨fun z => absurd z (by omega), fun _ => ⟨o, rfl, by omega, fun c => ⟨⟨by omega, by omega⟩, ?_⟩, fun c => EI.use (s_ofG (d := d + 2) (p := 770 + 4 * (o : Int) + 1) hL (by omega) (by omega) (by decide) (by decide) rfl f) (EI.use (s_heardP (d := d + 1) f hL s0 s1) (EI.use (s_ofG (d := d + 2) (p := 770 + 4 * (o : Int)) hL (by omega) (by omega) (by decide) (by decide) (Int.add_zero _).symm f) ⟨⟨by omega, by omega⟩, EI.use (s_ofG (d := d + 2) (p := 770 + 4 * (o : Int) + 2) hL (by omega) (by omega) (by decide) (by decide) rfl f) ⟨⟨by omega, by omega⟩, EI.use sa ⟨⟨by omega, by omega⟩, ?_⟩⟩⟩))⟩⟩)
    · rw [e, if_pos c] at nxt
      exact nxt
    · rw [e, if_neg (not_not_intro c)] at nxt
      exact nxt
theorem s_silent {x s : Int} {n2 : NM} (f : FrP n2 n) (hL : LakeRel n 1 (n 147)) (hr : RowOk (n 147)) (hn : NumsOk (n 147)) (s0 : 0 ≤ s) (s1 : s < n 147 7) : EI w (d + 4) mX5_silentBy [vr 1, vi x, vi s] B0 n2 (sbV (n 147) x s (n 147 9).toNat) n2 := by
  have h9 := hn.2.2.2.2.2.2.2.2
  exact EI.of (by decide +kernel) (Nat.le_of_ble_eq_true rfl) rfl (fun _ G => gX5_silentBy_0 (s_silentL f hL hr hn s0 s1 (n 147 9).toNat 0 (by omega)))
theorem s_saysL {G : GM} {x : Int} (hL : LakeRel n 1 (n 147)) (hr : RowOk (n 147)) (hn : NumsOk (n 147)) : ∀ (m s : Nat) (n2 : NM), (s : Int) + m = n 147 7 → FrP n2 n → WgQ (n 147) n2 → Rn w mX5_saysOf (d + 5) G (fun r h' => ∃ (x1 : Int) (n1 : NM), r = some (vi x1) ∧ h' = (B0, n1) ∧ x1 = syV (n 147) x (n 147 7).toNat ∧ FrP n1 n) 6 [(1, vr 1), (2, vr 51), (3, vi x), (4, vi (syV (n 147) x s)), (5, vi (s : Int))] [] (B0, n2)
  | 0, s, n2, hs, f, hW => by
    have e21 : n2 21 3 = n 147 7 := by
      rw [f 21 (by decide)]
      exact hL.2.2.2.2.2.2.2.2.1.2.1
    exact gX5_saysOf_6 (EI.use (s_size ob_21 (c := 22) rfl ob_22) ⟨fun _ => ⟨_, _, rfl, rfl, by rw [show (n 147 7).toNat = s by omega], f⟩, fun z => absurd z (by omega)⟩)
  | m + 1, s, n2, hs, f, hW => by
    have h7 := hn.2.2.2.2.2.2.1
    have h9 := hn.2.2.2.2.2.2.2.2
    have e21 : n2 21 3 = n 147 7 := by
      rw [f 21 (by decide)]
      exact hL.2.2.2.2.2.2.2.2.1.2.1
    have l := sbV_le hr (x := x) (s := (s : Int)) (n 147 9).toNat (by omega)
    have o := oddV_le (r := n 147) (s := (s : Int)) (wo := -1)
    have q := (shV_le o.1 o.2 l.1 l.2).2
    have sy := syV_le hr hn (x := x) s
    refine gX5_saysOf_6 (EI.use (s_size ob_21 (c := 22) rfl ob_22) ⟨fun z => absurd z (by omega), fun _ => EI.usP (s_oddsQ (d := d + 2) f hr hn hW (by omega) (by omega)) (fun y n3 z => ?_)⟩)
    obtain ⟨rfl, z1, z2⟩ := z
    have f3 : FrP n3 n := f.tr z2.p
    exact EI.use (s_silent (d := d) f3 hL hr hn (by omega) (by omega)) (EI.use (s_share o.1 o.2 l.1 l.2) ⟨⟨by omega, by omega⟩, ⟨by omega, by omega⟩, s_saysL hL hr hn m (s + 1) n3 (by omega) f3 z1⟩)
/-! the reference -/
theorem m_findOddsL {G : GM} {n0 : NM} (hr : RowOk (n0 147)) (hn : NumsOk (n0 147)) : ∀ (m s : Nat) (n : NM), (s : Int) + m = n0 147 7 → (∀ t : Nat, t < 158 ∨ 163 < t → n t = n0 t) → (∀ j : Int, 0 ≤ j → j < (s : Int) → n 163 j = oddV (n0 147) j (-1)) → Rn w mX12_findOdds (d + 4) G (fun r h' => ∃ n1 : NM, r = none ∧ h' = (B0, n1) ∧ (∀ t : Nat, t < 158 ∨ 163 < t → n1 t = n0 t) ∧ ∀ j : Int, 0 ≤ j → j < n0 147 7 → n1 163 j = oddV (n0 147) j (-1)) 2 [(0, vr 145), (1, vi (s : Int))] [] (B0, n)
  | 0, s, n, hs, f, hv => by
    have e147 : n 147 = n0 147 := f 147 (by decide)
    exact gX12_findOdds_2 ⟨fun _ => ⟨_, rfl, rfl, f, fun j j0 j1 => hv j j0 (by omega)⟩, fun z => absurd z (by rw [e147]; omega)⟩
  | m + 1, s, n, hs, f, hv => by
    have h7 := hn.2.2.2.2.2.2.1
    have e147 : n 147 = n0 147 := f 147 (by decide)
    refine gX12_findOdds_2 ⟨fun z => absurd z (by rw [e147]; omega), fun _ => EI.usP (m_oddsOf (d := d) (n0 := n0) hr hn (by omega) (by omega) e147) (fun y n1 z => ⟨by omega, by omega, ⟨by omega, by omega⟩, ?_⟩)⟩
    refine m_findOddsL hr hn m (s + 1) _ (by omega) (fun t ht => (upn_ne (by omega)).trans ((z.2 t (by omega)).trans (f t ht))) (fun j j0 j1 => ?_)
    by_cases c : j = (s : Int)
    · rw [c, upn_self, z.1]
    · rw [upn_i c, z.2 163 (by decide)]
      exact hv j j0 (by omega)
theorem m_findOdds {n0 : NM} (hr : RowOk (n0 147)) (hn : NumsOk (n0 147)) (e147 : n 147 = n0 147) : Ev w (d + 4) 0 0 mX12_findOdds [vr 145] (B0, n) (fun r h' => ∃ n1 : NM, r = none ∧ h' = (B0, n1) ∧ (∀ t : Nat, t < 158 ∨ 163 < t → n1 t = n t) ∧ ∀ j : Int, 0 ≤ j → j < n0 147 7 → n1 163 j = oddV (n0 147) j (-1)) := by
  have h7 := hn.2.2.2.2.2.2.1
  have q := fun G : GM => m_findOddsL (w := w) (d := d) (G := G) (n0 := n) (by rw [e147]; exact hr) (by rw [e147]; exact hn) (n0 147 7).toNat 0 n (by rw [e147]; omega) (fun _ _ => rfl) (fun j j0 j1 => by omega)
  rw [e147] at q
  exact EV.ofP (by decide +kernel) (Nat.le_of_ble_eq_true rfl) rfl (fun _ G => gX12_findOdds_0 (q G))
theorem m_silI {G : GM} {x s : Int} {o : Nat} {Q : Option AV → Hp → Prop} (hr : RowOk (n 147)) (hn : NumsOk (n 147)) (s0 : 0 ≤ s) (s1 : s < n 147 7) (o1 : (o : Int) < n 147 9) {y : Int} (y0 : 0 ≤ y) (y1 : y ≤ 1000000) (K : Rn w mX12_silent d G Q 7 [(0, vr 145), (1, vi s), (2, vi x), (3, vl (afO (n 147) s (o : Int) y)), (5, vi ((o : Int) + 1))] [] (B0, n)) : ∀ (m k : Nat), (k : Int) + m = manyO (n 147) s (o : Int) → Rn w mX12_silent d G Q 88 [(0, vr 145), (1, vi s), (2, vi x), (3, vl (saI (100 - n 147 (770 + 4 * (o : Int))) y k)), (5, vi (o : Int)), (6, vi (770 + 4 * (o : Int))), (7, vi (manyO (n 147) s (o : Int))), (8, vi (k : Int))] [] (B0, n)
  | 0, k, hk => by
    have h9 := hn.2.2.2.2.2.2.2.2
    have q := hr.2.2.2.2.2.2.2.2.1 o (by omega) (by omega)
    have l := afI_le (p := 100 - n 147 (770 + 4 * (o : Int))) (q := 100 - n 147 (770 + 4 * (o : Int) + 2)) (by omega) (by omega) (by omega) (by omega) y0 y1 k
    have e : afO (n 147) s (o : Int) y = (saI (100 - n 147 (770 + 4 * (o : Int))) y k * (100 - n 147 (770 + 4 * (o : Int) + 2))) / 100 := by
      unfold afO afI
      rw [show (manyO (n 147) s (o : Int)).toNat = k by omega]
    rw [e] at K
    exact gX12_silent_88 ⟨fun _ => ⟨⟨by omega, by omega⟩, by omega, by omega, ⟨by omega, by omega⟩, ⟨by omega, by omega⟩, by omega, ⟨by omega, by omega⟩, K⟩, fun z => absurd z (by omega)⟩
  | m + 1, k, hk => by
    have h9 := hn.2.2.2.2.2.2.2.2
    have mo := manyO_le hr (o := (o : Int)) s0 s1
    have q := hr.2.2.2.2.2.2.2.2.1 o (by omega) (by omega)
    have ls := saI_le (p := 100 - n 147 (770 + 4 * (o : Int))) (by omega) (by omega) y0 y1 k
    have lp := mulb ls.1 ls.2 (show 0 ≤ 100 - n 147 (770 + 4 * (o : Int)) by omega) (show 100 - n 147 (770 + 4 * (o : Int)) ≤ 100 by omega)
    exact gX12_silent_88 ⟨fun z => absurd z (by omega), fun _ => ⟨by omega, by omega, ⟨by omega, by omega⟩, ⟨by omega, by omega⟩, by omega, ⟨by omega, by omega⟩, m_silI hr hn s0 s1 o1 y0 y1 K m (k + 1) (by omega)⟩⟩
theorem m_silL {G : GM} {x s : Int} (hr : RowOk (n 147)) (hn : NumsOk (n 147)) (s0 : 0 ≤ s) (s1 : s < n 147 7) : ∀ (m o : Nat), (o : Int) + m = n 147 9 → Rn w mX12_silent d G (fun r h' => r = some (vl (sbV (n 147) x s (n 147 9).toNat)) ∧ h' = (B0, n)) 7 [(0, vr 145), (1, vi s), (2, vi x), (3, vl (sbV (n 147) x s o)), (5, vi (o : Int))] [] (B0, n)
  | 0, o, ho => gX12_silent_7 ⟨fun _ => ⟨by rw [show (n 147 9).toNat = o by omega], rfl⟩, fun z => absurd z (by omega)⟩
  | m + 1, o, ho => by
    have h7 := hn.2.2.2.2.2.2.1
    have h9 := hn.2.2.2.2.2.2.2.2
    have l := sbV_le hr (x := x) (s := s) o (by omega)
    have mo := manyO_le hr (o := (o : Int)) s0 s1
    have nxt := m_silL (G := G) (x := x) hr hn s0 s1 m (o + 1) (by omega)
    have e : sbV (n 147) x s (o + 1) = if bitI x o ≠ 1 then sbV (n 147) x s o else afO (n 147) s (o : Int) (sbV (n 147) x s o) := rfl
    refine gX12_silent_7 ⟨fun z => absurd z (by omega), fun _ => ⟨⟨by omega, by omega⟩, ⟨by omega, by omega⟩, ⟨by omega, by omega⟩, ⟨by omega, by omega⟩, ⟨by omega, by omega⟩, by omega, by omega, ⟨by omega, by omega⟩, by omega, by omega, fun _ => ⟨by omega, by omega⟩, fun _ => ⟨by omega, by omega⟩, fun _ => ⟨by omega, by omega⟩, fun _ => by omega, fun _ => by omega, fun z ez => ⟨o, rfl, by omega, fun c => ⟨⟨by omega, by omega⟩, ?_⟩, fun c => ?_⟩⟩⟩
    · rw [e, if_pos c] at nxt
      exact nxt
    · rw [e, if_neg (not_not_intro c)] at nxt
      rw [show z = manyO (n 147) s (o : Int) from ez]
      exact m_silI hr hn s0 s1 (by omega) l.1 l.2 nxt (manyO (n 147) s (o : Int)).toNat 0 (by omega)
theorem m_silent {x s : Int} {n2 : NM} (e147 : n2 147 = n 147) (hr : RowOk (n 147)) (hn : NumsOk (n 147)) (s0 : 0 ≤ s) (s1 : s < n 147 7) : EL w d mX12_silent [vr 145, vi s, vi x] B0 n2 (sbV (n 147) x s (n 147 9).toNat) n2 := by
  have h9 := hn.2.2.2.2.2.2.2.2
  have q := fun G : GM => m_silL (w := w) (d := d) (G := G) (n := n2) (x := x) (s := s) (by rw [e147]; exact hr) (by rw [e147]; exact hn) s0 (by rw [e147]; exact s1) (n 147 9).toNat 0 (by rw [e147]; omega)
  rw [e147] at q
  exact EL.of (by decide +kernel) (Nat.le_of_ble_eq_true rfl) rfl (fun _ G => gX12_silent_0 (q G))
theorem m_saysL {G : GM} {x : Int} {n2 : NM} (e147 : n2 147 = n 147) (hr : RowOk (n 147)) (hn : NumsOk (n 147)) (hv : ∀ j : Int, 0 ≤ j → j < n 147 7 → n2 163 j = oddV (n 147) j (-1)) : ∀ (m s : Nat), (s : Int) + m = n 147 7 → Rn w mX12_saysOf (d + 1) G (fun r h' => r = some (vi (syV (n 147) x (n 147 7).toNat)) ∧ h' = (B0, n2)) 5 [(0, vr 145), (1, vi x), (2, vl (syV (n 147) x s)), (4, vi (s : Int))] [] (B0, n2)
  | 0, s, hs => by
    have h7 := hn.2.2.2.2.2.2.1
    have sy := syV_le hr hn (x := x) s
    exact gX12_saysOf_5 ⟨fun _ => ⟨⟨by omega, by omega⟩, by rw [show (n 147 7).toNat = s by omega], rfl⟩, fun z => absurd z (by rw [e147]; omega)⟩
  | m + 1, s, hs => by
    have h7 := hn.2.2.2.2.2.2.1
    have h9 := hn.2.2.2.2.2.2.2.2
    have l := sbV_le hr (x := x) (s := (s : Int)) (n 147 9).toNat (by omega)
    have o := oddV_le (r := n 147) (s := (s : Int)) (wo := -1)
    have q := shV_le o.1 o.2 l.1 l.2
    have sy := syV_le hr hn (x := x) s
    refine gX12_saysOf_5 ⟨fun z => absurd z (by rw [e147]; omega), fun _ => ⟨by omega, by omega, EL.use (m_silent e147 hr hn (by omega) (by omega)) ?_⟩⟩
    rw [hv s (by omega) (by omega)]
    have q2 := q.2
    unfold shV at q2
    exact ⟨⟨by omega, by omega⟩, ⟨by omega, by omega⟩, by omega, ⟨by omega, by omega⟩, ⟨by omega, by omega⟩, m_saysL e147 hr hn hv m (s + 1) (by omega)⟩
theorem m_saysOf {x : Int} {n2 : NM} (e147 : n2 147 = n 147) (hr : RowOk (n 147)) (hn : NumsOk (n 147)) (hv : ∀ j : Int, 0 ≤ j → j < n 147 7 → n2 163 j = oddV (n 147) j (-1)) : EI w (d + 1) mX12_saysOf [vr 145, vi x] B0 n2 (syV (n 147) x (n 147 7).toNat) n2 := by
  have h7 := hn.2.2.2.2.2.2.1
  exact EI.of (by decide +kernel) (Nat.le_of_ble_eq_true rfl) rfl (fun _ G => gX12_saysOf_0 (m_saysL e147 hr hn hv (n 147 7).toNat 0 (by omega)))
theorem p2_le {o : Nat} (h : o ≤ 10) : 1 ≤ ((2 ^ o : Nat) : Int) ∧ ((2 ^ o : Nat) : Int) ≤ 1024 := by
  have h1 : 2 ^ o ≤ 2 ^ 10 := Nat.pow_le_pow_right (by decide) h
  have h2 : 0 < 2 ^ o := Nat.pow_pos (by decide)
  omega
theorem st_says {k : Int} (h : Rel k n) (x1 : Int) : LS2 w (d + 9) k n mX11_says [vi x1] mX12_says [vi x1] := by
  have hn := h.numsOk
  have h7 := hn.2.2.2.2.2.2.1
  have h9 := hn.2.2.2.2.2.2.2.2
  have e25 : n 25 3 = n 147 9 := h.1.2.2.2.2.2.2.2.2.2.2.1.2.1
  have p2 := p2_le (o := (n 147 9).toNat) (by omega)
  have ek : n 147 9 = (((n 147 9).toNat : Nat) : Int) := by omega
  refine ⟨if 0 ≤ x1 ∧ x1 ≤ 1 * ((2 ^ (n 147 9).toNat : Nat) : Int) - 1 then syV (n 147) x1 (n 147 7).toNat else -1, fun n1 => FrP n1 n, ?_, ?_⟩
  · refine EI.ofP (by decide +kernel) (Nat.le_of_ble_eq_true rfl) rfl (fun _ G => gX11_says_0 (EI.use (s_size ob_25 (c := 26) rfl ob_26) ⟨(n 147 9).toNat, by rw [e25]; exact ek, by omega, ⟨by omega, by omega⟩, ⟨by omega, by omega⟩, EI.use (s_within _ _ _) (ite10 (fun c => EV.usP (s_weigh (d := d + 4) (wo := -1) h.1 h.2.1 hn FrS.rf) (fun n1 z => ?_)) (fun c => ⟨_, _, rfl, rfl, ?_, FrP.rf⟩))⟩))
    · have hs : Ev w (d + 8) 0 0 mX5_saysOf [vr 73, vr 1, vr 51, vi x1] (B0, n1) (fun r h' => ∃ (y : Int) (n2 : NM), r = some (vi y) ∧ h' = (B0, n2) ∧ y = syV (n 147) x1 (n 147 7).toNat ∧ FrP n2 n) := EI.ofP (by decide +kernel) (Nat.le_of_ble_eq_true rfl) rfl (fun _ G => gX5_saysOf_0 (s_saysL (d := d + 3) h.1 h.2.1 hn (n 147 7).toNat 0 n1 (by omega) z.1.p ⟨z.2.1, z.2.2⟩))
      refine EI.usP hs (fun y n2 u => ⟨_, _, rfl, rfl, ?_, u.2⟩)
      rw [if_pos c]
      exact u.1
    · rw [if_neg c]
  · intro n1 f
    have e1 : n1 147 = n 147 := f 147 (by decide)
    have e147 : (upn n1 145 0 0) 147 = n 147 := (upn_ne (by decide)).trans e1
    have hz : FrZ (upn n1 145 0 0) n := f.z.tr FrZ.z
    have fin : ∀ n2, FrZ n2 n → Rel (k + 1) n2 := fun n2 g => (h.scr g).le (by omega)
    refine EI.ofP (by decide +kernel) (Nat.le_of_ble_eq_true rfl) rfl (fun _ G => gX12_says_0 ⟨(n 147 9).toNat, by rw [e1]; exact ek, by omega, ⟨by omega, by omega⟩, ⟨by omega, by omega⟩, EI.use (m_in _ _ _) (ite10 (fun c => EV.usP (m_findOdds (d := d + 4) (n0 := n) h.2.1 hn e147) (fun n2 z => EI.use (m_saysOf (n := n) ((z.1 147 (by decide)).trans e147) h.2.1 hn z.2) ⟨_, _, rfl, rfl, ?_, fin _ (hz.tr ⟨fun t a => z.1 t (by omega), fun j _ => by rw [z.1 145 (by decide)]⟩)⟩)) (fun c => ⟨_, _, rfl, rfl, ?_, fin _ hz⟩))⟩)
    · rw [if_pos c]
    · rw [if_neg c]
end SAYS
