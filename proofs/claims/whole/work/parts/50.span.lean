section SPAN
variable {w : WD} {d : Nat} {n : NM}
/-- how large by a pole -/
def lgB (r : Int → Int) (s g : Int) (p : Nat) : Int := ((r (s + 5) * 100) * r (350 + 3 * (p : Int) + 1)) / (g * r (350 + 3 * (p : Int) + 2))
def hpF (r : Int → Int) (u : Int) : Nat → Int
  | 0 => 0
  | p + 1 => hpF r u p + (if r (350 + 3 * (p : Int)) ≠ u then 0 else 1)
theorem hpF_le {r : Int → Int} {u : Int} : ∀ p : Nat, 0 ≤ hpF r u p ∧ hpF r u p ≤ p
  | 0 => ⟨Int.le_refl _, Int.le_refl _⟩
  | p + 1 => by
    have ih := hpF_le (r := r) (u := u) p
    have e : hpF r u (p + 1) = hpF r u p + (if r (350 + 3 * (p : Int)) ≠ u then 0 else 1) := rfl
    rw [e]
    split <;> omega
theorem hpF_up {r : Int → Int} {u : Int} {p : Nat} : ∀ m : Nat, hpF r u p ≤ hpF r u (p + m)
  | 0 => Int.le_refl _
  | m + 1 => by
    have ih := hpF_up (r := r) (u := u) (p := p) m
    have e : hpF r u (p + (m + 1)) = hpF r u (p + m) + (if r (350 + 3 * ((p + m : Nat) : Int)) ≠ u then 0 else 1) := rfl
    rw [e]
    split <;> omega
def spF (r : Int → Int) (s g own part : Int) : Nat → Int
  | 0 => -1
  | p + 1 => if own ≠ 0 ∧ r (350 + 3 * (p : Int)) ≠ r (s + 3) then spF r s g own part p else if spF r s g own part p = -1 then lgB r s g p else if part ≠ 0 then (if lgB r s g p ≤ spF r s g own part p then spF r s g own part p else lgB r s g p) else (if spF r s g own part p ≤ lgB r s g p then spF r s g own part p else lgB r s g p)
theorem lgB_le {r : Int → Int} (hr : RowOk r) {x g : Int} {p : Nat} (x0 : 0 ≤ x) (x1 : x < r 5) (hp : (p : Int) < r 4) (g0 : 1 ≤ g) (g1 : g ≤ 1000) : ((0 ≤ r (420 + 7 * x + 5) * 100 ∧ r (420 + 7 * x + 5) * 100 ≤ 20000) ∧ 0 ≤ r (420 + 7 * x + 5) * 100 * r (350 + 3 * (p : Int) + 1) ∧ r (420 + 7 * x + 5) * 100 * r (350 + 3 * (p : Int) + 1) ≤ 1980000) ∧ (0 < g * r (350 + 3 * (p : Int) + 2) ∧ g * r (350 + 3 * (p : Int) + 2) ≤ 200000) ∧ 0 ≤ lgB r (420 + 7 * x) g p ∧ lgB r (420 + 7 * x) g p ≤ 1980000 := by
  have q := hr.2.2.2.2.2.1 x x0 x1
  have q2 := hr.2.2.2.2.1 p (by omega) hp
  have h1 := mulb (A := 20000) (B := 99) (a := r (420 + 7 * x + 5) * 100) (b := r (350 + 3 * (p : Int) + 1)) (by omega) (by omega) (by omega) (by omega)
  have h2 := mulb (A := 1000) (B := 200) (a := g) (b := r (350 + 3 * (p : Int) + 2)) (by omega) (by omega) (by omega) (by omega)
  have h3 : 0 < g * r (350 + 3 * (p : Int) + 2) := Int.mul_pos (by omega) (by omega)
  refine ⟨⟨⟨by omega, by omega⟩, h1.1, by omega⟩, ⟨h3, by omega⟩, Int.ediv_nonneg h1.1 (by omega), ?_⟩
  have := Int.ediv_le_self (a := r (420 + 7 * x + 5) * 100 * r (350 + 3 * (p : Int) + 1)) (g * r (350 + 3 * (p : Int) + 2)) h1.1
  unfold lgB
  omega
theorem spF_le {r : Int → Int} (hr : RowOk r) {x g own part : Int} (x0 : 0 ≤ x) (x1 : x < r 5) (g0 : 1 ≤ g) (g1 : g ≤ 1000) : ∀ p : Nat, (p : Int) ≤ r 4 → (-1 ≤ spF r (420 + 7 * x) g own part p ∧ spF r (420 + 7 * x) g own part p ≤ 1980000) ∧ (spF r (420 + 7 * x) g own 0 p = -1 ↔ spF r (420 + 7 * x) g own 1 p = -1)
  | 0, _ => ⟨⟨Int.le_refl _, by show (-1 : Int) ≤ 1980000; decide⟩, Iff.rfl⟩
  | p + 1, hp => by
    have ih := spF_le hr (own := own) (part := part) x0 x1 g0 g1 p (by omega)
    have ih1 := spF_le hr (own := own) (part := 1) x0 x1 g0 g1 p (by omega)
    have ih0 := spF_le hr (own := own) (part := 0) x0 x1 g0 g1 p (by omega)
    have q := (lgB_le hr (p := p) x0 x1 (by omega) g0 g1).2.2
    have e : ∀ part, spF r (420 + 7 * x) g own part (p + 1) = if own ≠ 0 ∧ r (350 + 3 * (p : Int)) ≠ r (420 + 7 * x + 3) then spF r (420 + 7 * x) g own part p else if spF r (420 + 7 * x) g own part p = -1 then lgB r (420 + 7 * x) g p else if part ≠ 0 then (if lgB r (420 + 7 * x) g p ≤ spF r (420 + 7 * x) g own part p then spF r (420 + 7 * x) g own part p else lgB r (420 + 7 * x) g p) else (if spF r (420 + 7 * x) g own part p ≤ lgB r (420 + 7 * x) g p then spF r (420 + 7 * x) g own part p else lgB r (420 + 7 * x) g p) := fun _ => rfl
    rw [e, e, e]
    by_cases c : own ≠ 0 ∧ r (350 + 3 * (p : Int)) ≠ r (420 + 7 * x + 3)
    · rw [if_pos c, if_pos c, if_pos c]
      exact ih
    · rw [if_neg c, if_neg c, if_neg c]
      refine ⟨?_, ?_⟩
      · split
        · omega
        · split <;> split <;> omega
      · rw [if_neg (not_not_intro (rfl : (0 : Int) = 0)), if_pos (show (1 : Int) ≠ 0 by decide)]
        split <;> split <;> (try split) <;> (try split) <;> omega
theorem s_hasPoleL {G : GM} {u : Int} (hL : LakeRel n 1 (n 147)) (hn : NumsOk (n 147)) : ∀ (m i : Nat), (i : Int) + m = n 147 4 → hpF (n 147) u i = 0 → Rn w mX1_hasPole (d + 2) G (fun r h' => r = some (vi (if hpF (n 147) u (n 147 4).toNat = 0 then 0 else 1)) ∧ h' = (B0, n)) 2 [(0, vr 1), (1, vi u), (2, vi (i : Int))] [] (B0, n)
  | 0, i, hi, h0 => by
    have hT : TR n 12 3 20 4 350 (n 147) := hL.2.2.2.2.2.1
    have e4 : n 12 3 = n 147 4 := hT.2.1
    exact gX1_hasPole_2 (EI.use (s_size ob_12 (c := 13) rfl ob_13) ⟨fun _ => ⟨by rw [show (n 147 4).toNat = i by omega, if_pos h0], rfl⟩, fun z => absurd z (by omega)⟩)
  | m + 1, i, hi, h0 => by
    have hT : TR n 12 3 20 4 350 (n 147) := hL.2.2.2.2.2.1
    have e4 : n 12 3 = n 147 4 := hT.2.1
    have h4 := hn.2.2.2.2.1
    have e : hpF (n 147) u (i + 1) = hpF (n 147) u i + (if n 147 (350 + 3 * (i : Int)) ≠ u then 0 else 1) := rfl
    refine gX1_hasPole_2 (EI.use (s_size ob_12 (c := 13) rfl ob_13) ⟨fun z => absurd z (by omega), fun _ => EI.use (s_tr (p := 350 + 3 * (i : Int)) ob_12 rfl ob_13 hT rfl (by decide) (by omega) (by omega) (by decide) (by decide) (by omega)) ⟨fun c => ⟨⟨by omega, by omega⟩, ?_⟩, fun c => ⟨?_, rfl⟩⟩⟩)
    · exact s_hasPoleL hL hn m (i + 1) (by omega) (by rw [e, if_pos c, h0]; rfl)
    · rw [if_neg (not_not_intro c)] at e
      have u2 := hpF_up (r := n 147) (u := u) (p := i + 1) ((n 147 4).toNat - (i + 1))
      rw [show i + 1 + ((n 147 4).toNat - (i + 1)) = (n 147 4).toNat by omega] at u2
      rw [if_neg (by omega)]
theorem s_largeBy {a b g e : Int} (h1 : 0 ≤ a * 100 ∧ a * 100 ≤ 20000) (h2 : 0 ≤ a * 100 * b ∧ a * 100 * b ≤ 1980000) (h3 : 0 < g * e ∧ g * e ≤ 200000) : EI w d mX1_largeBy [vi a, vi b, vi g, vi e] B0 n ((a * 100) * b / (g * e)) n :=
  EI.of (by decide +kernel) (Nat.le_of_ble_eq_true rfl) rfl (fun _ G => gX1_largeBy_0 ⟨⟨by omega, by omega⟩, fun _ => ⟨⟨by omega, by omega⟩, ⟨by omega, by omega⟩, h2.1, h3.1, rfl, rfl⟩, fun z => absurd z (by omega)⟩)
/-- a span's end -/
def spV (r : Int → Int) (s g own part : Int) : Int := if spF r s g own part (r 4).toNat = -1 then r (s + 5) * 100 / g else spF r s g own part (r 4).toNat
theorem s_spanL {G : GM} {x g own part : Int} (hL : LakeRel n 1 (n 147)) (hr : RowOk (n 147)) (hn : NumsOk (n 147)) (x0 : 0 ≤ x) (x1 : x < n 147 5) (g0 : 1 ≤ g) (g1 : g ≤ 1000) : ∀ (m i : Nat), (i : Int) + m = n 147 4 → Rn w mX1_spanOf (d + 2) G (fun r h' => r = some (vi (spV (n 147) (420 + 7 * x) g own part)) ∧ h' = (B0, n)) 36 [(0, vr 1), (2, vi part), (3, vi g), (4, vi (n 147 (420 + 7 * x + 3))), (5, vi (n 147 (420 + 7 * x + 5))), (6, vi own), (7, vi (spF (n 147) (420 + 7 * x) g own part i)), (8, vi (i : Int))] [] (B0, n)
  | 0, i, hi => by
    have hT : TR n 12 3 20 4 350 (n 147) := hL.2.2.2.2.2.1
    have e4 : n 12 3 = n 147 4 := hT.2.1
    have q := hr.2.2.2.2.2.1 x x0 x1
    refine gX1_spanOf_36 (EI.use (s_size ob_12 (c := 13) rfl ob_13) ⟨fun _ => ⟨fun c => ⟨?_, rfl⟩, fun c => EI.use (s_largeBy (by omega) (by omega) (by omega)) ⟨?_, rfl⟩⟩, fun z => absurd z (by omega)⟩)
    · unfold spV
      rw [show (n 147 4).toNat = i by omega, if_neg c]
    · unfold spV
      rw [show (n 147 4).toNat = i by omega, if_pos c, Int.mul_one, Int.mul_one]
  | m + 1, i, hi => by
    have hT : TR n 12 3 20 4 350 (n 147) := hL.2.2.2.2.2.1
    have e4 : n 12 3 = n 147 4 := hT.2.1
    have h4 := hn.2.2.2.2.1
    have lb := lgB_le hr (p := i) x0 x1 (by omega) g0 g1
    have nxt := s_spanL (G := G) (own := own) (part := part) hL hr hn x0 x1 g0 g1 m (i + 1) (by omega)
    have e : spF (n 147) (420 + 7 * x) g own part (i + 1) = if own ≠ 0 ∧ n 147 (350 + 3 * (i : Int)) ≠ n 147 (420 + 7 * x + 3) then spF (n 147) (420 + 7 * x) g own part i else if spF (n 147) (420 + 7 * x) g own part i = -1 then lgB (n 147) (420 + 7 * x) g i else if part ≠ 0 then (if lgB (n 147) (420 + 7 * x) g i ≤ spF (n 147) (420 + 7 * x) g own part i then spF (n 147) (420 + 7 * x) g own part i else lgB (n 147) (420 + 7 * x) g i) else (if spF (n 147) (420 + 7 * x) g own part i ≤ lgB (n 147) (420 + 7 * x) g i then spF (n 147) (420 + 7 * x) g own part i else lgB (n 147) (420 + 7 * x) g i) := rfl
    have big : ¬ (own ≠ 0 ∧ n 147 (350 + 3 * (i : Int)) ≠ n 147 (420 + 7 * x + 3)) → Rn w mX1_spanOf (d + 2) G (fun r h' => r = some (vi (spV (n 147) (420 + 7 * x) g own part)) ∧ h' = (B0, n)) 68 [(0, vr 1), (2, vi part), (3, vi g), (4, vi (n 147 (420 + 7 * x + 3))), (5, vi (n 147 (420 + 7 * x + 5))), (6, vi own), (7, vi (spF (n 147) (420 + 7 * x) g own part i)), (8, vi (i : Int))] [] (B0, n) := fun c => by
      rw [e, if_neg c] at nxt
      refine gX1_spanOf_68 (EI.use (s_tr (p := 350 + 3 * (i : Int) + 1) ob_12 rfl ob_13 hT rfl (by decide) (by omega) (by omega) (by decide) (by decide) rfl) (EI.use (s_tr (p := 350 + 3 * (i : Int) + 2) ob_12 rfl ob_13 hT rfl (by decide) (by omega) (by omega) (by decide) (by decide) rfl) (EI.use (s_largeBy lb.1.1 lb.1.2 lb.2.1) (fun z ez => ⟨⟨by omega, by omega⟩, ?_⟩))))
      rw [ez]
      exact nxt
    refine gX1_spanOf_36 (EI.use (s_size ob_12 (c := 13) rfl ob_13) ⟨fun z => absurd z (by omega), fun _ => ⟨fun c => big (fun z => z.1 c), fun c => EI.use (s_tr (p := 350 + 3 * (i : Int)) ob_12 rfl ob_13 hT rfl (by decide) (by omega) (by omega) (by decide) (by decide) (by omega)) ⟨fun c2 => ⟨⟨by omega, by omega⟩, ?_⟩, fun c2 => big (fun z => z.2 c2)⟩⟩⟩)
    rw [e, if_pos ⟨c, c2⟩] at nxt
    exact nxt
theorem s_spanOf {x g part : Int} (hL : LakeRel n 1 (n 147)) (hr : RowOk (n 147)) (hn : NumsOk (n 147)) (x0 : 0 ≤ x) (x1 : x < n 147 5) (g0 : 1 ≤ g) (g1 : g ≤ 1000) : EI w (d + 3) mX1_spanOf [vr 1, vi x, vi part, vi g] B0 n (spV (n 147) (420 + 7 * x) g (hpF (n 147) (n 147 (420 + 7 * x + 3)) (n 147 4).toNat) part) n := by
  have hS : TR n 14 7 40 5 420 (n 147) := hL.2.2.2.2.2.2.1
  have h4 := hn.2.2.2.2.1
  have hp : EI w (d + 2) mX1_hasPole [vr 1, vi (n 147 (420 + 7 * x + 3))] B0 n (if hpF (n 147) (n 147 (420 + 7 * x + 3)) (n 147 4).toNat = 0 then 0 else 1) n := EI.of (by decide +kernel) (Nat.le_of_ble_eq_true rfl) rfl (fun _ G => gX1_hasPole_0 (s_hasPoleL hL hn (n 147 4).toNat 0 (by omega) rfl))
  have hsame : ∀ a b : Int, (a = 0 ↔ b = 0) → ∀ p : Nat, spF (n 147) (420 + 7 * x) g a part p = spF (n 147) (420 + 7 * x) g b part p := by
    intro a b hab p
    induction p with
    | zero => rfl
    | succ p ih =>
      have e : ∀ own, spF (n 147) (420 + 7 * x) g own part (p + 1) = if own ≠ 0 ∧ n 147 (350 + 3 * (p : Int)) ≠ n 147 (420 + 7 * x + 3) then spF (n 147) (420 + 7 * x) g own part p else if spF (n 147) (420 + 7 * x) g own part p = -1 then lgB (n 147) (420 + 7 * x) g p else if part ≠ 0 then (if lgB (n 147) (420 + 7 * x) g p ≤ spF (n 147) (420 + 7 * x) g own part p then spF (n 147) (420 + 7 * x) g own part p else lgB (n 147) (420 + 7 * x) g p) else (if spF (n 147) (420 + 7 * x) g own part p ≤ lgB (n 147) (420 + 7 * x) g p then spF (n 147) (420 + 7 * x) g own part p else lgB (n 147) (420 + 7 * x) g p) := fun _ => rfl
      rw [e, e, ih]
      by_cases c : a ≠ 0 ∧ n 147 (350 + 3 * (p : Int)) ≠ n 147 (420 + 7 * x + 3)
      · rw [if_pos c, if_pos ⟨fun z => c.1 (hab.mpr z), c.2⟩]
      · have c' : ¬ (b ≠ 0 ∧ n 147 (350 + 3 * (p : Int)) ≠ n 147 (420 + 7 * x + 3)) := fun z => c ⟨fun y => z.1 (hab.mp y), z.2⟩
        rw [if_neg c, if_neg c']
  have hv : spV (n 147) (420 + 7 * x) g (if hpF (n 147) (n 147 (420 + 7 * x + 3)) (n 147 4).toNat = 0 then 0 else 1) part = spV (n 147) (420 + 7 * x) g (hpF (n 147) (n 147 (420 + 7 * x + 3)) (n 147 4).toNat) part := by
    unfold spV
    rw [hsame (if hpF (n 147) (n 147 (420 + 7 * x + 3)) (n 147 4).toNat = 0 then 0 else 1) (hpF (n 147) (n 147 (420 + 7 * x + 3)) (n 147 4).toNat) (by split <;> omega)]
  refine EI.of (by decide +kernel) (Nat.le_of_ble_eq_true rfl) rfl (fun _ G => gX1_spanOf_0 (EI.use (s_tr (d := d + 1) (p := 420 + 7 * x + 3) ob_14 rfl ob_15 hS rfl (by decide) x0 x1 (by decide) (by decide) rfl) (EI.use (s_tr (d := d + 1) (p := 420 + 7 * x + 5) ob_14 rfl ob_15 hS rfl (by decide) x0 x1 (by decide) (by decide) rfl) (EI.use hp ?_))))
  have sl := s_spanL (w := w) (d := d + 1) (G := G) (g := g) (own := if hpF (n 147) (n 147 (420 + 7 * x + 3)) (n 147 4).toNat = 0 then 0 else 1) (part := part) hL hr hn x0 x1 g0 g1 (n 147 4).toNat 0 (by omega)
  rw [hv] at sl
  exact sl
theorem m_spanL2 {G : GM} {x g own part : Int} {n2 : NM} (e147 : n2 147 = n 147) (hp01 : part = 0 ∨ part = 1) (hr : RowOk (n 147)) (hn : NumsOk (n 147)) (x0 : 0 ≤ x) (x1 : x < n 147 5) (g0 : 1 ≤ g) (g1 : g ≤ 1000) : ∀ (m i : Nat), (i : Int) + m = n 147 4 → Rn w mX12_span d G (fun r h' => r = some (vi (spV (n 147) (420 + 7 * x) g own part)) ∧ h' = (B0, n2)) 104 [(0, vr 145), (2, vi part), (3, vi (420 + 7 * x)), (4, vi own), (5, vi g), (6, vi (spF (n 147) (420 + 7 * x) g own 0 i)), (7, vi (spF (n 147) (420 + 7 * x) g own 1 i)), (8, vi (i : Int))] [] (B0, n2)
  | 0, i, hi => by
    have q := hr.2.2.2.2.2.1 x x0 x1
    have h40 := hn.2.2.2.2.2.1
    have sl := spF_le hr (own := own) (part := 0) x0 x1 g0 g1 i (by omega)
    refine gX12_span_104 ⟨fun _ => ⟨fun c => ⟨fun c2 => ⟨?_, rfl⟩, fun c2 => ⟨?_, rfl⟩⟩, fun c => ?_⟩, fun z => absurd z (by rw [e147]; omega)⟩
    · have : part = 1 := by omega
      unfold spV
      rw [show (n 147 4).toNat = i by omega, this, if_neg (fun z => c (sl.2.mpr z))]
    · unfold spV
      rw [show (n 147 4).toNat = i by omega, c2, if_neg c]
    · rw [e147]
      refine ⟨⟨by omega, by omega⟩, by omega, by omega, ⟨by omega, by omega⟩, by omega, by omega, ?_, rfl⟩
      unfold spV
      rw [show (n 147 4).toNat = i by omega]
      rcases hp01 with rfl | rfl
      · rw [if_pos c]
      · rw [if_pos (sl.2.mp c)]
  | m + 1, i, hi => by
    have h4 := hn.2.2.2.2.1
    have h40 := hn.2.2.2.2.2.1
    have q := hr.2.2.2.2.2.1 x x0 x1
    have lb := lgB_le hr (p := i) x0 x1 (by omega) g0 g1
    have s0 := spF_le hr (own := own) (part := 0) x0 x1 g0 g1 i (by omega)
    have s1 := spF_le hr (own := own) (part := 1) x0 x1 g0 g1 i (by omega)
    have nxt := m_spanL2 (G := G) (own := own) (part := part) e147 hp01 hr hn x0 x1 g0 g1 m (i + 1) (by omega)
    have e : ∀ part, spF (n 147) (420 + 7 * x) g own part (i + 1) = if own ≠ 0 ∧ n 147 (350 + 3 * (i : Int)) ≠ n 147 (420 + 7 * x + 3) then spF (n 147) (420 + 7 * x) g own part i else if spF (n 147) (420 + 7 * x) g own part i = -1 then lgB (n 147) (420 + 7 * x) g i else if part ≠ 0 then (if lgB (n 147) (420 + 7 * x) g i ≤ spF (n 147) (420 + 7 * x) g own part i then spF (n 147) (420 + 7 * x) g own part i else lgB (n 147) (420 + 7 * x) g i) else (if spF (n 147) (420 + 7 * x) g own part i ≤ lgB (n 147) (420 + 7 * x) g i then spF (n 147) (420 + 7 * x) g own part i else lgB (n 147) (420 + 7 * x) g i) := fun _ => rfl
    have eg : lgB (n 147) (420 + 7 * x) g i = ((n 147 (420 + 7 * x + 5) * 100) * n 147 (350 + 3 * (i : Int) + 1)) / (g * n 147 (350 + 3 * (i : Int) + 2)) := rfl
    rw [e 0, e 1] at nxt
    have v0 : ¬ (own ≠ 0 ∧ n 147 (350 + 3 * (i : Int)) ≠ n 147 (420 + 7 * x + 3)) → ∀ z1 z2 : Int, z1 = (if spF (n 147) (420 + 7 * x) g own 0 i = -1 then lgB (n 147) (420 + 7 * x) g i else if spF (n 147) (420 + 7 * x) g own 0 i ≤ lgB (n 147) (420 + 7 * x) g i then spF (n 147) (420 + 7 * x) g own 0 i else lgB (n 147) (420 + 7 * x) g i) → z2 = (if lgB (n 147) (420 + 7 * x) g i ≤ spF (n 147) (420 + 7 * x) g own 1 i then spF (n 147) (420 + 7 * x) g own 1 i else lgB (n 147) (420 + 7 * x) g i) → Rn w mX12_span d G (fun r h' => r = some (vi (spV (n 147) (420 + 7 * x) g own part)) ∧ h' = (B0, n2)) 104 [(0, vr 145), (2, vi part), (3, vi (420 + 7 * x)), (4, vi own), (5, vi g), (6, vi z1), (7, vi z2), (8, vi ((i : Int) + 1))] [] (B0, n2) := fun c z1 z2 e1 e2 => by
      rw [if_neg c, if_neg c, if_neg (not_not_intro (rfl : (0 : Int) = 0)), if_pos (show (1 : Int) ≠ 0 by decide), ← e1] at nxt
      have e3 : z2 = (if spF (n 147) (420 + 7 * x) g own 1 i = -1 then lgB (n 147) (420 + 7 * x) g i else if lgB (n 147) (420 + 7 * x) g i ≤ spF (n 147) (420 + 7 * x) g own 1 i then spF (n 147) (420 + 7 * x) g own 1 i else lgB (n 147) (420 + 7 * x) g i) := by
        rw [e2]
        by_cases c1 : spF (n 147) (420 + 7 * x) g own 1 i = -1
        · rw [if_pos c1, if_neg (by omega)]
        · rw [if_neg c1]
      rw [← e3] at nxt
      exact nxt
    refine gX12_span_104 ⟨fun z => absurd z (by rw [e147]; omega), fun _ => ?_⟩
    rw [e147]
    refine ⟨fun c => gX12_span_144 ?_, fun c => ⟨⟨by omega, by omega⟩, ⟨by omega, by omega⟩, by omega, by omega, ⟨by omega, by omega⟩, by omega, by omega, fun _ => ⟨by omega, by omega⟩, fun _ => by omega, fun _ => by omega, fun _ => ⟨by omega, by omega⟩, fun _ => ⟨by omega, by omega⟩, fun _ => ⟨by omega, by omega⟩, fun _ => ⟨by omega, by omega⟩, fun _ => by omega, fun _ => by omega, fun _ => ⟨by omega, by omega⟩, fun _ => ⟨by omega, by omega⟩, fun _ => ⟨by omega, by omega⟩, fun _ => ⟨by omega, by omega⟩, fun _ => by omega, fun _ => by omega, fun _ => ⟨by omega, by omega⟩, fun _ => lb.1.2.1, fun _ => lb.2.1.1, fun z1 z2 e1 e2 => ⟨⟨by omega, by omega⟩, ?_⟩⟩⟩
    · rw [e147]
      refine ⟨⟨by omega, by omega⟩, by omega, by omega, ⟨by omega, by omega⟩, ⟨by omega, by omega⟩, ⟨by omega, by omega⟩, ⟨by omega, by omega⟩, by omega, by omega, ⟨by omega, by omega⟩, ⟨by omega, by omega⟩, ⟨by omega, by omega⟩, ⟨by omega, by omega⟩, by omega, by omega, ⟨by omega, by omega⟩, lb.1.2.1, lb.2.1.1, fun z1 e1 z2 e2 => ⟨⟨by omega, by omega⟩, ?_⟩⟩
      rw [← eg] at e1 e2
      exact v0 (fun z => z.1 c) z1 z2 e1 e2
    · rw [← eg] at e1 e2
      by_cases c2 : n 147 (350 + 3 * (i : Int)) ≠ n 147 (420 + 7 * x + 3)
      · rw [if_pos c2] at e1 e2
        rw [if_pos ⟨c, c2⟩, if_pos ⟨c, c2⟩] at nxt
        rw [e1, e2]
        exact nxt
      · rw [if_neg c2] at e1 e2
        refine v0 (fun z => c2 z.2) z1 z2 e1 ?_
        rw [e2]
        by_cases c3 : spF (n 147) (420 + 7 * x) g own 0 i = -1
        · rw [if_pos c3]
        · rw [if_neg c3]
          by_cases c4 : spF (n 147) (420 + 7 * x) g own 0 i ≤ lgB (n 147) (420 + 7 * x) g i
          · rw [if_pos c4]
          · rw [if_neg c4]
theorem m_spanL1 {G : GM} {x part : Int} {n2 : NM} (e147 : n2 147 = n 147) (hp01 : part = 0 ∨ part = 1) (hL : LakeRel n 1 (n 147)) (hr : RowOk (n 147)) (hn : NumsOk (n 147)) (x0 : 0 ≤ x) (x1 : x < n 147 5) : ∀ (m i : Nat), (i : Int) + m = n 147 4 → Rn w mX12_span (d + 8) G (fun r h' => ∃ (x1 : Int) (n3 : NM), r = some (vi x1) ∧ h' = (B0, n3) ∧ x1 = spV (n 147) (420 + 7 * x) (lawG n x 5) (hpF (n 147) (n 147 (420 + 7 * x + 3)) (n 147 4).toNat) part ∧ FrQ n3 n2) 37 [(0, vr 145), (2, vi part), (3, vi (420 + 7 * x)), (4, vi (hpF (n 147) (n 147 (420 + 7 * x + 3)) i)), (5, vi (i : Int))] [] (B0, n2)
  | 0, i, hi => by
    refine gX12_span_37 ⟨fun _ => EI.usP (m_growOf (d := d) hL hr hn x0 x1 e147) (fun y n3 z => ?_), fun z => absurd z (by rw [e147]; omega)⟩
    obtain ⟨rfl, z⟩ := z
    have h4 := hn.2.2.2.2.1
    have g0 : 1 ≤ lawG n x 5 := clH_5 _
    have g1 := (lawG_le (n := n) (x := x) (h := 5)).2
    have ml := m_spanL2 (w := w) (d := d + 8) (G := G) (own := hpF (n 147) (n 147 (420 + 7 * x + 3)) i) (part := part) (n2 := n3) ((z.1 147 (by decide) (by decide) (by decide)).trans e147) hp01 hr hn x0 x1 g0 g1 (n 147 4).toNat 0 (by omega)
    refine Rn.weak (fun v h' t => ⟨_, _, t.1, t.2, ?_, z⟩) ml
    rw [show (n 147 4).toNat = i by omega]
  | m + 1, i, hi => by
    have h4 := hn.2.2.2.2.1
    have h40 := hn.2.2.2.2.2.1
    have hl := hpF_le (r := n 147) (u := n 147 (420 + 7 * x + 3)) i
    have nxt := m_spanL1 (G := G) e147 hp01 hL hr hn x0 x1 m (i + 1) (by omega)
    have e : hpF (n 147) (n 147 (420 + 7 * x + 3)) (i + 1) = hpF (n 147) (n 147 (420 + 7 * x + 3)) i + (if n 147 (350 + 3 * (i : Int)) ≠ n 147 (420 + 7 * x + 3) then 0 else 1) := rfl
    rw [e] at nxt
    refine gX12_span_37 ⟨fun z => absurd z (by rw [e147]; omega), fun _ => ?_⟩
    rw [e147]
    refine ⟨⟨by omega, by omega⟩, ⟨by omega, by omega⟩, by omega, by omega, ⟨by omega, by omega⟩, by omega, by omega, fun z ez => ⟨⟨?_, ?_⟩, ⟨by omega, by omega⟩, ?_⟩⟩
    · rw [ez]
      split <;> omega
    · rw [ez]
      split <;> omega
    · rw [ez]
      exact nxt
theorem st_span {k : Int} (h : Rel k n) (x1 x2 : Int) : LS2 w (d + 9) k n mX11_span [vi x1, vi x2] mX12_span [vi x1, vi x2] := by
  have hn := h.numsOk
  have h5 : n 14 3 = n 147 5 := h.1.2.2.2.2.2.2.1.2.1
  have h40 := hn.2.2.2.2.2.1
  have h4 := hn.2.2.2.2.1
  refine ⟨if 0 ≤ x1 ∧ x1 < n 147 5 then (if 0 ≤ x2 ∧ x2 ≤ 1 then spV (n 147) (420 + 7 * x1) (lawG n x1 5) (hpF (n 147) (n 147 (420 + 7 * x1 + 3)) (n 147 4).toNat) x2 else -1) else -1, fun n1 => FrA n1 n, ?_, ?_⟩
  · refine EI.ofP (by decide +kernel) (Nat.le_of_ble_eq_true rfl) rfl (fun _ G => gX11_span_0 (EI.use (s_holds ob_14 (c := 15) rfl ob_15 _) (ite01 (fun c => ⟨_, _, rfl, rfl, ?_, FrA.rf⟩) (fun c => EI.use (s_within _ _ _) (ite10 (fun c2 => EV.usP (s_askA (d := d + 2) FrA.rf h.1 h.2.1 c.1 (by omega)) (fun n1 z => EI.use (s_hund z) ?_)) (fun c2 => ⟨_, _, rfl, rfl, ?_, FrA.rf⟩))))))
    · rw [if_neg (by omega)]
    · have e : n1 147 = n 147 := z.1 147 (by decide) (by decide) (by decide) (by decide)
      have g0 : 1 ≤ lawG n x1 5 := clH_5 _
      have g1 := (lawG_le (n := n) (x := x1) (h := 5)).2
      have sp := s_spanOf (w := w) (d := d + 5) (n := n1) (x := x1) (g := lawG n x1 5) (part := x2) (FrA.lake z.1 h.1) (by rw [e]; exact h.2.1) (by rw [e]; exact hn) c.1 (by rw [e]; omega) g0 g1
      rw [e] at sp
      refine EI.use sp ⟨_, _, rfl, rfl, ?_, z.1⟩
      rw [if_pos (by omega), if_pos c2]
    · rw [if_pos (by omega), if_neg c2]
  · intro n1 f
    have e1 : n1 147 = n 147 := f 147 (by decide) (by decide) (by decide) (by decide)
    have e147 : (upn n1 145 0 0) 147 = n 147 := (upn_ne (by decide)).trans e1
    have hz : FrZ (upn n1 145 0 0) n := f.z.tr FrZ.z
    have fin : ∀ n2, FrZ n2 n → Rel (k + 1) n2 := fun n2 g => (h.scr g).le (by omega)
    refine EI.ofP (by decide +kernel) (Nat.le_of_ble_eq_true rfl) rfl (fun _ G => gX12_span_0 (EI.use (m_is (by decide) (by decide) (by rw [e147]; omega)) (ite01 (fun c => ⟨_, _, rfl, rfl, ?_, fin _ hz⟩) (fun c => EI.use (m_in _ _ _) (ite10 (fun c2 => ?_) (fun c2 => ⟨_, _, rfl, rfl, ?_, fin _ hz⟩))))))
    · rw [e147] at c
      rw [if_neg (by omega)]
    · rw [e147] at c
      refine EI.use (m_sightAt c.1 (by omega)) (Rn.weak (fun v h' t => ?_) (m_spanL1 (w := w) (d := d + 1) (G := G) (part := x2) e147 (by omega) h.1 h.2.1 hn c.1 (by omega) (n 147 4).toNat 0 (by omega)))
      obtain ⟨y1, y2, t1, t2, t3, t4⟩ := t
      refine ⟨_, _, t1, t2, ?_, fin _ (hz.tr t4.z)⟩
      rw [if_pos (by omega), if_pos c2]
      exact t3
    · rw [e147] at c
      rw [if_pos (by omega), if_neg c2]
end SPAN
