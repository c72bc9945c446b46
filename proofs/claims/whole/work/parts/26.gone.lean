section GONE
variable {w : WD} {d : Nat} {n : NM}
theorem mulb {a b A B : Int} (a0 : 0 ≤ a) (a1 : a ≤ A) (b0 : 0 ≤ b) (b1 : b ≤ B) : 0 ≤ a * b ∧ a * b ≤ A * B :=
  ⟨Int.mul_nonneg a0 b0, Int.mul_le_mul a1 b1 b0 (Int.le_trans a0 a1)⟩
theorem s_tr {t L : Nat} {W R cnt base : Int} {i j p : Int} (ot : Obj B0 t 7 4) (rt : rf B0 t 0 = some (t + 1)) (oc : Obj B0 (t + 1) 100 L) (hT : TR n t W R cnt base (n 147)) (hL : R * W = (L : Int)) (hL2 : (L : Int) ≤ 100000) (i0 : 0 ≤ i) (i1 : i < n 147 cnt) (j0 : 0 ≤ j) (j1 : j < W) (hp : p = base + W * i + j) : EI w (d + 1) mX7_get [vr t, vi i, vi j] B0 n (n 147 p) n := by
  have := s_get (w := w) (d := d) ot rt oc hT.1 hL hL2 i j
  have e : tg n t (t + 1) i j = n 147 p := by
    rw [tg_in hT.1 i0 (by rw [hT.2.1]; exact i1) j0 j1, hp]
    have h1 : (i + 1) * W ≤ n 147 cnt * W := Int.mul_le_mul_of_nonneg_right (by omega) (by omega)
    rw [Int.add_mul, Int.one_mul] at h1
    have h2 : 0 ≤ i * W := Int.mul_nonneg i0 (by omega)
    rw [hT.2.2 _ (by omega) (by omega), Int.mul_comm W i]
    congr 1
    omega
  rw [e] at this
  exact this
theorem s_fr {t L : Nat} {W R base : Int} {i j p : Int} (ot : Obj B0 t 7 4) (rt : rf B0 t 0 = some (t + 1)) (oc : Obj B0 (t + 1) 100 L) (hT : FR n t W R base (n 147)) (hL : R * W = (L : Int)) (hL2 : (L : Int) ≤ 100000) (i0 : 0 ≤ i) (i1 : i < R) (j0 : 0 ≤ j) (j1 : j < W) (hp : p = base + W * i + j) : EI w (d + 1) mX7_get [vr t, vi i, vi j] B0 n (n 147 p) n := by
  have := s_get (w := w) (d := d) ot rt oc hT.1 hL hL2 i j
  have e : tg n t (t + 1) i j = n 147 p := by
    rw [tg_in hT.1 i0 (by rw [hT.2.1]; exact i1) j0 j1, hp]
    have h1 : (i + 1) * W ≤ R * W := Int.mul_le_mul_of_nonneg_right (by omega) (by omega)
    rw [Int.add_mul, Int.one_mul] at h1
    have h2 : 0 ≤ i * W := Int.mul_nonneg i0 (by omega)
    rw [hT.2.2 _ (by omega) (by omega), Int.mul_comm W i]
    congr 1
    omega
  rw [e] at this
  exact this
/-- when the boat b passes the place p -/
def passV (r : Int → Int) (b p : Int) : Int := r (200 + 4 * b + 2) + (if r (200 + 4 * b + 1) ≠ 0 then 23 - p else p) * r (200 + 4 * b + 3)
def goneS (r : Int → Int) (s b acc : Int) : Int := if r (200 + 4 * b) ≠ r s then acc else if r (s + 1) < passV r b (r (s + 2)) then acc else if passV r b (r (s + 2)) ≤ acc then acc else passV r b (r (s + 2))
def goneF (r : Int → Int) (s : Int) : Nat → Int
  | 0 => -1
  | k + 1 => goneS r s (k : Int) (goneF r s k)
def goneV (r : Int → Int) (s : Int) : Int := if goneF r s (r 0).toNat = -1 then 0 else r (s + 1) - goneF r s (r 0).toNat
theorem goneF_le {r : Int → Int} {s : Int} (h0 : 0 ≤ r (s + 1)) : ∀ k : Nat, -1 ≤ goneF r s k ∧ goneF r s k ≤ r (s + 1)
  | 0 => ⟨Int.le_refl _, by show -1 ≤ r (s + 1); omega⟩
  | k + 1 => by
    have ih := goneF_le h0 k
    show -1 ≤ goneS r s k (goneF r s k) ∧ goneS r s k (goneF r s k) ≤ r (s + 1)
    unfold goneS
    split
    · exact ih
    · split
      · exact ih
      · split
        · exact ih
        · omega
theorem pass_le {r : Int → Int} (hr : RowOk r) {b p : Int} (b0 : 0 ≤ b) (b1 : b < r 0) (p0 : 0 ≤ p) (p1 : p ≤ 23) : ∀ z : Int, z = (if r (200 + 4 * b + 1) ≠ 0 then 23 - p else p) → (0 ≤ z ∧ z ≤ 23) ∧ 0 ≤ z * r (200 + 4 * b + 3) ∧ z * r (200 + 4 * b + 3) ≤ 552 ∧ 0 ≤ r (200 + 4 * b + 2) ∧ r (200 + 4 * b + 2) ≤ 1439 := by
  intro z e
  have q := hr.2.1 b b0 b1
  have hz : 0 ≤ z ∧ z ≤ 23 := by
    by_cases c : r (200 + 4 * b + 1) ≠ 0
    · rw [if_pos c] at e
      omega
    · rw [if_neg c] at e
      omega
  have := mulb (A := 23) (B := 24) hz.1 hz.2 (b := r (200 + 4 * b + 3)) (by omega) (by omega)
  exact ⟨hz, this.1, this.2, q.2.1⟩
/-- a sight that is there -/
theorem sight_le {r : Int → Int} (hr : RowOk r) {i : Int} (i0 : 0 ≤ i) (i1 : i < r 5) : (0 ≤ r (420 + 7 * i) ∧ r (420 + 7 * i) ≤ 59) ∧ (0 ≤ r (420 + 7 * i + 1) ∧ r (420 + 7 * i + 1) ≤ 1439) ∧ (0 ≤ r (420 + 7 * i + 2) ∧ r (420 + 7 * i + 2) ≤ 23) := by
  have q := hr.2.2.2.2.2.1 i i0 i1
  exact ⟨q.1, q.2.1, q.2.2.1⟩
theorem m_goneL {G : GM} {s : Int} (hr : RowOk (n 147)) (c0 : 0 ≤ n 147 0) (c1 : n 147 0 ≤ 12) (s0 : 0 ≤ s) (s1 : s + 2 < 1800) (t0 : 0 ≤ n 147 (s + 1) ∧ n 147 (s + 1) ≤ 1439) (t1 : 0 ≤ n 147 (s + 2) ∧ n 147 (s + 2) ≤ 23) : ∀ (m i : Nat), (i : Int) + m = n 147 0 → Rn w mX12_goneOf d G (fun r h' => r = some (vi (goneV (n 147) s)) ∧ h' = (B0, n)) 4 [(0, vr 145), (1, vi s), (2, vi (goneF (n 147) s i)), (3, vi (i : Int))] [] (B0, n)
  | 0, i, hi => by
    have hle := goneF_le t0.1 i
    have ei : (n 147 0).toNat = i := by omega
    refine gX12_goneOf_4 ⟨fun _ => ⟨fun q => ⟨⟨by omega, by omega⟩, by omega, by omega, ⟨by omega, by omega⟩, ?_, rfl⟩, fun q => ⟨?_, rfl⟩⟩, fun q => absurd q (by omega)⟩
    · unfold goneV
      rw [ei, if_neg q]
    · unfold goneV
      rw [ei, if_pos q]
  | m + 1, i, hi => by
    have hle := goneF_le t0.1 i
    have hb : (i : Int) < n 147 0 := by omega
    have pl := pass_le hr (by omega) hb t1.1 t1.2
    refine gX12_goneOf_4 ⟨fun q => absurd q (by omega), fun _ => ⟨⟨by omega, by omega⟩, ⟨by omega, by omega⟩, ⟨by omega, by omega⟩, by omega, by omega, fun _ => ⟨by omega, by omega⟩, fun _ => by omega, fun _ => by omega, fun _ => ⟨by omega, by omega⟩, fun _ => ⟨by omega, by omega⟩, fun _ => by omega, fun _ => by omega, fun z ez => ?_⟩⟩
    obtain ⟨p1, p2, p3, p4, p5⟩ := pl z ez
    refine ⟨⟨by omega, by omega⟩, by omega, by omega, ⟨by omega, by omega⟩, by omega, by omega, ⟨by omega, by omega⟩, ⟨by omega, by omega⟩, by omega, by omega, by omega, by omega, fun _ => ⟨by omega, by omega⟩, fun _ => by omega, fun _ => by omega, fun y ey => ⟨⟨by omega, by omega⟩, ?_⟩⟩
    have ey2 : y = goneF (n 147) s (i + 1) := by
      rw [ey]
      show _ = goneS (n 147) s i (goneF (n 147) s i)
      unfold goneS passV
      rw [← ez]
    rw [ey2]
    have := m_goneL (G := G) hr c0 c1 s0 s1 t0 t1 m (i + 1) (by omega)
    exact this
theorem m_gone {i : Int} (hr : RowOk (n 147)) (c0 : 0 ≤ n 147 0) (c1 : n 147 0 ≤ 12) (i0 : 0 ≤ i) (i1 : i < n 147 5) (i2 : n 147 5 ≤ 40) : EI w d mX12_goneOf [vr 145, vi (420 + 7 * i)] B0 n (goneV (n 147) (420 + 7 * i)) n := by
  have q := sight_le hr i0 i1
  refine EI.of (by decide +kernel) (Nat.le_of_ble_eq_true rfl) rfl (fun _ G => gX12_goneOf_0 (m_goneL hr c0 c1 (by omega) (by omega) q.2.1 q.2.2 (n 147 0).toNat 0 (by omega)))
theorem s_passing (hL : LakeRel n 1 (n 147)) (hr : RowOk (n 147)) {b p : Int} (b0 : 0 ≤ b) (b1 : b < n 147 0) (p0 : 0 ≤ p) (p1 : p ≤ 23) : EI w (d + 2) mX1_minuteOfPassing [vr 1, vi b, vi p] B0 n (passV (n 147) b p) n := by
  have hT : TR n 4 4 12 0 200 (n 147) := hL.2.1
  have pl := pass_le hr b0 b1 p0 p1
  refine EI.of (by decide +kernel) (Nat.le_of_ble_eq_true rfl) rfl (fun _ G => gX1_minuteOfPassing_0 (EI.use (s_tr ob_4 rfl ob_5 hT rfl (by decide) b0 b1 (by decide) (by decide) rfl) ⟨fun _ => ⟨by omega, by omega⟩, fun z ez => EI.use (s_tr ob_4 rfl ob_5 hT rfl (by decide) b0 b1 (by decide) (by decide) rfl) (EI.use (s_tr ob_4 rfl ob_5 hT rfl (by decide) b0 b1 (by decide) (by decide) rfl) ?_)⟩))
  obtain ⟨q1, q2, q3, q4, q5⟩ := pl z ez
  refine ⟨⟨by omega, by omega⟩, ⟨by omega, by omega⟩, ?_, rfl⟩
  unfold passV
  rw [← ez]
theorem s_goneL {G : GM} {x : Int} (hL : LakeRel n 1 (n 147)) (hr : RowOk (n 147)) (x0 : 0 ≤ x) (x1 : x < n 147 5) : ∀ (m i : Nat), (i : Int) + m = n 147 0 → Rn w mX1_goneAtSight (d + 3) G (fun r h' => r = some (vi (goneV (n 147) (420 + 7 * x))) ∧ h' = (B0, n)) 15 [(0, vr 1), (1, vi x), (2, vi (n 147 (420 + 7 * x + 1))), (3, vi (goneF (n 147) (420 + 7 * x) i)), (4, vi (i : Int))] [] (B0, n)
  | 0, i, hi => by
    have q := sight_le hr x0 x1
    have hle := goneF_le q.2.1.1 i
    have hs : n 4 3 = n 147 0 := hL.2.1.2.1
    have ei : (n 147 0).toNat = i := by omega
    refine gX1_goneAtSight_15 (EI.use (s_size ob_4 (c := 5) rfl ob_5) ⟨fun _ => ⟨fun c => ⟨⟨by omega, by omega⟩, ?_, rfl⟩, fun c => ⟨?_, rfl⟩⟩, fun c => absurd c (by omega)⟩)
    · unfold goneV
      rw [ei, if_neg c]
    · unfold goneV
      rw [ei, if_pos c]
  | m + 1, i, hi => by
    have q := sight_le hr x0 x1
    have hle := goneF_le q.2.1.1 i
    have hs : n 4 3 = n 147 0 := hL.2.1.2.1
    have hT : TR n 4 4 12 0 200 (n 147) := hL.2.1
    have hS : TR n 14 7 40 5 420 (n 147) := hL.2.2.2.2.2.2.1
    have hb : (i : Int) < n 147 0 := by omega
    have h12 : n 147 0 ≤ 12 := by
      rw [← hs]
      exact hT.1.2.2.2
    have nxt := s_goneL (G := G) hL hr x0 x1 m (i + 1) (by omega)
    refine gX1_goneAtSight_15 (EI.use (s_size ob_4 (c := 5) rfl ob_5) ⟨fun c => absurd c (by omega), fun _ => EI.use (s_tr ob_4 rfl ob_5 hT rfl (by decide) (by omega) hb (by decide) (by decide) rfl) (EI.use (s_tr ob_14 rfl ob_15 hS rfl (by decide) x0 x1 (by decide) (by decide) rfl) ⟨fun c => ⟨⟨by omega, by omega⟩, ?_⟩, fun c => EI.use (s_tr ob_14 rfl ob_15 hS rfl (by decide) x0 x1 (by decide) (by decide) rfl) (EI.use (s_passing hL hr (by omega) hb q.2.2.1 q.2.2.2) (fun z ez => ⟨⟨by omega, by omega⟩, ?_⟩))⟩)⟩)
    · rw [Int.add_zero, Int.add_zero] at c
      have e : goneF (n 147) (420 + 7 * x) (i + 1) = goneF (n 147) (420 + 7 * x) i := by
        show goneS _ _ _ _ = _
        unfold goneS
        rw [if_pos c]
      rw [e] at nxt
      exact nxt
    · rw [Int.add_zero, Int.add_zero] at c
      have e : z = goneF (n 147) (420 + 7 * x) (i + 1) := by
        rw [ez]
        show _ = goneS _ _ _ _
        unfold goneS
        rw [if_neg (show ¬ (n 147 (200 + 4 * (i : Int)) ≠ n 147 (420 + 7 * x)) from fun k => k c)]
        by_cases c2 : n 147 (420 + 7 * x + 1) < passV (n 147) i (n 147 (420 + 7 * x + 2))
        · rw [if_pos c2, if_pos c2]
        · rw [if_neg c2, if_neg c2]
          by_cases c3 : passV (n 147) i (n 147 (420 + 7 * x + 2)) ≤ goneF (n 147) (420 + 7 * x) i
          · rw [if_pos c3]
            omega
          · rw [if_neg c3]
            omega
      rw [e]
      exact nxt
theorem s_gone {x : Int} (hL : LakeRel n 1 (n 147)) (hr : RowOk (n 147)) (x0 : 0 ≤ x) (x1 : x < n 147 5) : EI w (d + 3) mX1_goneAtSight [vr 1, vi x] B0 n (goneV (n 147) (420 + 7 * x)) n := by
  have hS : TR n 14 7 40 5 420 (n 147) := hL.2.2.2.2.2.2.1
  have h0 : 0 ≤ n 147 0 := by
    rw [← hL.2.1.2.1]
    exact hL.2.1.1.2.2.1
  exact EI.of (by decide +kernel) (Nat.le_of_ble_eq_true rfl) rfl (fun _ G => gX1_goneAtSight_0 (EI.use (s_tr ob_14 rfl ob_15 hS rfl (by decide) x0 x1 (by decide) (by decide) rfl) (s_goneL hL hr x0 x1 (n 147 0).toNat 0 (by omega))))
end GONE
