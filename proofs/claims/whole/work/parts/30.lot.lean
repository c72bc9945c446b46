section LOT
variable {w : WD} {d : Nat} {n : NM}
theorem ior_0 {x : Int} (h : inI x) : ior x 0 = x := by
  show (Int32.ofInt x ||| 0).toInt = x
  rw [Int32.or_zero]
  exact Int32.toInt_ofInt_of_le h.1 (by have := h.2; omega)
theorem pw6 : ∀ i : Nat, i < 6 → inI (1 * ((2 ^ i : Nat) : Int))
  | 0, _ => ⟨by decide, by decide⟩
  | 1, _ => ⟨by decide, by decide⟩
  | 2, _ => ⟨by decide, by decide⟩
  | 3, _ => ⟨by decide, by decide⟩
  | 4, _ => ⟨by decide, by decide⟩
  | 5, _ => ⟨by decide, by decide⟩
  | k + 6, h => absurd h (by omega)
/-- whether so many can be by the kin's numbers -/
def cbV (r : Int → Int) (u m : Int) : Int := if u = 0 then 1 else if u < r 10 then 0 else if r 11 < u * m * r 12 then 0 else 1
theorem cb_le {r : Int → Int} (hr : RowOk r) {u m : Int} (u0 : 0 ≤ u) (u1 : u ≤ 20) (m0 : 0 ≤ m) (m1 : m ≤ 60) : (0 ≤ u * m ∧ u * m ≤ 1200) ∧ 0 ≤ u * m * r 12 ∧ u * m * r 12 ≤ 120000 := by
  have h := mulb u0 u1 m0 m1
  have q := hr.2.2.2.2.2.2.2.2.2.2.2.2.2
  have h2 := mulb (A := 1200) (B := 100) h.1 h.2 (b := r 12) (by omega) q.2
  exact ⟨h, h2⟩
theorem s_canBe (hL : LakeRel n 1 (n 147)) (hr : RowOk (n 147)) {u m : Int} (u0 : 0 ≤ u) (u1 : u ≤ 20) (m0 : 0 ≤ m) (m1 : m ≤ 60) : EI w (d + 2) mX1_canBe [vr 1, vi u, vi m] B0 n (cbV (n 147) u m) n := by
  have hF : FR n 31 3 1 10 (n 147) := hL.2.2.2.2.2.2.2.2.2.2.2.2.2
  have q := cb_le hr u0 u1 m0 m1
  refine EI.of (by decide +kernel) (Nat.le_of_ble_eq_true rfl) rfl (fun _ G => gX1_canBe_0 (EI.use (s_fr ob_31 rfl ob_32 hF rfl (by decide) (by decide) (by decide) (by decide) (by decide) (p := 10) rfl) (fun z1 e1 => ⟨⟨by omega, by omega⟩, EI.use (s_fr ob_31 rfl ob_32 hF rfl (by decide) (by decide) (by decide) (by decide) (by decide) (p := 12) rfl) ⟨⟨by omega, by omega⟩, EI.use (s_fr ob_31 rfl ob_32 hF rfl (by decide) (by decide) (by decide) (by decide) (by decide) (p := 11) rfl) (fun z2 e2 => ⟨fun c => ⟨?_, rfl⟩, fun c => ⟨fun c2 => ⟨?_, rfl⟩, fun c2 => ⟨fun c3 => ⟨?_, rfl⟩, fun c3 => ⟨?_, rfl⟩⟩⟩⟩)⟩⟩)))
  · unfold cbV
    rw [if_pos c]
  · unfold cbV
    rw [if_neg c]
    by_cases k : u < n 147 10
    · rw [if_pos k]
    · rw [if_neg k] at e1
      omega
  · unfold cbV
    rw [if_neg c]
    by_cases k : u < n 147 10
    · rw [if_pos k] at e1
      omega
    · rw [if_neg k]
      by_cases k2 : n 147 11 < u * m * n 147 12
      · rw [if_pos k2]
      · rw [if_neg k2] at e2
        omega
  · unfold cbV
    rw [if_neg c]
    by_cases k : u < n 147 10
    · rw [if_pos k] at e1
      omega
    · rw [if_neg k]
      by_cases k2 : n 147 11 < u * m * n 147 12
      · rw [if_pos k2] at e2
        omega
      · rw [if_neg k2]
/-- the stories that can be, as bits -/
def lotT (r : Int → Int) : Nat → Int
  | 0 => 0
  | k + 1 => if cbV r (r (700 + 3 * (k : Int) + 1)) (r (700 + 3 * (k : Int) + 2)) = 0 then lotT r k else ior (lotT r k) (1 * ((2 ^ k : Nat) : Int))
theorem lotT_in {r : Int → Int} : ∀ k : Nat, inI (lotT r k)
  | 0 => (show inI 0 from ⟨by decide, by decide⟩)
  | k + 1 => by
    have ih := lotT_in (r := r) k
    have e : lotT r (k + 1) = if cbV r (r (700 + 3 * (k : Int) + 1)) (r (700 + 3 * (k : Int) + 2)) = 0 then lotT r k else ior (lotT r k) (1 * ((2 ^ k : Nat) : Int)) := rfl
    rw [e]
    split
    · exact ih
    · exact ior_in _ _
theorem s_lotL {G : GM} (hL : LakeRel n 1 (n 147)) (hr : RowOk (n 147)) (hn : NumsOk (n 147)) : ∀ (m i : Nat), (i : Int) + m = n 147 7 → Rn w mX1_storiesThatCanBe (d + 3) G (fun r h' => r = some (vi (lotT (n 147) (n 147 7).toNat)) ∧ h' = (B0, n)) 4 [(0, vr 1), (1, vi (lotT (n 147) i)), (2, vi (i : Int))] [] (B0, n)
  | 0, i, hi => by
    have hs : n 21 3 = n 147 7 := hL.2.2.2.2.2.2.2.2.1.2.1
    have ei : (n 147 7).toNat = i := by omega
    exact gX1_storiesThatCanBe_4 (EI.use (s_size ob_21 (c := 22) rfl ob_22) ⟨fun _ => ⟨by rw [ei], rfl⟩, fun c => absurd c (by omega)⟩)
  | m + 1, i, hi => by
    have hs : n 21 3 = n 147 7 := hL.2.2.2.2.2.2.2.2.1.2.1
    have hT : TR n 21 3 6 7 700 (n 147) := hL.2.2.2.2.2.2.2.2.1
    have h6 := hn.2.2.2.2.2.2.1
    have hb : (i : Int) < n 147 7 := by omega
    have sr := hr.2.2.2.2.2.2.1 i (by omega) hb
    have nxt := s_lotL (G := G) hL hr hn m (i + 1) (by omega)
    refine gX1_storiesThatCanBe_4 (EI.use (s_size ob_21 (c := 22) rfl ob_22) ⟨fun c => absurd c (by omega), fun _ => EI.use (s_tr ob_21 rfl ob_22 hT rfl (by decide) (by omega) hb (by decide) (by decide) rfl) (EI.use (s_tr ob_21 rfl ob_22 hT rfl (by decide) (by omega) hb (by decide) (by decide) rfl) (EI.use (s_canBe hL hr sr.2.1.1 sr.2.1.2 (by omega) (by omega)) ⟨fun c => ⟨⟨by omega, by omega⟩, ?_⟩, fun c => ⟨i, rfl, by omega, pw6 i (by omega), ⟨by omega, by omega⟩, ?_⟩⟩))⟩)
    · rw [show lotT (n 147) (i + 1) = lotT (n 147) i from if_pos c] at nxt
      exact nxt
    · rw [show lotT (n 147) (i + 1) = ior (lotT (n 147) i) (1 * ((2 ^ i : Nat) : Int)) from if_neg c] at nxt
      exact nxt
theorem m_lotL {G : GM} (hr : RowOk (n 147)) (hn : NumsOk (n 147)) : ∀ (m i : Nat), (i : Int) + m = n 147 7 → Rn w mX12_lot d G (fun r h' => r = some (vi (lotT (n 147) (n 147 7).toNat)) ∧ h' = (B0, n)) 45 [(0, vr 145), (2, vi (lotT (n 147) i)), (3, vi (i : Int))] [] (B0, n)
  | 0, i, hi => by
    have ei : (n 147 7).toNat = i := by omega
    exact gX12_lot_45 ⟨fun _ => ⟨by rw [ei], rfl⟩, fun c => absurd c (by omega)⟩
  | m + 1, i, hi => by
    have h6 := hn.2.2.2.2.2.2.1
    have hb : (i : Int) < n 147 7 := by omega
    have sr := hr.2.2.2.2.2.2.1 i (by omega) hb
    have cl := cb_le hr sr.2.1.1 sr.2.1.2 (m := n 147 (700 + 3 * (i : Int) + 2)) (by omega) (by omega)
    have nxt := m_lotL (G := G) hr hn m (i + 1) (by omega)
    refine gX12_lot_45 ⟨fun z => absurd z (by omega), fun _ => ⟨⟨by omega, by omega⟩, ⟨by omega, by omega⟩, ⟨by omega, by omega⟩, by omega, by omega, fun _ _ => ⟨by omega, by omega⟩, fun _ _ => ⟨by omega, by omega⟩, fun _ _ => ⟨by omega, by omega⟩, fun _ _ => by omega, fun _ _ => by omega, fun _ _ => ⟨by omega, by omega⟩, fun _ _ => ⟨by omega, by omega⟩, fun z ez => ⟨fun c => ⟨⟨by omega, by omega⟩, ?_⟩, fun c => ⟨i, rfl, by omega, pw6 i (by omega), ⟨by omega, by omega⟩, ?_⟩⟩⟩⟩
    · have ez2 : z = cbV (n 147) (n 147 (700 + 3 * (i : Int) + 1)) (n 147 (700 + 3 * (i : Int) + 2)) := ez
      rw [ez2] at c
      rw [show lotT (n 147) (i + 1) = lotT (n 147) i from if_pos c] at nxt
      rw [ior_0 (lotT_in i)]
      exact nxt
    · have ez2 : z = cbV (n 147) (n 147 (700 + 3 * (i : Int) + 1)) (n 147 (700 + 3 * (i : Int) + 2)) := ez
      rw [ez2] at c
      rw [show lotT (n 147) (i + 1) = ior (lotT (n 147) i) (1 * ((2 ^ i : Nat) : Int)) from if_neg c] at nxt
      exact nxt
theorem s_greatest (hL : LakeRel n 1 (n 147)) (hr : RowOk (n 147)) {x : Int} (x0 : 0 < x) (x1 : x ≤ 60) : EI w (d + 2) mX1_greatestNumberOf [vr 1, vi x] B0 n (n 147 11 / (x * n 147 12)) n := by
  have hF : FR n 31 3 1 10 (n 147) := hL.2.2.2.2.2.2.2.2.2.2.2.2.2
  have q := hr.2.2.2.2.2.2.2.2.2.2.2.2
  have h2 := mulb (a := x) (A := 60) (B := 100) (by omega) x1 (b := n 147 12) (by omega) q.2.2
  have h3 : 0 < x * n 147 12 := Int.mul_pos x0 (by omega)
  exact EI.of (by decide +kernel) (Nat.le_of_ble_eq_true rfl) rfl (fun _ G => gX1_greatestNumberOf_0 (EI.use (s_fr ob_31 rfl ob_32 hF rfl (by decide) (by decide) (by decide) (by decide) (by decide) (p := 12) rfl) ⟨⟨by omega, by omega⟩, fun _ => EI.use (s_fr ob_31 rfl ob_32 hF rfl (by decide) (by decide) (by decide) (by decide) (by decide) (p := 11) rfl) ⟨q.1.1, h3, rfl, rfl⟩, fun c => absurd c (by omega)⟩))
theorem st_lot {k : Int} (h : Rel k n) (x : Int) : LStp w (d + 5) k n mX11_lot [vi x] mX12_lot [vi x] := by
  have e147 : (upn n 145 0 0) 147 = n 147 := upn_ne (by decide)
  have ml := fun (G : GM) => m_lotL (G := G) (w := w) (d := d + 5) (n := upn n 145 0 0) (by rw [e147]; exact h.2.1) (by rw [e147]; exact h.numsOk)
  rw [e147] at ml
  have h7 := h.numsOk.2.2.2.2.2.2.1
  have q := h.2.1.2.2.2.2.2.2.2.2.2.2.2.2
  refine ⟨if 0 ≤ x ∧ x ≤ 60 then (if x = 0 then lotT (n 147) (n 147 7).toNat else n 147 11 / (x * n 147 12)) else -1, n, upn n 145 0 0, ?_, ?_, h.zero.le (by omega)⟩
  · have s0 : EI w (d + 4) mX1_storiesThatCanBe [vr 1] B0 n (lotT (n 147) (n 147 7).toNat) n := EI.of (by decide +kernel) (Nat.le_of_ble_eq_true rfl) rfl (fun _ G => gX1_storiesThatCanBe_0 (s_lotL h.1 h.2.1 h.numsOk (n 147 7).toNat 0 (by omega)))
    refine EI.of (by decide +kernel) (Nat.le_of_ble_eq_true rfl) rfl (fun _ G => gX11_lot_0 (EI.use (s_within _ _ _) (ite10 (fun c => ⟨fun c2 => EI.use (s_greatest h.1 h.2.1 (by omega) c.2) ⟨?_, rfl⟩, fun c2 => EI.use s0 ⟨?_, rfl⟩⟩) (fun c => ⟨?_, rfl⟩))))
    · rw [if_pos c, if_neg c2]
    · rw [if_pos c, if_pos c2]
    · rw [if_neg c]
  · refine EI.of (by decide +kernel) (Nat.le_of_ble_eq_true rfl) rfl (fun _ G => gX12_lot_0 (EI.use (m_in _ _ _) (ite10 (fun c => ⟨fun c2 => ?_, fun c2 => ?_⟩) (fun c => ⟨?_, rfl⟩))))
    · rw [if_pos c, if_pos (by omega)]
      exact ml G (n 147 7).toNat 0 (by omega)
    · have h2 := mulb (a := x) (A := 60) (B := 100) (by omega) c.2 (b := n 147 12) (by omega) q.2.2
      have h3 : 0 < x * n 147 12 := Int.mul_pos c2 (by omega)
      rw [e147, if_pos c, if_neg (by omega)]
      exact ⟨⟨by omega, by omega⟩, q.1.1, h3, rfl, rfl⟩
    · rw [if_neg c]
end LOT
