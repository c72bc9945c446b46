section LOOK
variable {w : WD} {d : Nat} {n : NM}
def boatF (r : Int → Int) (x : Int) : Nat → Int
  | 0 => 0
  | k + 1 => if boatF r x k ≠ 0 then 1 else if r (200 + 4 * (k : Int)) ≠ x then 0 else 1
theorem boatF_01 {r : Int → Int} {x : Int} : ∀ k : Nat, boatF r x k = 0 ∨ boatF r x k = 1
  | 0 => Or.inl rfl
  | k + 1 => by
    have e : boatF r x (k + 1) = if boatF r x k ≠ 0 then 1 else if r (200 + 4 * (k : Int)) ≠ x then 0 else 1 := rfl
    rw [e]
    split
    · exact Or.inr rfl
    · split
      · exact Or.inl rfl
      · exact Or.inr rfl
theorem boatF_up {r : Int → Int} {x : Int} {i : Nat} (h : boatF r x i = 1) : ∀ m : Nat, boatF r x (i + m) = 1
  | 0 => h
  | m + 1 => by
    show (if boatF r x (i + m) ≠ 0 then (1 : Int) else if r (200 + 4 * ((i + m : Nat) : Int)) ≠ x then 0 else 1) = 1
    rw [boatF_up h m, if_pos (by decide)]
theorem m_boatL {G : GM} {x : Int} (c1 : n 147 0 ≤ 12) : ∀ (m i : Nat), (i : Int) + m = n 147 0 → Rn w mX12_hasBoat d G (fun r h' => r = some (vi (boatF (n 147) x (n 147 0).toNat)) ∧ h' = (B0, n)) 4 [(0, vr 145), (1, vi x), (2, vi (boatF (n 147) x i)), (3, vi (i : Int))] [] (B0, n)
  | 0, i, hi => by
    have ei : (n 147 0).toNat = i := by omega
    exact gX12_hasBoat_4 ⟨fun _ => ⟨boatF_01 i, by rw [ei], rfl⟩, fun q => absurd q (by omega)⟩
  | m + 1, i, hi => by
    have nxt := m_boatL (G := G) (x := x) c1 m (i + 1) (by omega)
    refine gX12_hasBoat_4 ⟨fun q => absurd q (by omega), fun _ => ⟨fun _ => ⟨by omega, by omega⟩, fun _ => ⟨by omega, by omega⟩, fun _ => by omega, fun _ => by omega, fun z ez => ⟨⟨by omega, by omega⟩, ?_⟩⟩⟩
    rw [ez]
    exact nxt
theorem m_hasBoat {x : Int} (c0 : 0 ≤ n 147 0) (c1 : n 147 0 ≤ 12) : EI w d mX12_hasBoat [vr 145, vi x] B0 n (boatF (n 147) x (n 147 0).toNat) n :=
  EI.of (by decide +kernel) (Nat.le_of_ble_eq_true rfl) rfl (fun _ G => gX12_hasBoat_0 (m_boatL c1 (n 147 0).toNat 0 (by omega)))
theorem s_boatL {G : GM} {x : Int} (hL : LakeRel n 1 (n 147)) : ∀ (m i : Nat), (i : Int) + m = n 147 0 → boatF (n 147) x i = 0 → Rn w mX1_hasBoatOn (d + 2) G (fun r h' => r = some (vi (boatF (n 147) x (n 147 0).toNat)) ∧ h' = (B0, n)) 2 [(0, vr 1), (1, vi x), (2, vi (i : Int))] [] (B0, n)
  | 0, i, hi, h0 => by
    have hs : n 4 3 = n 147 0 := hL.2.1.2.1
    have ei : (n 147 0).toNat = i := by omega
    exact gX1_hasBoatOn_2 (EI.use (s_size ob_4 (c := 5) rfl ob_5) ⟨fun _ => ⟨by rw [ei, h0], rfl⟩, fun c => absurd c (by omega)⟩)
  | m + 1, i, hi, h0 => by
    have hs : n 4 3 = n 147 0 := hL.2.1.2.1
    have hT : TR n 4 4 12 0 200 (n 147) := hL.2.1
    have hb : (i : Int) < n 147 0 := by omega
    have h12 : n 147 0 ≤ 12 := by
      rw [← hs]
      exact hT.1.2.2.2
    have es : boatF (n 147) x (i + 1) = if n 147 (200 + 4 * (i : Int)) ≠ x then 0 else 1 := by
      show (if boatF (n 147) x i ≠ 0 then (1 : Int) else if n 147 (200 + 4 * (i : Int)) ≠ x then 0 else 1) = _
      rw [h0, if_neg (by decide)]
    have nxt := fun h => s_boatL (G := G) (x := x) hL m (i + 1) (by omega) h
    refine gX1_hasBoatOn_2 (EI.use (s_size ob_4 (c := 5) rfl ob_5) ⟨fun c => absurd c (by omega), fun _ => EI.use (s_tr ob_4 rfl ob_5 hT rfl (by decide) (by omega) hb (by decide) (by decide) (p := 200 + 4 * (i : Int)) (by omega)) ⟨fun c => ⟨⟨by omega, by omega⟩, nxt (by rw [es, if_pos c])⟩, fun c => ⟨?_, rfl⟩⟩⟩)
    have h1 : boatF (n 147) x (i + 1) = 1 := by
      rw [es, if_neg (fun z => z c)]
    have := boatF_up h1 m
    rw [show i + 1 + m = (n 147 0).toNat by omega] at this
    rw [this]
theorem s_hasBoat {x : Int} (hL : LakeRel n 1 (n 147)) : EI w (d + 2) mX1_hasBoatOn [vr 1, vi x] B0 n (boatF (n 147) x (n 147 0).toNat) n := by
  have h0 : 0 ≤ n 147 0 := by
    rw [← hL.2.1.2.1]
    exact hL.2.1.1.2.2.1
  exact EI.of (by decide +kernel) (Nat.le_of_ble_eq_true rfl) rfl (fun _ G => gX1_hasBoatOn_0 (s_boatL hL (n 147 0).toNat 0 (by omega) rfl))
/-- the next seed -/
def drS (s : Int) : Int := (s * 1103 + 12345) % 1000003
theorem drS_le {s : Int} : 0 ≤ drS s ∧ drS s ≤ 1000002 := by
  unfold drS
  omega
theorem s_draw {m : Int} (h0 : 0 ≤ n 77 2) (h1 : n 77 2 ≤ 1000002) (hm : 0 < m) : EI w d mX10_draw [vr 77, vi m] B0 n (drS (n 77 2) % m) (upn n 77 2 (drS (n 77 2))) := by
  have h := drS_le (s := n 77 2)
  exact EI.of (by decide +kernel) (Nat.le_of_ble_eq_true rfl) rfl (fun _ G => gX10_draw_0 ⟨⟨by omega, by omega⟩, ⟨by omega, by omega⟩, by omega, fun c => absurd c (by omega), fun _ => ⟨h.1, hm, rfl, rfl⟩⟩)
theorem m_draw {m : Int} (h0 : 0 ≤ n 145 36) (h1 : n 145 36 ≤ 1000002) (hm : 0 < m) (hm2 : m ≤ 1000) : EI w d mX12_draw [vr 145, vi m] B0 n (drS (n 145 36) % m) (upn n 145 36 (drS (n 145 36))) := by
  have h := drS_le (s := n 145 36)
  have h2 : 0 ≤ drS (n 145 36) % m := Int.emod_nonneg _ (by omega)
  have h3 : drS (n 145 36) % m < m := Int.emod_lt_of_pos _ hm
  have h4 : inI (drS (n 145 36) % m) := ⟨by omega, by omega⟩
  exact EI.of (by decide +kernel) (Nat.le_of_ble_eq_true rfl) rfl (fun _ G => gX12_draw_0 ⟨⟨by omega, by omega⟩, ⟨by omega, by omega⟩, by omega, h.1, hm, h4, rfl, rfl⟩)
end LOOK
