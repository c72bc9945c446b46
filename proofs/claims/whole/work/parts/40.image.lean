section IMAGE
variable {w : WD} {d : Nat} {n : NM} {G : GM}
/-- the model's image -/
def mimg (n : NM) (k : Int) : NM := upn (upn (wrow n 148 (1800 * k) 1800 (n 147)) 149 k 1) 145 1 0
theorem m_imageL {k : Int} (k0 : 0 ≤ k) (k1 : k < 2) : ∀ (m j : Nat), j + m = 1800 → Rn w mX12_image (d + 1) G (fun r h' => r = some (vi 0) ∧ h' = (B0, mimg n k)) 23 [(0, vr 145), (1, vi k), (2, vi (j : Int))] [] (B0, wrow n 148 (1800 * k) (j : Int) (n 147))
  | 0, j, hj => by
    have ej : j = 1800 := by omega
    subst ej
    exact gX12_image_23 ⟨fun _ => ⟨k0, k1, EI.use (m_tell0 (by decide)) ⟨rfl, rfl⟩⟩, fun c => absurd c (by omega)⟩
  | m + 1, j, hj => by
    have nxt := m_imageL k0 k1 m (j + 1) (by omega)
    refine gX12_image_23 ⟨fun c => absurd c (by omega), fun _ => ⟨⟨by omega, by omega⟩, ⟨by omega, by omega⟩, by omega, by omega, by omega, by omega, ⟨by omega, by omega⟩, ?_⟩⟩
    rw [wrow_a (show (147 : Nat) ≠ 148 by decide), wrow_more (by omega) (by omega) rfl]
    exact nxt
/-- the model's way back -/
def mbck (n : NM) (k : Int) : NM := upn (wrow n 147 0 1800 (fun i => n 148 (1800 * k + i))) 145 1 0
theorem m_backL {k : Int} (k0 : 0 ≤ k) (k1 : k < 2) : ∀ (m j : Nat), j + m = 1800 → Rn w mX12_back (d + 1) G (fun r h' => r = some (vi 0) ∧ h' = (B0, mbck n k)) 39 [(0, vr 145), (1, vi k), (2, vi (j : Int))] [] (B0, wrow n 147 0 (j : Int) (fun i => n 148 (1800 * k + i)))
  | 0, j, hj => by
    have ej : j = 1800 := by omega
    subst ej
    exact gX12_back_39 ⟨fun _ => EI.use (m_tell0 (by decide)) ⟨rfl, rfl⟩, fun c => absurd c (by omega)⟩
  | m + 1, j, hj => by
    have nxt := m_backL k0 k1 m (j + 1) (by omega)
    refine gX12_back_39 ⟨fun c => absurd c (by omega), fun _ => ⟨⟨by omega, by omega⟩, ⟨by omega, by omega⟩, by omega, by omega, by omega, by omega, ⟨by omega, by omega⟩, ?_⟩⟩
    rw [wrow_a (show (148 : Nat) ≠ 147 by decide), wrow_more (by omega) (by omega) rfl]
    exact nxt
end IMAGE
