section WORLD
variable {w : WD} {d : Nat} {n : NM}
/-- the sum of what the watcher y (all, if -1) has seen of the sort s among the first k -/
def wsF (f : Int → Int) (s y : Int) : Nat → Int
  | 0 => 0
  | k + 1 => wsF f s y k + (if y = -1 then f (3 * (k : Int) + s) else if y ≠ (k : Int) then 0 else f (3 * (k : Int) + s))
theorem wsF_le {f : Int → Int} {s y N : Int} (s0 : 0 ≤ s) (s1 : s ≤ 2) (hf : ∀ j, 0 ≤ j → j < 3 * N → 0 ≤ f j ∧ f j ≤ 60) : ∀ k : Nat, (k : Int) ≤ N → 0 ≤ wsF f s y k ∧ wsF f s y k ≤ 60 * k
  | 0, _ => ⟨Int.le_refl _, Int.le_refl _⟩
  | k + 1, hk => by
    have ih := wsF_le (y := y) s0 s1 hf k (by omega)
    have h := hf (3 * (k : Int) + s) (by omega) (by omega)
    have e : wsF f s y (k + 1) = wsF f s y k + (if y = -1 then f (3 * (k : Int) + s) else if y ≠ (k : Int) then 0 else f (3 * (k : Int) + s)) := rfl
    rw [e]
    split
    · omega
    · split <;> omega
theorem wsF_one {f : Int → Int} {s : Int} {y : Nat} : ∀ k : Nat, wsF f s (y : Int) k = if y < k then f (3 * (y : Int) + s) else 0
  | 0 => by
    rw [if_neg (by omega)]
    rfl
  | k + 1 => by
    have e : wsF f s (y : Int) (k + 1) = wsF f s (y : Int) k + (if (y : Int) = -1 then f (3 * (k : Int) + s) else if (y : Int) ≠ (k : Int) then 0 else f (3 * (k : Int) + s)) := rfl
    rw [e, wsF_one k, if_neg (show ¬ (y : Int) = -1 by omega)]
    by_cases c : y = k
    · subst c
      rw [if_neg (Nat.lt_irrefl y), if_neg (fun z => z rfl), if_pos (Nat.lt_succ_self y)]
      omega
    · rw [if_pos (show (y : Int) ≠ (k : Int) by omega)]
      by_cases c2 : y < k
      · rw [if_pos c2, if_pos (by omega)]
        omega
      · rw [if_neg c2, if_neg (by omega)]
        rfl
theorem s_wallL {G : GM} {s : Int} (hW : WorldRel n) (s0 : 0 ≤ s) (s1 : s ≤ 2) : ∀ (m i : Nat), (i : Int) + m = n 78 3 → Rn w mX10_seenByAll (d + 2) G (fun r h' => r = some (vi (if n 77 1 = 0 then -1 else wsF (n 79) s (-1) (n 78 3).toNat)) ∧ h' = (B0, n)) 4 [(0, vr 77), (1, vi s), (2, vi (wsF (n 79) s (-1) i)), (3, vi (i : Int))] [] (B0, n)
  | 0, i, hi => by
    have ei : (n 78 3).toNat = i := by omega
    refine gX10_seenByAll_4 (EI.use (s_size ob_78 (c := 79) rfl ob_79) ⟨fun _ => ⟨fun c => ⟨by rw [if_pos c], rfl⟩, fun c => ⟨by rw [if_neg c, ei], rfl⟩⟩, fun c => absurd c (by omega)⟩)
  | m + 1, i, hi => by
    obtain ⟨hT, hw, hv⟩ := hW
    have hv2 : ∀ j, 0 ≤ j → j < 3 * n 78 3 → 0 ≤ n 79 j ∧ n 79 j ≤ 60 := fun j a b => (hv j a b).2
    have h12 := hT.2.2.2
    have nxt := s_wallL (G := G) ⟨hT, hw, hv⟩ s0 s1 m (i + 1) (by omega)
    have le := wsF_le (y := -1) s0 s1 hv2 i (by omega)
    have h1 := hv2 (3 * (i : Int) + s) (by omega) (by omega)
    have g := s_get (w := w) (d := d) ob_78 (c := 79) rfl ob_79 hT rfl (by decide) (i : Int) s
    rw [tg_in hT (by omega) (by omega) s0 (by omega), show (i : Int) * 3 + s = 3 * (i : Int) + s by omega] at g
    refine gX10_seenByAll_4 (EI.use (s_size ob_78 (c := 79) rfl ob_79) ⟨fun c => absurd c (by omega), fun _ => EI.use g ⟨⟨by omega, by omega⟩, ⟨by omega, by omega⟩, ?_⟩⟩)
    exact nxt
theorem m_wallL {G : GM} {s y : Int} {f : Int → Int} (hN : n 145 37 ≤ 12) (he : ∀ j, 0 ≤ j → j < 3 * n 145 37 → n 164 j = f j ∧ 0 ≤ f j ∧ f j ≤ 60) (s0 : 0 ≤ s) (s1 : s ≤ 2) : ∀ (m i : Nat), (i : Int) + m = n 145 37 → Rn w mX12_world d G (fun r h' => r = some (vi (wsF f s y (n 145 37).toNat)) ∧ h' = (B0, n)) 50 [(0, vr 145), (1, vi s), (2, vi y), (3, vi (wsF f s y i)), (4, vi (i : Int))] [] (B0, n)
  | 0, i, hi => by
    have ei : (n 145 37).toNat = i := by omega
    exact gX12_world_50 ⟨fun _ => ⟨by rw [ei], rfl⟩, fun c => absurd c (by omega)⟩
  | m + 1, i, hi => by
    have nxt := m_wallL (G := G) (y := y) hN he s0 s1 m (i + 1) (by omega)
    have le := wsF_le (y := y) (N := n 145 37) s0 s1 (fun j a b => (he j a b).2) i (by omega)
    have h1 := he (3 * (i : Int) + s) (by omega) (by omega)
    refine gX12_world_50 ⟨fun c => absurd c (by omega), fun _ => ⟨fun _ => ⟨by omega, by omega⟩, fun _ => ⟨by omega, by omega⟩, fun _ => by omega, fun _ => by omega, fun _ _ => ⟨by omega, by omega⟩, fun _ _ => ⟨by omega, by omega⟩, fun _ _ => by omega, fun _ _ => by omega, fun z ez => ?_⟩⟩
    rw [h1.1] at ez
    have zl : 0 ≤ z ∧ z ≤ 60 := by
      rw [ez]
      split
      · exact h1.2
      · split
        · omega
        · exact h1.2
    refine ⟨⟨by omega, by omega⟩, ⟨by omega, by omega⟩, ?_⟩
    rw [ez]
    exact nxt
theorem st_world {k : Int} (h : Rel k n) (x1 x2 : Int) : LStp w (d + 5) k n mX11_world [vi x1, vi x2] mX12_world [vi x1, vi x2] := by
  have hW : WorldRel n := h.2.2.2.2.2.2.1
  obtain ⟨hT, hw, hv⟩ := id hW
  have h0 := hT.2.2.1
  have h12 := hT.2.2.2
  have e37 : (upn n 145 0 0) 145 37 = n 145 37 := upn_i (by decide)
  have e164 : (upn n 145 0 0) 164 = n 164 := upn_ne (by decide)
  refine ⟨if 0 ≤ x1 ∧ x1 ≤ 2 then (if n 77 1 = 0 then -1 else if -1 ≤ x2 ∧ x2 < n 78 3 then wsF (n 79) x1 x2 (n 78 3).toNat else -1) else -1, n, upn n 145 0 0, ?_, ?_, h.zero.le (by omega)⟩
  · refine EI.of (by decide +kernel) (Nat.le_of_ble_eq_true rfl) rfl (fun _ G => gX11_world_0 (EI.use (s_within _ _ _) (ite10 (fun c => ?_) (fun c => ⟨by rw [if_neg c], rfl⟩))))
    rw [if_pos c]
    refine ⟨fun c2 => ?_, fun c2 => ?_⟩
    · have sb : EI w (d + 4) mX10_seenBy [vr 77, vi x2, vi x1] B0 n (if 0 ≤ x2 ∧ x2 < n 78 3 then n 79 (x2 * 3 + x1) else -1) n := by
        refine EI.of (by decide +kernel) (Nat.le_of_ble_eq_true rfl) rfl (fun _ G => gX10_seenBy_0 (EI.use (s_holds ob_78 (c := 79) rfl ob_79 _) (ite01 (fun z => ⟨by rw [if_neg z], rfl⟩) (fun z => EI.use (s_get ob_78 (c := 79) rfl ob_79 hT rfl (by decide) _ _) ⟨?_, rfl⟩))))
        rw [if_pos z, tg_in hT z.1 z.2 c.1 (by omega)]
      refine EI.use sb ⟨?_, rfl⟩
      by_cases q : 0 ≤ x2 ∧ x2 < n 78 3
      · rw [if_pos q]
        rcases hw with ⟨a, b, e⟩ | ⟨a, b⟩
        · omega
        · rw [if_neg (by omega), if_pos (by omega)]
          have := wsF_one (f := n 79) (s := x1) (y := x2.toNat) (n 78 3).toNat
          rw [show ((x2.toNat : Nat) : Int) = x2 by omega, if_pos (by omega)] at this
          rw [this, show x2 * 3 + x1 = 3 * x2 + x1 by omega]
      · rw [if_neg q]
        by_cases q2 : n 77 1 = 0
        · rw [if_pos q2]
        · rw [if_neg q2, if_neg (by omega)]
    · have sa : EI w (d + 4) mX10_seenByAll [vr 77, vi x1] B0 n (if n 77 1 = 0 then -1 else wsF (n 79) x1 (-1) (n 78 3).toNat) n := EI.of (by decide +kernel) (Nat.le_of_ble_eq_true rfl) rfl (fun _ G => gX10_seenByAll_0 (s_wallL hW c.1 c.2 (n 78 3).toNat 0 (by omega)))
      refine EI.use sa ⟨?_, rfl⟩
      by_cases q2 : n 77 1 = 0
      · rw [if_pos q2, if_pos q2]
      · rw [if_neg q2, if_neg q2, if_pos (by omega), c2]
  · refine EI.of (by decide +kernel) (Nat.le_of_ble_eq_true rfl) rfl (fun _ G => gX12_world_0 (EI.use (m_in _ _ _) (ite01 (fun c => ⟨by rw [if_neg c], rfl⟩) (fun c => ?_))))
    rw [e37, if_pos c]
    rcases hw with ⟨a, b, e⟩ | ⟨a, b⟩
    · exact ⟨fun _ => ⟨by rw [if_pos a], rfl⟩, fun z => absurd b z⟩
    · rw [if_neg (show ¬ n 77 1 = 0 by omega)]
      have ml := fun (G : GM) => m_wallL (G := G) (w := w) (d := d + 5) (n := upn n 145 0 0) (s := x1) (y := x2) (f := n 79) (by rw [e37]; omega) (by rw [e37, e164, b]; exact hv) c.1 c.2
      rw [e37, b] at ml
      refine ⟨fun z => absurd z (by omega), fun _ => ⟨⟨by omega, by omega⟩, EI.use (m_in _ _ _) (ite10 (fun c2 => ?_) (fun c2 => ⟨by rw [if_neg (by omega)], rfl⟩))⟩⟩
      rw [if_pos (by omega)]
      exact ml G (n 78 3).toNat 0 (by omega)
end WORLD
