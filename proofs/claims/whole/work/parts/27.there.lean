section THERE
variable {w : WD} {d : Nat} {n : NM}
abbrev beastOn (r : Int → Int) (s b : Int) : Prop := r (250 + 4 * b) = r s ∧ (-1 ≤ r (s + 2) - r (250 + 4 * b + 1) ∧ r (s + 2) - r (250 + 4 * b + 1) ≤ 1) ∧ r (250 + 4 * b + 2) ≤ r (s + 1) ∧ r (s + 1) ≤ r (250 + 4 * b + 3)
def beastF (r : Int → Int) (s : Int) : Nat → Int
  | 0 => 0
  | k + 1 => if beastF r s k ≠ 0 then 1 else if beastOn r s (k : Int) then 1 else 0
theorem beastF_01 {r : Int → Int} {s : Int} : ∀ k : Nat, beastF r s k = 0 ∨ beastF r s k = 1
  | 0 => Or.inl rfl
  | k + 1 => by
    show (if beastF r s k ≠ 0 then (1 : Int) else if beastOn r s (k : Int) then 1 else 0) = 0 ∨ (if beastF r s k ≠ 0 then (1 : Int) else if beastOn r s (k : Int) then 1 else 0) = 1
    split
    · exact Or.inr rfl
    · split
      · exact Or.inr rfl
      · exact Or.inl rfl
theorem beastF_up {r : Int → Int} {s : Int} {i : Nat} (h : beastF r s i = 1) : ∀ m : Nat, beastF r s (i + m) = 1
  | 0 => h
  | m + 1 => by
    show (if beastF r s (i + m) ≠ 0 then (1 : Int) else if beastOn r s ((i + m : Nat) : Int) then 1 else 0) = 1
    rw [beastF_up h m, if_pos (by decide)]
theorem m_beastL {G : GM} {s : Int} (hr : RowOk (n 147)) (c1 : n 147 1 ≤ 12) (s0 : 0 ≤ s) (s1 : s + 2 < 1800) (t1 : 0 ≤ n 147 (s + 2) ∧ n 147 (s + 2) ≤ 23) : ∀ (m i : Nat), (i : Int) + m = n 147 1 → Rn w mX12_isBeast (d + 1) G (fun r h' => r = some (vi (beastF (n 147) s (n 147 1).toNat)) ∧ h' = (B0, n)) 4 [(0, vr 145), (1, vi s), (2, vi (beastF (n 147) s i)), (3, vi (i : Int))] [] (B0, n)
  | 0, i, hi => by
    have ei : (n 147 1).toNat = i := by omega
    refine gX12_isBeast_4 ⟨fun _ => ⟨beastF_01 i, by rw [ei], rfl⟩, fun q => absurd q (by omega)⟩
  | m + 1, i, hi => by
    have hb : (i : Int) < n 147 1 := by omega
    have nxt := m_beastL (G := G) hr c1 s0 s1 t1 m (i + 1) (by omega)
    have br := hr.2.2.1 i (by omega) hb
    have es : beastF (n 147) s (i + 1) = if beastF (n 147) s i ≠ 0 then (1 : Int) else if beastOn (n 147) s (i : Int) then 1 else 0 := rfl
    rw [es] at nxt
    refine gX12_isBeast_4 ⟨fun q => absurd q (by omega), fun _ => ⟨⟨by omega, by omega⟩, ⟨by omega, by omega⟩, fun q => ⟨⟨by omega, by omega⟩, ?_⟩, fun q => ⟨by omega, by omega, by omega, by omega, fun c => ⟨⟨by omega, by omega⟩, ?_⟩, fun c => ⟨⟨by omega, by omega⟩, by omega, by omega, ⟨by omega, by omega⟩, by omega, by omega, ⟨by omega, by omega⟩, EI.use (m_in _ _ _) (ite01 (fun c2 => ⟨⟨by omega, by omega⟩, ?_⟩) (fun c2 => ⟨⟨by omega, by omega⟩, by omega, by omega, ⟨by omega, by omega⟩, by omega, by omega, ⟨by omega, by omega⟩, by omega, by omega, EI.use (m_in _ _ _) (fun z ez => ⟨⟨by omega, by omega⟩, ?_⟩)⟩))⟩⟩⟩⟩
    · rw [if_pos q] at nxt
      exact nxt
    · rw [if_neg (by omega), if_neg (fun k => c k.1)] at nxt
      exact nxt
    · rw [if_neg (by omega), if_neg (fun k => c2 k.2.1)] at nxt
      exact nxt
    · have e : z = if beastOn (n 147) s (i : Int) then 1 else 0 := by
        rw [ez]
        by_cases c3 : n 147 (250 + 4 * (i : Int) + 2) ≤ n 147 (s + 1) ∧ n 147 (s + 1) ≤ n 147 (250 + 4 * (i : Int) + 3)
        · rw [if_pos c3, if_neg (by decide), if_pos ⟨c, c2, c3⟩]
        · rw [if_neg c3, if_pos rfl, if_neg (fun k => c3 k.2.2)]
      rw [if_neg (by omega)] at nxt
      rw [e]
      exact nxt
theorem m_isBeast {i : Int} (hr : RowOk (n 147)) (c0 : 0 ≤ n 147 1) (c1 : n 147 1 ≤ 12) (i0 : 0 ≤ i) (i1 : i < n 147 5) (i2 : n 147 5 ≤ 40) : EI w (d + 1) mX12_isBeast [vr 145, vi (420 + 7 * i)] B0 n (beastF (n 147) (420 + 7 * i) (n 147 1).toNat) n := by
  have q := sight_le hr i0 i1
  exact EI.of (by decide +kernel) (Nat.le_of_ble_eq_true rfl) rfl (fun _ G => gX12_isBeast_0 (m_beastL hr c1 (by omega) (by omega) q.2.2 (n 147 1).toNat 0 (by omega)))
theorem s_beastL {G : GM} {x : Int} (hL : LakeRel n 1 (n 147)) (hr : RowOk (n 147)) (x0 : 0 ≤ x) (x1 : x < n 147 5) : ∀ (m i : Nat), (i : Int) + m = n 147 1 → beastF (n 147) (420 + 7 * x) i = 0 → Rn w mX1_hasBeastAt (d + 2) G (fun r h' => r = some (vi (beastF (n 147) (420 + 7 * x) (n 147 1).toNat)) ∧ h' = (B0, n)) 2 [(0, vr 1), (1, vi x), (2, vi (i : Int))] [] (B0, n)
  | 0, i, hi, h0 => by
    have hs : n 6 3 = n 147 1 := hL.2.2.1.2.1
    have ei : (n 147 1).toNat = i := by omega
    exact gX1_hasBeastAt_2 (EI.use (s_size ob_6 (c := 7) rfl ob_7) ⟨fun _ => ⟨by rw [ei, h0], rfl⟩, fun c => absurd c (by omega)⟩)
  | m + 1, i, hi, h0 => by
    have q := sight_le hr x0 x1
    have hs : n 6 3 = n 147 1 := hL.2.2.1.2.1
    have hT : TR n 6 4 12 1 250 (n 147) := hL.2.2.1
    have hS : TR n 14 7 40 5 420 (n 147) := hL.2.2.2.2.2.2.1
    have hb : (i : Int) < n 147 1 := by omega
    have br := hr.2.2.1 i (by omega) hb
    have h12 : n 147 1 ≤ 12 := by
      rw [← hs]
      exact hT.1.2.2.2
    have es : beastF (n 147) (420 + 7 * x) (i + 1) = if beastOn (n 147) (420 + 7 * x) (i : Int) then 1 else 0 := by
      show (if beastF (n 147) (420 + 7 * x) i ≠ 0 then (1 : Int) else if beastOn (n 147) (420 + 7 * x) (i : Int) then 1 else 0) = _
      rw [h0, if_neg (by decide)]
    have nxt := fun h => s_beastL (G := G) hL hr x0 x1 m (i + 1) (by omega) h
    have no : ¬ beastOn (n 147) (420 + 7 * x) (i : Int) → beastF (n 147) (420 + 7 * x) (i + 1) = 0 := fun c => by
      rw [es, if_neg c]
    refine gX1_hasBeastAt_2 (EI.use (s_size ob_6 (c := 7) rfl ob_7) ⟨fun c => absurd c (by omega), fun _ => EI.use (s_tr ob_6 rfl ob_7 hT rfl (by decide) (by omega) hb (by decide) (by decide) rfl) (EI.use (s_tr ob_14 rfl ob_15 hS rfl (by decide) x0 x1 (by decide) (by decide) rfl) (fun z ez => EI.use (s_tr ob_6 rfl ob_7 hT rfl (by decide) (by omega) hb (by decide) (by decide) rfl) (EI.use (s_tr ob_14 rfl ob_15 hS rfl (by decide) x0 x1 (by decide) (by decide) rfl) ⟨⟨by omega, by omega⟩, by omega, EI.use (s_tr ob_6 rfl ob_7 hT rfl (by decide) (by omega) hb (by decide) (by decide) rfl) (EI.use (s_tr ob_6 rfl ob_7 hT rfl (by decide) (by omega) hb (by decide) (by decide) rfl) ?_)⟩)))⟩)
    rw [Int.add_zero, Int.add_zero] at ez
    refine ⟨fun cz => ⟨⟨by omega, by omega⟩, nxt (no (fun k => ?_))⟩, fun cz => ⟨fun c => ⟨⟨by omega, by omega⟩, nxt (no (fun k => ?_))⟩, fun c => EI.use (s_tr ob_14 rfl ob_15 hS rfl (by decide) x0 x1 (by decide) (by decide) rfl) (EI.use (s_within _ _ _) (ite01 (fun c4 => ⟨⟨by omega, by omega⟩, nxt (no (fun k => ?_))⟩) (fun c4 => ⟨?_, rfl⟩)))⟩⟩
    · rw [ez, if_neg (fun f => f k.1)] at cz
      exact absurd cz (by decide)
    · split at c <;> omega
    · exact c4 k.2.2
    · have c5 : n 147 (250 + 4 * (i : Int)) = n 147 (420 + 7 * x) := by
        by_cases c6 : n 147 (250 + 4 * (i : Int)) = n 147 (420 + 7 * x)
        · exact c6
        · rw [ez, if_pos c6] at cz
          exact absurd rfl cz
      have on : beastOn (n 147) (420 + 7 * x) (i : Int) := ⟨c5, by split at c <;> omega, c4⟩
      have h1 : beastF (n 147) (420 + 7 * x) (i + 1) = 1 := by
        rw [es, if_pos on]
      have := beastF_up h1 m
      rw [show i + 1 + m = (n 147 1).toNat by omega] at this
      rw [this]
theorem s_hasBeast {x : Int} (hL : LakeRel n 1 (n 147)) (hr : RowOk (n 147)) (x0 : 0 ≤ x) (x1 : x < n 147 5) : EI w (d + 2) mX1_hasBeastAt [vr 1, vi x] B0 n (beastF (n 147) (420 + 7 * x) (n 147 1).toNat) n := by
  have h0 : 0 ≤ n 147 1 := by
    rw [← hL.2.2.1.2.1]
    exact hL.2.2.1.1.2.2.1
  exact EI.of (by decide +kernel) (Nat.le_of_ble_eq_true rfl) rfl (fun _ G => gX1_hasBeastAt_0 (s_beastL hL hr x0 x1 (n 147 1).toNat 0 (by omega) rfl))
abbrev logOn (r : Int → Int) (s b : Int) : Prop := r (300 + 2 * b) = r s ∧ r (300 + 2 * b + 1) = r (s + 2)
def logF (r : Int → Int) (s : Int) : Nat → Int
  | 0 => 0
  | k + 1 => if logF r s k ≠ 0 then 1 else if logOn r s (k : Int) then 1 else 0
theorem logF_01 {r : Int → Int} {s : Int} : ∀ k : Nat, logF r s k = 0 ∨ logF r s k = 1
  | 0 => Or.inl rfl
  | k + 1 => by
    show (if logF r s k ≠ 0 then (1 : Int) else if logOn r s (k : Int) then 1 else 0) = 0 ∨ (if logF r s k ≠ 0 then (1 : Int) else if logOn r s (k : Int) then 1 else 0) = 1
    split
    · exact Or.inr rfl
    · split
      · exact Or.inr rfl
      · exact Or.inl rfl
theorem logF_up {r : Int → Int} {s : Int} {i : Nat} (h : logF r s i = 1) : ∀ m : Nat, logF r s (i + m) = 1
  | 0 => h
  | m + 1 => by
    show (if logF r s (i + m) ≠ 0 then (1 : Int) else if logOn r s ((i + m : Nat) : Int) then 1 else 0) = 1
    rw [logF_up h m, if_pos (by decide)]
theorem m_logL {G : GM} {s : Int} (c1 : n 147 2 ≤ 12) (s0 : 0 ≤ s) (s1 : s + 2 < 1800) : ∀ (m i : Nat), (i : Int) + m = n 147 2 → Rn w mX12_isLog d G (fun r h' => r = some (vi (logF (n 147) s (n 147 2).toNat)) ∧ h' = (B0, n)) 4 [(0, vr 145), (1, vi s), (2, vi (logF (n 147) s i)), (3, vi (i : Int))] [] (B0, n)
  | 0, i, hi => by
    have ei : (n 147 2).toNat = i := by omega
    refine gX12_isLog_4 ⟨fun _ => ⟨logF_01 i, by rw [ei], rfl⟩, fun q => absurd q (by omega)⟩
  | m + 1, i, hi => by
    have nxt := m_logL (G := G) c1 s0 s1 m (i + 1) (by omega)
    have es : logF (n 147) s (i + 1) = if logF (n 147) s i ≠ 0 then (1 : Int) else if logOn (n 147) s (i : Int) then 1 else 0 := rfl
    rw [es] at nxt
    refine gX12_isLog_4 ⟨fun q => absurd q (by omega), fun _ => ⟨fun _ => ⟨by omega, by omega⟩, fun _ => ⟨by omega, by omega⟩, fun _ => by omega, fun _ => by omega, fun _ => by omega, fun _ => by omega, fun _ _ => ⟨by omega, by omega⟩, fun _ _ => ⟨by omega, by omega⟩, fun _ _ => ⟨by omega, by omega⟩, fun _ _ => by omega, fun _ _ => by omega, fun _ _ => ⟨by omega, by omega⟩, fun _ _ => by omega, fun _ _ => by omega, fun z ez => ⟨⟨by omega, by omega⟩, ?_⟩⟩⟩
    have e : z = if logF (n 147) s i ≠ 0 then (1 : Int) else if logOn (n 147) s (i : Int) then 1 else 0 := by
      rw [ez]
      by_cases c1 : logF (n 147) s i ≠ 0
      · rw [if_pos c1, if_pos c1]
      · rw [if_neg c1, if_neg c1]
        by_cases c2 : n 147 (300 + 2 * (i : Int)) = n 147 s
        · rw [if_neg (fun f => f c2)]
          by_cases c3 : n 147 (300 + 2 * (i : Int) + 1) = n 147 (s + 2)
          · rw [if_neg (fun f => f c3), if_pos ⟨c2, c3⟩]
          · rw [if_pos c3, if_neg (fun k => c3 k.2)]
        · rw [if_pos c2, if_neg (fun k => c2 k.1)]
    rw [e]
    exact nxt
theorem m_isLog {i : Int} (c0 : 0 ≤ n 147 2) (c1 : n 147 2 ≤ 12) (i0 : 0 ≤ i) (i1 : i < n 147 5) (i2 : n 147 5 ≤ 40) : EI w d mX12_isLog [vr 145, vi (420 + 7 * i)] B0 n (logF (n 147) (420 + 7 * i) (n 147 2).toNat) n :=
  EI.of (by decide +kernel) (Nat.le_of_ble_eq_true rfl) rfl (fun _ G => gX12_isLog_0 (m_logL c1 (by omega) (by omega) (n 147 2).toNat 0 (by omega)))
theorem s_logL {G : GM} {x : Int} (hL : LakeRel n 1 (n 147)) (x0 : 0 ≤ x) (x1 : x < n 147 5) : ∀ (m i : Nat), (i : Int) + m = n 147 2 → logF (n 147) (420 + 7 * x) i = 0 → Rn w mX1_hasLogAt (d + 2) G (fun r h' => r = some (vi (logF (n 147) (420 + 7 * x) (n 147 2).toNat)) ∧ h' = (B0, n)) 2 [(0, vr 1), (1, vi x), (2, vi (i : Int))] [] (B0, n)
  | 0, i, hi, h0 => by
    have hs : n 8 3 = n 147 2 := hL.2.2.2.1.2.1
    have ei : (n 147 2).toNat = i := by omega
    exact gX1_hasLogAt_2 (EI.use (s_size ob_8 (c := 9) rfl ob_9) ⟨fun _ => ⟨by rw [ei, h0], rfl⟩, fun c => absurd c (by omega)⟩)
  | m + 1, i, hi, h0 => by
    have hs : n 8 3 = n 147 2 := hL.2.2.2.1.2.1
    have hT : TR n 8 2 12 2 300 (n 147) := hL.2.2.2.1
    have hS : TR n 14 7 40 5 420 (n 147) := hL.2.2.2.2.2.2.1
    have hb : (i : Int) < n 147 2 := by omega
    have h12 : n 147 2 ≤ 12 := by
      rw [← hs]
      exact hT.1.2.2.2
    have es : logF (n 147) (420 + 7 * x) (i + 1) = if logOn (n 147) (420 + 7 * x) (i : Int) then 1 else 0 := by
      show (if logF (n 147) (420 + 7 * x) i ≠ 0 then (1 : Int) else if logOn (n 147) (420 + 7 * x) (i : Int) then 1 else 0) = _
      rw [h0, if_neg (by decide)]
    have nxt := fun h => s_logL (G := G) hL x0 x1 m (i + 1) (by omega) h
    have no : ¬ logOn (n 147) (420 + 7 * x) (i : Int) → logF (n 147) (420 + 7 * x) (i + 1) = 0 := fun c => by
      rw [es, if_neg c]
    refine gX1_hasLogAt_2 (EI.use (s_size ob_8 (c := 9) rfl ob_9) ⟨fun c => absurd c (by omega), fun _ => EI.use (s_tr ob_8 rfl ob_9 hT rfl (by decide) (by omega) hb (by decide) (by decide) rfl) (EI.use (s_tr ob_14 rfl ob_15 hS rfl (by decide) x0 x1 (by decide) (by decide) rfl) ⟨fun c => ⟨⟨by omega, by omega⟩, nxt (no (fun k => ?_))⟩, fun c => EI.use (s_tr ob_8 rfl ob_9 hT rfl (by decide) (by omega) hb (by decide) (by decide) rfl) (EI.use (s_tr ob_14 rfl ob_15 hS rfl (by decide) x0 x1 (by decide) (by decide) rfl) ⟨fun c2 => ⟨⟨by omega, by omega⟩, nxt (no (fun k => c2 k.2))⟩, fun c2 => ⟨?_, rfl⟩⟩)⟩)⟩)
    · rw [Int.add_zero, Int.add_zero] at c
      exact c k.1
    · rw [Int.add_zero, Int.add_zero] at c
      have h1 : logF (n 147) (420 + 7 * x) (i + 1) = 1 := by
        rw [es, if_pos ⟨c, c2⟩]
      have := logF_up h1 m
      rw [show i + 1 + m = (n 147 2).toNat by omega] at this
      rw [this]
theorem s_hasLog {x : Int} (hL : LakeRel n 1 (n 147)) (x0 : 0 ≤ x) (x1 : x < n 147 5) : EI w (d + 2) mX1_hasLogAt [vr 1, vi x] B0 n (logF (n 147) (420 + 7 * x) (n 147 2).toNat) n := by
  have h0 : 0 ≤ n 147 2 := by
    rw [← hL.2.2.2.1.2.1]
    exact hL.2.2.2.1.1.2.2.1
  exact EI.of (by decide +kernel) (Nat.le_of_ble_eq_true rfl) rfl (fun _ G => gX1_hasLogAt_0 (s_logL hL x0 x1 (n 147 2).toNat 0 (by omega) rfl))
end THERE
