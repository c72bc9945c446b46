section THERE2
variable {w : WD} {d : Nat} {n : NM}
theorem m_sightAt {x : Int} (x0 : 0 ≤ x) (x1 : x ≤ 100) : EI w d mX12_sightAt [vi x] B0 n (420 + 7 * x) n :=
  EI.of (by decide +kernel) (Nat.le_of_ble_eq_true rfl) rfl (fun _ G => gX12_sightAt_0 ⟨⟨by omega, by omega⟩, ⟨by omega, by omega⟩, rfl, rfl⟩)
/-- whether the cause k is there at the sight s -/
def thV (r : Int → Int) (s : Int) (k : Nat) : Int :=
  if k = 0 then (if 1 ≤ goneV r s ∧ goneV r s ≤ 60 then 1 else 0) else if k = 1 then beastF r s (r 1).toNat else if k = 2 then logF r s (r 2).toNat else if k = 3 then (if r (20 + 3 * r s + 1) ≤ 0 then 0 else 1) else 1
theorem Rel.nums {k : Int} (h : Rel k n) : (0 ≤ n 147 0 ∧ n 147 0 ≤ 12) ∧ (0 ≤ n 147 1 ∧ n 147 1 ≤ 12) ∧ (0 ≤ n 147 2 ∧ n 147 2 ≤ 12) ∧ (0 ≤ n 147 3 ∧ n 147 3 ≤ 12) ∧ (0 ≤ n 147 4 ∧ n 147 4 ≤ 20) ∧ (0 ≤ n 147 5 ∧ n 147 5 ≤ 40) ∧ (0 ≤ n 147 7 ∧ n 147 7 ≤ 6) ∧ (0 ≤ n 147 8 ∧ n 147 8 ≤ 12) ∧ (0 ≤ n 147 9 ∧ n 147 9 ≤ 10) := by
  obtain ⟨⟨_, p1, p2, p3, p4, p5, p6, _, p8, p9, p10, _⟩, _⟩ := h
  have q : ∀ {t : Nat} {W R cnt base : Int} {r : Int → Int}, TR n t W R cnt base r → 0 ≤ r cnt ∧ r cnt ≤ R := fun h => by
    rw [← h.2.1]
    exact h.1.2.2
  exact ⟨q p1, q p2, q p3, q p4, q p5, q p6, q p8, q p9, q p10⟩
/-- the counts of a row -/
def NumsOk (r : Int → Int) : Prop := (0 ≤ r 0 ∧ r 0 ≤ 12) ∧ (0 ≤ r 1 ∧ r 1 ≤ 12) ∧ (0 ≤ r 2 ∧ r 2 ≤ 12) ∧ (0 ≤ r 3 ∧ r 3 ≤ 12) ∧ (0 ≤ r 4 ∧ r 4 ≤ 20) ∧ (0 ≤ r 5 ∧ r 5 ≤ 40) ∧ (0 ≤ r 7 ∧ r 7 ≤ 6) ∧ (0 ≤ r 8 ∧ r 8 ≤ 12) ∧ (0 ≤ r 9 ∧ r 9 ≤ 10)
theorem m_isThere (hr : RowOk (n 147)) (hn : NumsOk (n 147)) {x : Int} (x0 : 0 ≤ x) (x1 : x < n 147 5) (k : Nat) : EI w (d + 2) mX12_isThere [vr 145, vi (420 + 7 * x), vi (k : Int)] B0 n (thV (n 147) (420 + 7 * x) k) n := by
  have q := sight_le hr x0 x1
  obtain ⟨n0, n1, n2, n3, n4, n5, n7, n8, n9⟩ := hn
  refine EI.of (by decide +kernel) (Nat.le_of_ble_eq_true rfl) rfl (fun _ G => gX12_isThere_0 ⟨fun e => EI.use (m_gone hr n0.1 n0.2 x0 x1 n5.2) (EI.use (m_in _ _ _) ⟨b01 _, ?_, rfl⟩), fun e => EI.use (m_isBeast hr n1.1 n1.2 x0 x1 n5.2) ⟨beastF_01 _, ?_, rfl⟩, fun e => EI.use (m_isLog n2.1 n2.2 x0 x1 n5.2) ⟨logF_01 _, ?_, rfl⟩, fun e => ⟨by omega, by omega, ⟨by omega, by omega⟩, ⟨by omega, by omega⟩, ⟨by omega, by omega⟩, by omega, by omega, fun c => ⟨?_, rfl⟩, fun c => ⟨?_, rfl⟩⟩, fun e0 e1 e2 e3 => ⟨?_, rfl⟩⟩)
  · unfold thV
    rw [if_pos (show k = 0 by omega)]
  · unfold thV
    rw [if_neg (show ¬ k = 0 by omega), if_pos (show k = 1 by omega)]
  · unfold thV
    rw [if_neg (show ¬ k = 0 by omega), if_neg (show ¬ k = 1 by omega), if_pos (show k = 2 by omega)]
  · unfold thV
    rw [if_neg (show ¬ k = 0 by omega), if_neg (show ¬ k = 1 by omega), if_neg (show ¬ k = 2 by omega), if_pos (show k = 3 by omega), if_pos c]
  · unfold thV
    rw [if_neg (show ¬ k = 0 by omega), if_neg (show ¬ k = 1 by omega), if_neg (show ¬ k = 2 by omega), if_pos (show k = 3 by omega), if_neg (by omega)]
  · unfold thV
    rw [if_neg (show ¬ k = 0 by omega), if_neg (show ¬ k = 1 by omega), if_neg (show ¬ k = 2 by omega), if_neg (show ¬ k = 3 by omega)]
theorem thV_01 {r : Int → Int} {s : Int} (k : Nat) : thV r s k = 0 ∨ thV r s k = 1 := by
  unfold thV
  split
  · exact b01 _
  · split
    · exact beastF_01 _
    · split
      · exact logF_01 _
      · split
        · split
          · exact Or.inl rfl
          · exact Or.inr rfl
        · exact Or.inr rfl
/-- the causes at the sight s, as bits -/
def thT (r : Int → Int) (s : Int) : Nat → Int
  | 0 => 0
  | k + 1 => if thV r s k = 0 then ior (thT r s k) 0 else ior (thT r s k) (1 * ((2 ^ k : Nat) : Int))
theorem pw5 : ∀ i : Nat, i < 5 → inI (1 * ((2 ^ i : Nat) : Int))
  | 0, _ => ⟨by decide, by decide⟩
  | 1, _ => ⟨by decide, by decide⟩
  | 2, _ => ⟨by decide, by decide⟩
  | 3, _ => ⟨by decide, by decide⟩
  | 4, _ => ⟨by decide, by decide⟩
  | k + 5, h => absurd h (by omega)
theorem m_thereL {G : GM} {x : Int} (hr : RowOk (n 147)) (hn : NumsOk (n 147)) (x0 : 0 ≤ x) (x1 : x < n 147 5) : ∀ (m i : Nat), i + m = 5 → Rn w mX12_there (d + 3) G (fun r h' => r = some (vi (thT (n 147) (420 + 7 * x) 5)) ∧ h' = (B0, n)) 20 [(0, vr 145), (1, vi x), (2, vi (thT (n 147) (420 + 7 * x) i)), (3, vi (i : Int))] [] (B0, n)
  | 0, i, hi => by
    have ei : i = 5 := by omega
    subst ei
    exact gX12_there_20 ⟨fun _ => ⟨rfl, rfl⟩, fun q => absurd q (by decide)⟩
  | m + 1, i, hi => by
    have nxt := m_thereL (G := G) hr hn x0 x1 m (i + 1) (by omega)
    have h40 := hn.2.2.2.2.2.1
    refine gX12_there_20 ⟨fun q => absurd q (by omega), fun _ => EI.use (m_sightAt x0 (by omega)) (EI.use (m_isThere hr hn x0 x1 i) ⟨fun c => ⟨⟨by omega, by omega⟩, ?_⟩, fun c => ⟨i, rfl, by omega, pw5 i (by omega), ⟨by omega, by omega⟩, ?_⟩⟩)⟩
    · rw [show thT (n 147) (420 + 7 * x) (i + 1) = ior (thT (n 147) (420 + 7 * x) i) 0 from if_pos c] at nxt
      exact nxt
    · rw [show thT (n 147) (420 + 7 * x) (i + 1) = ior (thT (n 147) (420 + 7 * x) i) (1 * ((2 ^ i : Nat) : Int)) from if_neg c] at nxt
      exact nxt
theorem Rel.numsOk {k : Int} (h : Rel k n) : NumsOk (n 147) := h.nums
theorem thT_eq {a b c e : Int} (ha : a = 0 ∨ a = 1) (hb : b = 0 ∨ b = 1) (hc : c = 0 ∨ c = 1) (he : e = 0 ∨ e = 1) :
    (if (1 : Int) = 0 then ior (if e = 0 then ior (if c = 0 then ior (if b = 0 then ior (if a = 0 then ior 0 0 else ior 0 (1 * ((2 ^ 0 : Nat) : Int))) 0 else ior (if a = 0 then ior 0 0 else ior 0 (1 * ((2 ^ 0 : Nat) : Int))) (1 * ((2 ^ 1 : Nat) : Int))) 0 else ior (if b = 0 then ior (if a = 0 then ior 0 0 else ior 0 (1 * ((2 ^ 0 : Nat) : Int))) 0 else ior (if a = 0 then ior 0 0 else ior 0 (1 * ((2 ^ 0 : Nat) : Int))) (1 * ((2 ^ 1 : Nat) : Int))) (1 * ((2 ^ 2 : Nat) : Int))) 0 else ior (if c = 0 then ior (if b = 0 then ior (if a = 0 then ior 0 0 else ior 0 (1 * ((2 ^ 0 : Nat) : Int))) 0 else ior (if a = 0 then ior 0 0 else ior 0 (1 * ((2 ^ 0 : Nat) : Int))) (1 * ((2 ^ 1 : Nat) : Int))) 0 else ior (if b = 0 then ior (if a = 0 then ior 0 0 else ior 0 (1 * ((2 ^ 0 : Nat) : Int))) 0 else ior (if a = 0 then ior 0 0 else ior 0 (1 * ((2 ^ 0 : Nat) : Int))) (1 * ((2 ^ 1 : Nat) : Int))) (1 * ((2 ^ 2 : Nat) : Int))) (1 * ((2 ^ 3 : Nat) : Int))) 0 else ior (if e = 0 then ior (if c = 0 then ior (if b = 0 then ior (if a = 0 then ior 0 0 else ior 0 (1 * ((2 ^ 0 : Nat) : Int))) 0 else ior (if a = 0 then ior 0 0 else ior 0 (1 * ((2 ^ 0 : Nat) : Int))) (1 * ((2 ^ 1 : Nat) : Int))) 0 else ior (if b = 0 then ior (if a = 0 then ior 0 0 else ior 0 (1 * ((2 ^ 0 : Nat) : Int))) 0 else ior (if a = 0 then ior 0 0 else ior 0 (1 * ((2 ^ 0 : Nat) : Int))) (1 * ((2 ^ 1 : Nat) : Int))) (1 * ((2 ^ 2 : Nat) : Int))) 0 else ior (if c = 0 then ior (if b = 0 then ior (if a = 0 then ior 0 0 else ior 0 (1 * ((2 ^ 0 : Nat) : Int))) 0 else ior (if a = 0 then ior 0 0 else ior 0 (1 * ((2 ^ 0 : Nat) : Int))) (1 * ((2 ^ 1 : Nat) : Int))) 0 else ior (if b = 0 then ior (if a = 0 then ior 0 0 else ior 0 (1 * ((2 ^ 0 : Nat) : Int))) 0 else ior (if a = 0 then ior 0 0 else ior 0 (1 * ((2 ^ 0 : Nat) : Int))) (1 * ((2 ^ 1 : Nat) : Int))) (1 * ((2 ^ 2 : Nat) : Int))) (1 * ((2 ^ 3 : Nat) : Int))) (1 * ((2 ^ 4 : Nat) : Int)))
    = (if e = 0 then (if c = 0 then (if b = 0 then (if a = 0 then 16 else ior 16 1) else ior (if a = 0 then 16 else ior 16 1) 2) else ior (if b = 0 then (if a = 0 then 16 else ior 16 1) else ior (if a = 0 then 16 else ior 16 1) 2) 4) else ior (if c = 0 then (if b = 0 then (if a = 0 then 16 else ior 16 1) else ior (if a = 0 then 16 else ior 16 1) 2) else ior (if b = 0 then (if a = 0 then 16 else ior 16 1) else ior (if a = 0 then 16 else ior 16 1) 2) 4) 8) := by
  rcases ha with rfl | rfl <;> rcases hb with rfl | rfl <;> rcases hc with rfl | rfl <;> rcases he with rfl | rfl <;> decide +kernel
theorem s_causes {x : Int} (hL : LakeRel n 1 (n 147)) (hr : RowOk (n 147)) (x0 : 0 ≤ x) (x1 : x < n 147 5) : EI w (d + 4) mX1_causesOf [vr 1, vi x] B0 n (thT (n 147) (420 + 7 * x) 5) n := by
  have hS : TR n 14 7 40 5 420 (n 147) := hL.2.2.2.2.2.2.1
  have hD : FR n 2 3 60 20 (n 147) := hL.1
  have q := sight_le hr x0 x1
  refine EI.of (by decide +kernel) (Nat.le_of_ble_eq_true rfl) rfl (fun _ G => gX1_causesOf_0 (EI.use (s_gone hL hr x0 x1) (EI.use (s_within _ _ _) (fun z1 e1 => EI.use (s_hasBeast hL hr x0 x1) (fun z2 e2 => EI.use (s_hasLog hL x0 x1) (fun z3 e3 => EI.use (s_tr ob_14 rfl ob_15 hS rfl (by decide) x0 x1 (by decide) (by decide) (p := 420 + 7 * x) (by omega)) (EI.use (s_fr ob_2 rfl ob_3 hD rfl (by decide) q.1.1 (by omega) (by decide) (by decide) rfl) (fun z4 e4 => ⟨?_, rfl⟩))))))))
  have eq := thT_eq (thV_01 (r := n 147) (s := 420 + 7 * x) 0) (thV_01 (r := n 147) (s := 420 + 7 * x) 1) (thV_01 (r := n 147) (s := 420 + 7 * x) 2) (thV_01 (r := n 147) (s := 420 + 7 * x) 3)
  have e : thT (n 147) (420 + 7 * x) 5 = z4 := by
    refine Eq.trans eq ?_
    have t3 : (n 147 (20 + 3 * n 147 (420 + 7 * x) + 1) ≤ 0) ↔ thV (n 147) (420 + 7 * x) 3 = 0 := by
      show _ ↔ (if n 147 (20 + 3 * n 147 (420 + 7 * x) + 1) ≤ 0 then (0 : Int) else 1) = 0
      by_cases c : n 147 (20 + 3 * n 147 (420 + 7 * x) + 1) ≤ 0
      · rw [if_pos c]
        exact ⟨fun _ => rfl, fun _ => c⟩
      · rw [if_neg c]
        exact ⟨fun z => absurd z c, fun z => absurd z (by decide)⟩
    rw [e4, e3, e2, e1]
    simp only [t3]
    rfl
  rw [e]
theorem st_there {k : Int} (h : Rel k n) (x : Int) : LStp w (d + 5) k n mX11_there [vi x] mX12_there [vi x] := by
  have hS : TR n 14 7 40 5 420 (n 147) := h.1.2.2.2.2.2.2.1
  have h5 := h.numsOk.2.2.2.2.2.1
  have e147 : (upn n 145 0 0) 147 = n 147 := upn_ne (by decide)
  by_cases q : 0 ≤ x ∧ x < n 14 3
  · have q2 : x < n 147 5 := by
      rw [← hS.2.1]
      exact q.2
    have ml := fun G : GM => m_thereL (G := G) (w := w) (d := d + 2) (n := upn n 145 0 0) (x := x) (by rw [e147]; exact h.2.1) (by rw [e147]; exact h.numsOk) q.1 (by rw [e147]; exact q2)
    rw [e147] at ml
    refine ⟨thT (n 147) (420 + 7 * x) 5, n, upn n 145 0 0, EI.of (by decide +kernel) (Nat.le_of_ble_eq_true rfl) rfl (fun _ G => gX11_there_0 (EI.use (s_holds ob_14 (c := 15) rfl ob_15 _) (ite10 (fun _ => EI.use (s_causes h.1 h.2.1 q.1 q2) ⟨rfl, rfl⟩) (fun z => absurd q z)))), EI.of (by decide +kernel) (Nat.le_of_ble_eq_true rfl) rfl (fun _ G => gX12_there_0 (EI.use (m_is (by decide) (by decide) (by rw [e147]; omega)) (ite10 (fun _ => ml G 5 0 rfl) (fun z => absurd (by rw [e147]; omega) z)))), h.zero.le (by omega)⟩
  · have q2 : ¬ (0 ≤ x ∧ x < n 147 5) := by
      rw [← hS.2.1]
      exact q
    exact ⟨-1, n, upn n 145 0 0, EI.of (by decide +kernel) (Nat.le_of_ble_eq_true rfl) rfl (fun _ G => gX11_there_0 (EI.use (s_holds ob_14 (c := 15) rfl ob_15 _) (ite10 (fun z => absurd z q) (fun _ => ⟨rfl, rfl⟩)))), EI.of (by decide +kernel) (Nat.le_of_ble_eq_true rfl) rfl (fun _ G => gX12_there_0 (EI.use (m_is (by decide) (by decide) (by rw [e147]; omega)) (ite10 (fun z => absurd (by rw [e147] at z; omega) q2) (fun _ => ⟨rfl, rfl⟩)))), h.zero.le (by omega)⟩
end THERE2
