section RUN
variable {w : WD} {d : Nat} {n : NM}
/-- sightings, seed, seen -/
abbrev RS := Int × Int × (Int → Int)
def stepR (r : Int → Int) (x day : Int) (j : Nat) (z : RS) : RS :=
  if r (330 + (j : Int)) + r (20 + 3 * day + 2) ≤ drS z.2.1 % 100 then (z.1, drS z.2.1, z.2.2)
  else (z.1 + 1, lookS r x day (drS z.2.1), fun i => if i = 3 * (j : Int) + lookQ r x day (drS z.2.1) then z.2.2 i + 1 else z.2.2 i)
def dayR (r : Int → Int) (x day : Int) : Nat → RS → RS
  | 0, z => z
  | k + 1, z => stepR r x day k (dayR r x day k z)
def runR (r : Int → Int) (x : Int) : Nat → RS → RS
  | 0, z => z
  | k + 1, z => dayR r x (k : Int) (r 3).toNat (runR r x k z)
/-- what holds behind D days and j watchers -/
def InvR (D j : Nat) (z : RS) : Prop := (0 ≤ z.2.1 ∧ z.2.1 ≤ 1000002) ∧ (0 ≤ z.1 ∧ z.1 ≤ 12 * (D : Int) + j) ∧ ∀ i, 0 ≤ i → i < 36 → 0 ≤ z.2.2 i ∧ z.2.2 i ≤ (D : Int) + (if i < 3 * (j : Int) then 1 else 0)
theorem stepR_inv {r : Int → Int} {x day : Int} {D j : Nat} {z : RS} (h : InvR D j z) : InvR D (j + 1) (stepR r x day j z) := by
  obtain ⟨h1, h2, h3⟩ := h
  unfold stepR
  split
  · refine ⟨drS_le, ⟨h2.1, ?_⟩, fun i i0 i1 => ?_⟩
    · show z.1 ≤ 12 * (D : Int) + ((j + 1 : Nat) : Int)
      omega
    · have q := h3 i i0 i1
      refine ⟨q.1, Int.le_trans q.2 ?_⟩
      by_cases c : i < 3 * (j : Int)
      · rw [if_pos c, if_pos (by omega)]
        exact Int.le_refl _
      · rw [if_neg c]
        split <;> omega
  · refine ⟨lookS_le, ⟨?_, ?_⟩, fun i i0 i1 => ?_⟩
    · show 0 ≤ z.1 + 1
      omega
    · show z.1 + 1 ≤ 12 * (D : Int) + ((j + 1 : Nat) : Int)
      omega
    · have q := h3 i i0 i1
      have lq := lookQ_le (r := r) (x := x) (day := day) (s := drS z.2.1)
      show 0 ≤ (if i = 3 * (j : Int) + lookQ r x day (drS z.2.1) then z.2.2 i + 1 else z.2.2 i) ∧ (if i = 3 * (j : Int) + lookQ r x day (drS z.2.1) then z.2.2 i + 1 else z.2.2 i) ≤ _
      by_cases c : i = 3 * (j : Int) + lookQ r x day (drS z.2.1)
      · rw [if_pos c, if_pos (by omega)]
        rw [if_neg (by omega)] at q
        omega
      · rw [if_neg c]
        refine ⟨q.1, Int.le_trans q.2 ?_⟩
        by_cases c : i < 3 * (j : Int)
        · rw [if_pos c, if_pos (by omega)]
          exact Int.le_refl _
        · rw [if_neg c]
          split <;> omega
theorem dayR_inv {r : Int → Int} {x day : Int} {D : Nat} {z : RS} (h : InvR D 0 z) : ∀ k : Nat, InvR D k (dayR r x day k z)
  | 0 => h
  | k + 1 => stepR_inv (dayR_inv h k)
theorem inv_up {D N : Nat} {z : RS} (hN : N ≤ 12) (h : InvR D N z) : InvR (D + 1) 0 z := by
  obtain ⟨h1, h2, h3⟩ := h
  refine ⟨h1, ⟨h2.1, by omega⟩, fun i i0 i1 => ?_⟩
  have q := h3 i i0 i1
  refine ⟨q.1, Int.le_trans q.2 ?_⟩
  rw [if_neg (show ¬ i < 3 * ((0 : Nat) : Int) by omega)]
  split <;> omega
/-- the model's numbers -/
def msR (n : NM) (z : RS) : NM := upn (wrow n 164 0 36 z.2.2) 145 36 z.2.1
theorem msR_147 {z : RS} : msR n z 147 = n 147 := by
  unfold msR
  rw [upn_ne (by decide), wrow_ne (by decide)]
theorem msR_s {z : RS} : msR n z 145 36 = z.2.1 := upn_self _ _ _ _
theorem msR_f {z : RS} {i : Int} (i0 : 0 ≤ i) (i1 : i < 36) : msR n z 164 i = z.2.2 i := by
  unfold msR
  rw [upn_ne (by decide), wrow_in (by omega) (by omega), Int.sub_zero]
theorem msR_up {z : RS} {s c : Int} : upn (msR n z) 145 36 s = msR n (c, s, z.2.2) := upn_upn
theorem msR_put {z : RS} {p v : Int} (p0 : 0 ≤ p) (p1 : p < 36) (hv : v = z.2.2 p + 1) : upn (msR n z) 164 p v = msR n (z.1, z.2.1, fun i => if i = p then z.2.2 i + 1 else z.2.2 i) := by
  subst hv
  funext a j
  by_cases c : a = 164
  · subst c
    by_cases c2 : j = p
    · subst c2
      rw [upn_self, msR_f p0 p1]
      exact (if_pos rfl).symm
    · rw [upn_i c2]
      by_cases c3 : 0 ≤ j ∧ j < 36
      · rw [msR_f c3.1 c3.2, msR_f c3.1 c3.2]
        exact (if_neg c2).symm
      · unfold msR
        rw [upn_ne (by decide), upn_ne (by decide), wrow_out (by omega), wrow_out (by omega)]
  · rw [upn_a c]
    unfold msR
    by_cases c2 : a = 145 ∧ j = 36
    · rw [c2.1, c2.2, upn_self, upn_self]
    · rw [upn_ap, upn_ap, if_neg c2, if_neg c2, wrow_a c, wrow_a c]
end RUN
