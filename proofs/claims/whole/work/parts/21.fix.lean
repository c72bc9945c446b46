theorem FR.new {n n2 : NM} {t : Nat} {W R base : Int} {r r2 : Int → Int} (h : FR n t W R base r) (ht : n2 t = n t) (hc : ∀ j, 0 ≤ j → j < R * W → n2 (t + 1) j = r2 (base + j)) : FR n2 t W R base r2 :=
  ⟨h.1.congr ht, by rw [ht]; exact h.2.1, hc⟩
theorem Rel.fix_frame {k : Int} {n n2 : NM} {c : Nat} (h : Rel k n) (c1 : c < 33) (hq : ∀ q : Nat, q ≠ 0 → q ≠ c → q ≠ 145 → q ≠ 147 → n2 q = n q) (h0 : ∀ j, n2 0 j = if j = 10 then 0 else n 0 j) (h145 : ∀ j, n2 145 j = if j = 1 then 0 else if j = 0 then 0 else n 145 j)
    (hl : LakeRel n2 1 (n2 147)) (hr : RowOk (n2 147)) : Rel k n2 := by
  refine h.frame (fun q q0 q1 q2 => hq q (by omega) (by omega) (by omega) (by omega)) (hq _ (by omega) (by omega) (by omega) (by omega)) (hq _ (by omega) (by omega) (by omega) (by omega)) (hq _ (by omega) (by omega) (by omega) (by omega)) (hq _ (by omega) (by omega) (by omega) (by omega)) ?_ ?_ hl hr ?_
  · rw [h145]
    rfl
  · rw [h145]
    rfl
  · have hm := h.2.2.2.2.2.1
    unfold MiscRel at *
    rw [h145, h145, h145, h0, h0, h0, hq 80 (by omega) (by omega) (by omega) (by omega), hq 146 (by omega) (by omega) (by omega) (by omega)]
    exact ⟨rfl, hm.2⟩
/-- one cell written on both sides -/
def b1 (n : NM) (c : Nat) (p base v : Int) : NM := upn (upn (upn (upn (upn n c p v) 0 10 0) 145 0 0) 147 (base + p) v) 145 1 0
/-- two cells -/
def b2 (n : NM) (c : Nat) (p base u v : Int) : NM := upn (upn (upn (upn (upn (upn (upn n c p u) c (p + 1) v) 0 10 0) 145 0 0) 147 (base + p) u) 147 (base + p + 1) v) 145 1 0
section BW
variable {n : NM} {c : Nat} {p base u v : Int}
theorem b1_t {q : Nat} (h0 : q ≠ 0) (h1 : q ≠ c) (h3 : q ≠ 145) (h4 : q ≠ 147) : b1 n c p base v q = n q := by
  unfold b1
  rw [upn_ne h3, upn_ne h4, upn_ne h3, upn_ne h0, upn_ne h1]
theorem b1_0 (c0 : 0 < c) (j : Int) : b1 n c p base v 0 j = if j = 10 then 0 else n 0 j := by
  unfold b1
  simp only [upn]
  by_cases c1 : j = 10
  · rw [if_neg (by omega), if_neg (by omega), if_neg (by omega),  if_pos ⟨trivial, c1⟩, if_pos c1]
  · rw [if_neg (by omega), if_neg (by omega), if_neg (by omega), if_neg (by omega), if_neg (by omega),  if_neg c1]
theorem b1_145 (c0 : c < 33) (j : Int) : b1 n c p base v 145 j = if j = 1 then 0 else if j = 0 then 0 else n 145 j := by
  unfold b1
  simp only [upn]
  by_cases c1 : j = 1
  · rw [if_pos ⟨trivial, c1⟩, if_pos c1]
  · rw [if_neg (by omega), if_neg c1, if_neg (by omega)]
    by_cases c2 : j = 0
    · rw [if_pos ⟨trivial, c2⟩, if_pos c2]
    · rw [if_neg (by omega), if_neg c2, if_neg (by omega), if_neg (by omega)]
theorem b1_c (c0 : 0 < c) (c1 : c < 33) (j : Int) : b1 n c p base v c j = if j = p then v else n c j := by
  unfold b1
  rw [upn_ne (by omega), upn_ne (by omega), upn_ne (by omega), upn_ne (by omega)]
  simp only [upn, true_and]
theorem b1_r (c0 : 0 < c) (c1 : c < 33) (j : Int) : b1 n c p base v 147 j = if j = base + p then v else n 147 j := by
  unfold b1
  simp only [upn]
  by_cases q : j = base + p
  · rw [if_neg (by omega), if_pos ⟨trivial, q⟩, if_pos q]
  · rw [if_neg (by omega), if_neg (by omega), if_neg (by omega), if_neg (by omega), if_neg (by omega), if_neg q]
theorem b2_t {q : Nat} (h0 : q ≠ 0) (h1 : q ≠ c) (h3 : q ≠ 145) (h4 : q ≠ 147) : b2 n c p base u v q = n q := by
  unfold b2
  rw [upn_ne h3, upn_ne h4, upn_ne h4, upn_ne h3, upn_ne h0, upn_ne h1, upn_ne h1]
theorem b2_0 (c0 : 0 < c) (j : Int) : b2 n c p base u v 0 j = if j = 10 then 0 else n 0 j := by
  unfold b2
  simp only [upn]
  by_cases c1 : j = 10
  · rw [if_neg (by omega), if_neg (by omega), if_neg (by omega), if_neg (by omega),  if_pos ⟨trivial, c1⟩, if_pos c1]
  · rw [if_neg (by omega), if_neg (by omega), if_neg (by omega), if_neg (by omega), if_neg (by omega), if_neg (by omega), if_neg (by omega),  if_neg c1]
theorem b2_145 (c0 : c < 33) (j : Int) : b2 n c p base u v 145 j = if j = 1 then 0 else if j = 0 then 0 else n 145 j := by
  unfold b2
  simp only [upn]
  by_cases c1 : j = 1
  · rw [if_pos ⟨trivial, c1⟩, if_pos c1]
  · rw [if_neg (by omega), if_neg c1, if_neg (by omega), if_neg (by omega)]
    by_cases c2 : j = 0
    · rw [if_pos ⟨trivial, c2⟩, if_pos c2]
    · rw [if_neg (by omega), if_neg c2, if_neg (by omega), if_neg (by omega), if_neg (by omega)]
theorem b2_c (c0 : 0 < c) (c1 : c < 33) (j : Int) : b2 n c p base u v c j = if j = p + 1 then v else if j = p then u else n c j := by
  unfold b2
  rw [upn_ne (by omega), upn_ne (by omega), upn_ne (by omega), upn_ne (by omega), upn_ne (by omega)]
  simp only [upn, true_and]
theorem b2_r (c0 : 0 < c) (c1 : c < 33) (j : Int) : b2 n c p base u v 147 j = if j = base + p + 1 then v else if j = base + p then u else n 147 j := by
  unfold b2
  simp only [upn]
  by_cases q : j = base + p + 1
  · rw [if_neg (by omega), if_pos ⟨trivial, q⟩, if_pos q]
  · rw [if_neg (by omega), if_neg (by omega), if_neg q]
    by_cases q2 : j = base + p
    · rw [if_pos ⟨trivial, q2⟩, if_pos q2]
    · rw [if_neg (by omega), if_neg (by omega), if_neg (by omega), if_neg (by omega), if_neg (by omega), if_neg q2]
end BW
theorem Rel.put_days {k : Int} {n : NM} {v p : Int} (h : Rel k n) (p0 : 0 ≤ p) (p1 : p < 180) (hv : 0 ≤ v ∧ v ≤ 9) : Rel k (b1 n 3 p 20 v) := by
  have hF : FR n 2 3 60 20 (n 147) := h.1.1
  have ho : ∀ i : Int, 0 ≤ i → i < 1800 → ¬ (20 ≤ i ∧ i < 200) → (b1 n 3 p 20 v) 147 i = n 147 i := fun i i0 i1 i2 => by
    rw [b1_r (by decide) (by decide), if_neg (by omega)]
  refine h.fix_frame (c := 3) (by decide) (fun q a b c d => b1_t a b c d) (b1_0 (by decide)) (b1_145 (by decide)) ?_ ?_
  · refine h.1.upd_days (fun q q0 q1 q2 q3 => b1_t (by omega) (by omega) (by omega) (by omega)) ho (hF.new (b1_t (by decide) (by decide) (by decide) (by decide)) ?_)
    intro j j0 j1
    rw [b1_r (by decide) (by decide), show (1 + 1 + 1 : Nat) = 3 from rfl, b1_c (by decide) (by decide)]
    by_cases q : j = p
    · rw [if_pos q, if_pos (by omega)]
    · rw [if_neg q, if_neg (by omega)]
      exact hF.2.2 j j0 j1
  · refine h.2.1.upd_days ho h.cnt ?_
    intro x x0 x1
    rw [b1_r (by decide) (by decide)]
    by_cases q : x = p
    · rw [if_pos (by omega)]
      exact hv
    · rw [if_neg (by omega)]
      exact h.2.1.1 x x0 x1
theorem Rel.put_kin {k : Int} {n : NM} {v p : Int} (h : Rel k n) (p0 : 0 ≤ p) (p1 : p < 3) (hv : (p = 0 → 0 ≤ v ∧ v ≤ 50) ∧ (p = 1 → 0 ≤ v ∧ v ≤ 10000) ∧ (p = 2 → 1 ≤ v ∧ v ≤ 100)) : Rel k (b1 n 32 p 10 v) := by
  have hF : FR n 31 3 1 10 (n 147) := h.1.2.2.2.2.2.2.2.2.2.2.2.2.2
  have ho : ∀ i : Int, 0 ≤ i → i < 1800 → ¬ (10 ≤ i ∧ i < 13) → (b1 n 32 p 10 v) 147 i = n 147 i := fun i i0 i1 i2 => by
    rw [b1_r (by decide) (by decide), if_neg (by omega)]
  refine h.fix_frame (c := 32) (by decide) (fun q a b c d => b1_t a b c d) (b1_0 (by decide)) (b1_145 (by decide)) ?_ ?_
  · refine h.1.upd_kin (fun q q0 q1 q2 q3 => b1_t (by omega) (by omega) (by omega) (by omega)) ho (hF.new (b1_t (by decide) (by decide) (by decide) (by decide)) ?_)
    intro j j0 j1
    rw [b1_r (by decide) (by decide), show (1 + 30 + 1 : Nat) = 32 from rfl, b1_c (by decide) (by decide)]
    by_cases q : j = p
    · rw [if_pos q, if_pos (by omega)]
    · rw [if_neg q, if_neg (by omega)]
      exact hF.2.2 j j0 j1
  · refine h.2.1.upd_kin ho h.cnt ?_
    have o := h.2.1.2.2.2.2.2.2.2.2.2.2.2
    refine ⟨?_, ?_, ?_⟩
    · rw [b1_r (by decide) (by decide)]
      by_cases q : p = 0
      · rw [if_pos (by omega)]
        exact hv.1 q
      · rw [if_neg (by omega)]
        exact o.1
    · rw [b1_r (by decide) (by decide)]
      by_cases q : p = 1
      · rw [if_pos (by omega)]
        exact hv.2.1 q
      · rw [if_neg (by omega)]
        exact o.2.1
    · rw [b1_r (by decide) (by decide)]
      by_cases q : p = 2
      · rw [if_pos (by omega)]
        exact hv.2.2 q
      · rw [if_neg (by omega)]
        exact o.2.2
theorem Rel.put_years {k : Int} {n : NM} {u v p : Int} (h : Rel k n) (p0 : 0 ≤ p) (p1 : p + 1 < 60) (hv : (0 ≤ u ∧ u ≤ 1000) ∧ 0 ≤ v ∧ v ≤ 1000) : Rel k (b2 n 28 p 810 u v) := by
  have hF : FR n 27 2 30 810 (n 147) := h.1.2.2.2.2.2.2.2.2.2.2.2.1
  have ho : ∀ i : Int, 0 ≤ i → i < 1800 → ¬ (810 ≤ i ∧ i < 870) → (b2 n 28 p 810 u v) 147 i = n 147 i := fun i i0 i1 i2 => by
    rw [b2_r (by decide) (by decide), if_neg (by omega), if_neg (by omega)]
  refine h.fix_frame (c := 28) (by decide) (fun q a b c d => b2_t a b c d) (b2_0 (by decide)) (b2_145 (by decide)) ?_ ?_
  · refine h.1.upd_years (fun q q0 q1 q2 q3 => b2_t (by omega) (by omega) (by omega) (by omega)) ho (hF.new (b2_t (by decide) (by decide) (by decide) (by decide)) ?_)
    intro j j0 j1
    rw [b2_r (by decide) (by decide), show (1 + 26 + 1 : Nat) = 28 from rfl, b2_c (by decide) (by decide)]
    by_cases q : j = p + 1
    · rw [if_pos q, if_pos (by omega)]
    · rw [if_neg q, if_neg (show ¬ (810 + j = 810 + p + 1) by omega)]
      by_cases q2 : j = p
      · rw [if_pos q2, if_pos (by omega)]
      · rw [if_neg q2, if_neg (by omega)]
        exact hF.2.2 j j0 j1
  · refine h.2.1.upd_years ho h.cnt ?_
    intro x x0 x1
    rw [b2_r (by decide) (by decide)]
    by_cases q : x = p + 1
    · rw [if_pos (by omega)]
      exact hv.2
    · rw [if_neg (by omega)]
      by_cases q2 : x = p
      · rw [if_pos (by omega)]
        exact hv.1
      · rw [if_neg (by omega)]
        exact h.2.1.2.2.2.2.2.2.2.2.2.1 x x0 x1
theorem Rel.put_ripples {k : Int} {n : NM} {u v p : Int} (h : Rel k n) (p0 : 0 ≤ p) (p1 : p + 1 < 20) (hv : (1 ≤ u ∧ u ≤ 99) ∧ 1 ≤ v ∧ v ≤ 99) : Rel k (b2 n 30 p 870 u v) := by
  have hF : FR n 29 2 10 870 (n 147) := h.1.2.2.2.2.2.2.2.2.2.2.2.2.1
  have ho : ∀ i : Int, 0 ≤ i → i < 1800 → ¬ (870 ≤ i ∧ i < 890) → (b2 n 30 p 870 u v) 147 i = n 147 i := fun i i0 i1 i2 => by
    rw [b2_r (by decide) (by decide), if_neg (by omega), if_neg (by omega)]
  refine h.fix_frame (c := 30) (by decide) (fun q a b c d => b2_t a b c d) (b2_0 (by decide)) (b2_145 (by decide)) ?_ ?_
  · refine h.1.upd_ripples (fun q q0 q1 q2 q3 => b2_t (by omega) (by omega) (by omega) (by omega)) ho (hF.new (b2_t (by decide) (by decide) (by decide) (by decide)) ?_)
    intro j j0 j1
    rw [b2_r (by decide) (by decide), show (1 + 28 + 1 : Nat) = 30 from rfl, b2_c (by decide) (by decide)]
    by_cases q : j = p + 1
    · rw [if_pos q, if_pos (by omega)]
    · rw [if_neg q, if_neg (show ¬ (870 + j = 870 + p + 1) by omega)]
      by_cases q2 : j = p
      · rw [if_pos q2, if_pos (by omega)]
      · rw [if_neg q2, if_neg (by omega)]
        exact hF.2.2 j j0 j1
  · refine h.2.1.upd_ripples ho h.cnt ?_
    intro x x0 x1
    rw [b2_r (by decide) (by decide)]
    by_cases q : x = p + 1
    · rw [if_pos (by omega)]
      exact hv.2
    · rw [if_neg (by omega)]
      by_cases q2 : x = p
      · rw [if_pos (by omega)]
        exact hv.1
      · rw [if_neg (by omega)]
        exact h.2.1.2.2.2.2.2.2.2.2.2.2.1 x x0 x1
theorem Rel.zero {k : Int} {n : NM} (h : Rel k n) : Rel k (upn n 145 0 0) := by
  have e : ∀ q : Nat, q ≠ 145 → (upn n 145 0 0) q = n q := fun q c => upn_ne c
  refine h.frame (fun q a b c => e q (by omega)) (e _ (by decide)) (e _ (by decide)) (e _ (by decide)) (e _ (by decide)) (upn_i (by decide)) (upn_i (by decide)) ?_ ?_ ?_
  · rw [e 147 (by decide)]
    exact h.1.congr (fun t a b => e t (by omega)) (fun _ _ _ => rfl)
  · rw [e 147 (by decide)]
    exact h.2.1
  · exact h.2.2.2.2.2.1
theorem Rel.add_logs {k : Int} {n : NM} {a b e f : Int} (h : Rel k n) (hf : n 8 3 < 12) : Rel k (badd n 8 2 300 2 a b e f) := by
  have hT : TR n 8 2 12 2 300 (n 147) := h.1.2.2.2.1
  have hc0 : 0 ≤ n 147 2 := by
    rw [← hT.2.1]
    exact hT.1.2.2.1
  have hc1 : n 147 2 < 12 := by
    rw [← hT.2.1]
    exact hf
  have ho : ∀ i : Int, 0 ≤ i → i < 1800 → ¬ (i = 2 ∨ (300 ≤ i ∧ i < 324)) → (badd n 8 2 300 2 a b e f) 147 i = n 147 i := fun i i0 i1 i2 => badd_out (by decide) (by decide) (by omega) (by omega)
  refine h.badd_frame (by decide) (by decide) ?_ (h.2.1.upd_logs ho h.cnt)
  refine h.1.upd_logs (fun q q0 q1 q2 q3 => badd_t (by omega) (by omega) (by omega) (by omega) (by omega)) ho ?_
  exact hT.badd hf (by decide) (by decide) (by decide) (by decide) (by decide) hc0
