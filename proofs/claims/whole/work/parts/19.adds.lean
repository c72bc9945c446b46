/-- both have a row more -/
def badd (n : NM) (t : Nat) (cnt base W a b e f : Int) : NM := upn (madd (upn (upn (tadd n t (t + 1) W a b e f) 0 10 0) 145 0 0) cnt base W a b e f) 145 1 0
section BADD
variable {n : NM} {t : Nat} {cnt base W a b e f : Int}
theorem badd_t {q : Nat} (h0 : q ≠ 0) (h1 : q ≠ t) (h2 : q ≠ t + 1) (h3 : q ≠ 145) (h4 : q ≠ 147) : badd n t cnt base W a b e f q = n q := by
  unfold badd madd tadd
  rw [upn_ne h3, upn_ne h4, wrow_ne h4, upn_ne h3, upn_ne h0, wrow_ne h2, upn_ne h1]
theorem badd_tb (h0 : 0 < t) (h1 : t < 33) : badd n t cnt base W a b e f t = upn n t 3 (n t 3 + 1) t := by
  unfold badd madd tadd
  rw [upn_ne (by omega), upn_ne (by omega), wrow_ne (by omega), upn_ne (by omega), upn_ne (by omega), wrow_ne (by omega)]
theorem badd_c (h0 : 0 < t) (h1 : t < 33) : badd n t cnt base W a b e f (t + 1) = wrow n (t + 1) (n t 3 * W) (min W 4) (sel4 a b e f) (t + 1) := by
  unfold badd madd tadd
  rw [upn_ne (by omega), upn_ne (by omega), wrow_ne (by omega), upn_ne (by omega), upn_ne (by omega)]
  funext j
  simp only [wrow]
  rw [upn_ne (by omega)]
theorem badd_r (h0 : 0 < t) (h1 : t < 33) (j : Int) : badd n t cnt base W a b e f 147 j = if j = cnt then n 147 cnt + 1 else if base + W * n 147 cnt ≤ j ∧ j < base + W * n 147 cnt + W then sel4 a b e f (j - (base + W * n 147 cnt)) else n 147 j := by
  have e147 : (upn (upn (tadd n t (t + 1) W a b e f) 0 10 0) 145 0 0) 147 = n 147 := by
    unfold tadd
    rw [upn_ne (by omega), upn_ne (by omega), wrow_ne (by omega), upn_ne (by omega)]
  unfold badd madd
  generalize upn (upn (tadd n t (t + 1) W a b e f) 0 10 0) 145 0 0 = X at e147 ⊢
  rw [upn_ne (by omega), e147]
  simp only [upn, wrow]
  by_cases c1 : j = cnt
  · rw [if_pos ⟨trivial, c1⟩, if_pos c1]
  · rw [if_neg (by omega), if_neg c1]
    by_cases c2 : base + W * n 147 cnt ≤ j ∧ j < base + W * n 147 cnt + W
    · rw [if_pos ⟨trivial, c2.1, c2.2⟩, if_pos c2]
    · rw [if_neg (by omega), if_neg c2, e147]
theorem badd_0 (h0 : 0 < t) (j : Int) : badd n t cnt base W a b e f 0 j = if j = 10 then 0 else n 0 j := by
  unfold badd madd tadd
  rw [upn_ne (by omega), upn_ne (by omega), wrow_ne (by omega), upn_ne (by omega)]
  simp only [upn, wrow]
  by_cases c1 : j = 10
  · rw [if_pos ⟨trivial, c1⟩, if_pos c1]
  · rw [if_neg (by omega), if_neg c1, if_neg (by omega), if_neg (by omega)]
theorem badd_145 (h0 : 0 < t) (h1 : t < 33) (j : Int) : badd n t cnt base W a b e f 145 j = if j = 1 then 0 else if j = 0 then 0 else n 145 j := by
  unfold badd madd tadd
  simp only [upn, wrow]
  by_cases c1 : j = 1
  · rw [if_pos ⟨trivial, c1⟩, if_pos c1]
  · rw [if_neg (by omega), if_neg c1, if_neg (by omega), if_neg (by omega)]
    by_cases c2 : j = 0
    · rw [if_pos ⟨trivial, c2⟩, if_pos c2]
    · rw [if_neg (by omega), if_neg c2, if_neg (by omega), if_neg (by omega), if_neg (by omega)]
theorem Rel.badd_frame {k : Int} (h : Rel k n) (h0 : 0 < t) (h1 : t < 32) (hl : LakeRel (badd n t cnt base W a b e f) 1 (badd n t cnt base W a b e f 147)) (hr : RowOk (badd n t cnt base W a b e f 147)) : Rel k (badd n t cnt base W a b e f) := by
  have e : ∀ q : Nat, q ≠ 0 → q ≠ t → q ≠ t + 1 → q ≠ 145 → q ≠ 147 → badd n t cnt base W a b e f q = n q := fun q a b c d e => badd_t a b c d e
  refine h.frame (fun q q0 q1 q2 => e q (by omega) (by omega) (by omega) (by omega) (by omega)) (e _ (by omega) (by omega) (by omega) (by omega) (by omega)) (e _ (by omega) (by omega) (by omega) (by omega) (by omega)) (e _ (by omega) (by omega) (by omega) (by omega) (by omega)) (e _ (by omega) (by omega) (by omega) (by omega) (by omega)) ?_ ?_ hl hr ?_
  · rw [badd_145 h0 (by omega)]
    rfl
  · rw [badd_145 h0 (by omega)]
    rfl
  · have hm := h.2.2.2.2.2.1
    unfold MiscRel at *
    rw [badd_145 h0 (by omega), badd_145 h0 (by omega), badd_145 h0 (by omega), badd_0 h0, badd_0 h0, badd_0 h0, e 80 (by omega) (by omega) (by omega) (by omega) (by omega), e 146 (by omega) (by omega) (by omega) (by omega) (by omega)]
    exact ⟨rfl, hm.2⟩
theorem TR.badd {R : Int} (h : TR n t W R cnt base (n 147)) (hf : n t 3 < R) (h0 : 0 < t) (h1 : t < 32) (hW : 1 ≤ W) (hW4 : W ≤ 4) (hc : cnt < base) (hc0 : 0 ≤ n 147 cnt) : TR (badd n t cnt base W a b e f) t W R cnt base (badd n t cnt base W a b e f 147) := by
  have ew : 0 ≤ W * n 147 cnt := Int.mul_nonneg (by omega) hc0
  refine h.add hf hW hW4 ?_ ?_ ?_ (badd_c h0 (by omega)) ?_ (g := sel4 a b e f) ?_ ?_
  · rw [badd_tb h0 (by omega), upn_i (by decide)]
  · rw [badd_tb h0 (by omega), upn_i (by decide)]
  · rw [badd_tb h0 (by omega), upn_self]
  · rw [badd_r h0 (by omega), if_pos rfl]
  · intro j j0 j1
    rw [badd_r h0 (by omega), if_neg (by omega), if_pos (by omega)]
    congr 1
    omega
  · intro j j0 j1
    rw [badd_r h0 (by omega), if_neg (by omega), if_neg (by omega)]
theorem badd_in (h0 : 0 < t) (h1 : t < 32) (hc : cnt < base) (hc0 : 0 ≤ n 147 cnt) (hW : 0 ≤ W) {j : Int} (j0 : 0 ≤ j) (j1 : j < W) : badd n t cnt base W a b e f 147 (base + W * n 147 cnt + j) = sel4 a b e f j := by
  have ew : 0 ≤ W * n 147 cnt := Int.mul_nonneg (by omega) hc0
  rw [badd_r h0 (by omega), if_neg (by omega), if_pos (by omega)]
  congr 1
  omega
theorem badd_out (h0 : 0 < t) (h1 : t < 32) {j : Int} (j0 : j ≠ cnt) (j1 : j < base + W * n 147 cnt ∨ base + W * n 147 cnt + W ≤ j) : badd n t cnt base W a b e f 147 j = n 147 j := by
  rw [badd_r h0 (by omega), if_neg j0, if_neg (by omega)]
theorem badd_cnt (h0 : 0 < t) (h1 : t < 32) : badd n t cnt base W a b e f 147 cnt = n 147 cnt + 1 := by
  rw [badd_r h0 (by omega), if_pos rfl]
end BADD
theorem Rel.add_boats {k : Int} {n : NM} {a b e f : Int} (h : Rel k n) (hf : n 4 3 < 12) (hv : (0 ≤ b ∧ b ≤ 1) ∧ (0 ≤ e ∧ e ≤ 1439) ∧ 1 ≤ f ∧ f ≤ 24) : Rel k (badd n 4 0 200 4 a b e f) := by
  have hT : TR n 4 4 12 0 200 (n 147) := h.1.2.1
  have hc0 : 0 ≤ n 147 0 := by
    rw [← hT.2.1]
    exact hT.1.2.2.1
  have hc1 : n 147 0 < 12 := by
    rw [← hT.2.1]
    exact hf
  have ho : ∀ i : Int, 0 ≤ i → i < 1800 → ¬ (i = 0 ∨ (200 ≤ i ∧ i < 248)) → (badd n 4 0 200 4 a b e f) 147 i = n 147 i := fun i i0 i1 i2 => badd_out (by decide) (by decide) (by omega) (by omega)
  refine h.badd_frame (by decide) (by decide) ?_ ?_
  · refine h.1.upd_boats (fun q q0 q1 q2 q3 => badd_t (by omega) (by omega) (by omega) (by omega) (by omega)) ho ?_
    exact hT.badd hf (by decide) (by decide) (by decide) (by decide) (by decide) hc0
  · refine h.2.1.upd_boats ho h.cnt ?_
    intro x x0 x1
    rw [badd_cnt (by decide) (by decide)] at x1
    by_cases q : x < n 147 0
    · have := h.2.1.2.1 x x0 q
      rw [badd_out (by decide) (by decide) (j := 200 + 4 * x + 1) (by omega) (by omega), badd_out (by decide) (by decide) (j := 200 + 4 * x + 2) (by omega) (by omega), badd_out (by decide) (by decide) (j := 200 + 4 * x + 3) (by omega) (by omega)]
      exact this
    · have hx : x = n 147 0 := by omega
      subst hx
      have e0 : (badd n 4 0 200 4 a b e f) 147 (200 + 4 * n 147 0 + 1) = b := (congrArg (badd n 4 0 200 4 a b e f 147) (by omega)).trans (badd_in (by decide) (by decide) (by decide) hc0 (by decide) (j := 1) (by decide) (by decide))
      have e1 : (badd n 4 0 200 4 a b e f) 147 (200 + 4 * n 147 0 + 2) = e := (congrArg (badd n 4 0 200 4 a b e f 147) (by omega)).trans (badd_in (by decide) (by decide) (by decide) hc0 (by decide) (j := 2) (by decide) (by decide))
      have e2 : (badd n 4 0 200 4 a b e f) 147 (200 + 4 * n 147 0 + 3) = f := (congrArg (badd n 4 0 200 4 a b e f 147) (by omega)).trans (badd_in (by decide) (by decide) (by decide) hc0 (by decide) (j := 3) (by decide) (by decide))
      rw [e0, e1, e2]
      exact hv
theorem Rel.add_beasts {k : Int} {n : NM} {a b e f : Int} (h : Rel k n) (hf : n 6 3 < 12) (hv : 0 ≤ b ∧ b ≤ 23) : Rel k (badd n 6 1 250 4 a b e f) := by
  have hT : TR n 6 4 12 1 250 (n 147) := h.1.2.2.1
  have hc0 : 0 ≤ n 147 1 := by
    rw [← hT.2.1]
    exact hT.1.2.2.1
  have hc1 : n 147 1 < 12 := by
    rw [← hT.2.1]
    exact hf
  have ho : ∀ i : Int, 0 ≤ i → i < 1800 → ¬ (i = 1 ∨ (250 ≤ i ∧ i < 298)) → (badd n 6 1 250 4 a b e f) 147 i = n 147 i := fun i i0 i1 i2 => badd_out (by decide) (by decide) (by omega) (by omega)
  refine h.badd_frame (by decide) (by decide) ?_ ?_
  · refine h.1.upd_beasts (fun q q0 q1 q2 q3 => badd_t (by omega) (by omega) (by omega) (by omega) (by omega)) ho ?_
    exact hT.badd hf (by decide) (by decide) (by decide) (by decide) (by decide) hc0
  · refine h.2.1.upd_beasts ho h.cnt ?_
    intro x x0 x1
    rw [badd_cnt (by decide) (by decide)] at x1
    by_cases q : x < n 147 1
    · have := h.2.1.2.2.1 x x0 q
      rw [badd_out (by decide) (by decide) (j := 250 + 4 * x + 1) (by omega) (by omega)]
      exact this
    · have hx : x = n 147 1 := by omega
      subst hx
      have e0 : (badd n 6 1 250 4 a b e f) 147 (250 + 4 * n 147 1 + 1) = b := (congrArg (badd n 6 1 250 4 a b e f 147) (by omega)).trans (badd_in (by decide) (by decide) (by decide) hc0 (by decide) (j := 1) (by decide) (by decide))
      rw [e0]
      exact hv
theorem Rel.add_watchers {k : Int} {n : NM} {a b e f : Int} (h : Rel k n) (hf : n 10 3 < 12) (hv : 0 ≤ a ∧ a ≤ 100) : Rel k (badd n 10 3 330 1 a b e f) := by
  have hT : TR n 10 1 12 3 330 (n 147) := h.1.2.2.2.2.1
  have hc0 : 0 ≤ n 147 3 := by
    rw [← hT.2.1]
    exact hT.1.2.2.1
  have hc1 : n 147 3 < 12 := by
    rw [← hT.2.1]
    exact hf
  have ho : ∀ i : Int, 0 ≤ i → i < 1800 → ¬ (i = 3 ∨ (330 ≤ i ∧ i < 342)) → (badd n 10 3 330 1 a b e f) 147 i = n 147 i := fun i i0 i1 i2 => badd_out (by decide) (by decide) (by omega) (by omega)
  refine h.badd_frame (by decide) (by decide) ?_ ?_
  · refine h.1.upd_watchers (fun q q0 q1 q2 q3 => badd_t (by omega) (by omega) (by omega) (by omega) (by omega)) ho ?_
    exact hT.badd hf (by decide) (by decide) (by decide) (by decide) (by decide) hc0
  · refine h.2.1.upd_watchers ho h.cnt ?_
    intro x x0 x1
    rw [badd_cnt (by decide) (by decide)] at x1
    by_cases q : x < n 147 3
    · have := h.2.1.2.2.2.1 x x0 q
      rw [badd_out (by decide) (by decide) (j := 330 + x) (by omega) (by omega)]
      exact this
    · have hx : x = n 147 3 := by omega
      subst hx
      have e0 : (badd n 10 3 330 1 a b e f) 147 (330 + n 147 3) = a := (congrArg (badd n 10 3 330 1 a b e f 147) (by omega)).trans (badd_in (by decide) (by decide) (by decide) hc0 (by decide) (j := 0) (by decide) (by decide))
      rw [e0]
      exact hv
theorem Rel.add_poles {k : Int} {n : NM} {a b e f : Int} (h : Rel k n) (hf : n 12 3 < 20) (hv : (1 ≤ b ∧ b ≤ 99) ∧ 1 ≤ e ∧ e ≤ 200) : Rel k (badd n 12 4 350 3 a b e f) := by
  have hT : TR n 12 3 20 4 350 (n 147) := h.1.2.2.2.2.2.1
  have hc0 : 0 ≤ n 147 4 := by
    rw [← hT.2.1]
    exact hT.1.2.2.1
  have hc1 : n 147 4 < 20 := by
    rw [← hT.2.1]
    exact hf
  have ho : ∀ i : Int, 0 ≤ i → i < 1800 → ¬ (i = 4 ∨ (350 ≤ i ∧ i < 410)) → (badd n 12 4 350 3 a b e f) 147 i = n 147 i := fun i i0 i1 i2 => badd_out (by decide) (by decide) (by omega) (by omega)
  refine h.badd_frame (by decide) (by decide) ?_ ?_
  · refine h.1.upd_poles (fun q q0 q1 q2 q3 => badd_t (by omega) (by omega) (by omega) (by omega) (by omega)) ho ?_
    exact hT.badd hf (by decide) (by decide) (by decide) (by decide) (by decide) hc0
  · refine h.2.1.upd_poles ho h.cnt ?_
    intro x x0 x1
    rw [badd_cnt (by decide) (by decide)] at x1
    by_cases q : x < n 147 4
    · have := h.2.1.2.2.2.2.1 x x0 q
      rw [badd_out (by decide) (by decide) (j := 350 + 3 * x + 1) (by omega) (by omega), badd_out (by decide) (by decide) (j := 350 + 3 * x + 2) (by omega) (by omega)]
      exact this
    · have hx : x = n 147 4 := by omega
      subst hx
      have e0 : (badd n 12 4 350 3 a b e f) 147 (350 + 3 * n 147 4 + 1) = b := (congrArg (badd n 12 4 350 3 a b e f 147) (by omega)).trans (badd_in (by decide) (by decide) (by decide) hc0 (by decide) (j := 1) (by decide) (by decide))
      have e1 : (badd n 12 4 350 3 a b e f) 147 (350 + 3 * n 147 4 + 2) = e := (congrArg (badd n 12 4 350 3 a b e f 147) (by omega)).trans (badd_in (by decide) (by decide) (by decide) hc0 (by decide) (j := 2) (by decide) (by decide))
      rw [e0, e1]
      exact hv
theorem Rel.add_stories {k : Int} {n : NM} {a b e f : Int} (h : Rel k n) (hf : n 21 3 < 6) (hv : (0 ≤ a ∧ a ≤ 100) ∧ (0 ≤ b ∧ b ≤ 20) ∧ 1 ≤ e ∧ e ≤ 60) : Rel k (badd n 21 7 700 3 a b e f) := by
  have hT : TR n 21 3 6 7 700 (n 147) := h.1.2.2.2.2.2.2.2.2.1
  have hc0 : 0 ≤ n 147 7 := by
    rw [← hT.2.1]
    exact hT.1.2.2.1
  have hc1 : n 147 7 < 6 := by
    rw [← hT.2.1]
    exact hf
  have ho : ∀ i : Int, 0 ≤ i → i < 1800 → ¬ (i = 7 ∨ (700 ≤ i ∧ i < 718)) → (badd n 21 7 700 3 a b e f) 147 i = n 147 i := fun i i0 i1 i2 => badd_out (by decide) (by decide) (by omega) (by omega)
  refine h.badd_frame (by decide) (by decide) ?_ ?_
  · refine h.1.upd_stories (fun q q0 q1 q2 q3 => badd_t (by omega) (by omega) (by omega) (by omega) (by omega)) ho ?_
    exact hT.badd hf (by decide) (by decide) (by decide) (by decide) (by decide) hc0
  · refine h.2.1.upd_stories ho h.cnt ?_
    intro x x0 x1
    rw [badd_cnt (by decide) (by decide)] at x1
    by_cases q : x < n 147 7
    · have := h.2.1.2.2.2.2.2.2.1 x x0 q
      rw [badd_out (by decide) (by decide) (j := 700 + 3 * x) (by omega) (by omega), badd_out (by decide) (by decide) (j := 700 + 3 * x + 1) (by omega) (by omega), badd_out (by decide) (by decide) (j := 700 + 3 * x + 2) (by omega) (by omega)]
      exact this
    · have hx : x = n 147 7 := by omega
      subst hx
      have e0 : (badd n 21 7 700 3 a b e f) 147 (700 + 3 * n 147 7) = a := (congrArg (badd n 21 7 700 3 a b e f 147) (by omega)).trans (badd_in (by decide) (by decide) (by decide) hc0 (by decide) (j := 0) (by decide) (by decide))
      have e1 : (badd n 21 7 700 3 a b e f) 147 (700 + 3 * n 147 7 + 1) = b := (congrArg (badd n 21 7 700 3 a b e f 147) (by omega)).trans (badd_in (by decide) (by decide) (by decide) hc0 (by decide) (j := 1) (by decide) (by decide))
      have e2 : (badd n 21 7 700 3 a b e f) 147 (700 + 3 * n 147 7 + 2) = e := (congrArg (badd n 21 7 700 3 a b e f 147) (by omega)).trans (badd_in (by decide) (by decide) (by decide) hc0 (by decide) (j := 2) (by decide) (by decide))
      rw [e0, e1, e2]
      exact hv
theorem Rel.add_sweeps {k : Int} {n : NM} {a b e f : Int} (h : Rel k n) (hf : n 23 3 < 12) (hv : (0 ≤ a ∧ a ≤ 100) ∧ (1 ≤ b ∧ b ≤ 60) ∧ (0 ≤ e ∧ e ≤ 99) ∧ 0 ≤ f ∧ f ≤ 1) : Rel k (badd n 23 8 720 4 a b e f) := by
  have hT : TR n 23 4 12 8 720 (n 147) := h.1.2.2.2.2.2.2.2.2.2.1
  have hc0 : 0 ≤ n 147 8 := by
    rw [← hT.2.1]
    exact hT.1.2.2.1
  have hc1 : n 147 8 < 12 := by
    rw [← hT.2.1]
    exact hf
  have ho : ∀ i : Int, 0 ≤ i → i < 1800 → ¬ (i = 8 ∨ (720 ≤ i ∧ i < 768)) → (badd n 23 8 720 4 a b e f) 147 i = n 147 i := fun i i0 i1 i2 => badd_out (by decide) (by decide) (by omega) (by omega)
  refine h.badd_frame (by decide) (by decide) ?_ ?_
  · refine h.1.upd_sweeps (fun q q0 q1 q2 q3 => badd_t (by omega) (by omega) (by omega) (by omega) (by omega)) ho ?_
    exact hT.badd hf (by decide) (by decide) (by decide) (by decide) (by decide) hc0
  · refine h.2.1.upd_sweeps ho h.cnt ?_
    intro x x0 x1
    rw [badd_cnt (by decide) (by decide)] at x1
    by_cases q : x < n 147 8
    · have := h.2.1.2.2.2.2.2.2.2.1 x x0 q
      rw [badd_out (by decide) (by decide) (j := 720 + 4 * x) (by omega) (by omega), badd_out (by decide) (by decide) (j := 720 + 4 * x + 1) (by omega) (by omega), badd_out (by decide) (by decide) (j := 720 + 4 * x + 2) (by omega) (by omega), badd_out (by decide) (by decide) (j := 720 + 4 * x + 3) (by omega) (by omega)]
      exact this
    · have hx : x = n 147 8 := by omega
      subst hx
      have e0 : (badd n 23 8 720 4 a b e f) 147 (720 + 4 * n 147 8) = a := (congrArg (badd n 23 8 720 4 a b e f 147) (by omega)).trans (badd_in (by decide) (by decide) (by decide) hc0 (by decide) (j := 0) (by decide) (by decide))
      have e1 : (badd n 23 8 720 4 a b e f) 147 (720 + 4 * n 147 8 + 1) = b := (congrArg (badd n 23 8 720 4 a b e f 147) (by omega)).trans (badd_in (by decide) (by decide) (by decide) hc0 (by decide) (j := 1) (by decide) (by decide))
      have e2 : (badd n 23 8 720 4 a b e f) 147 (720 + 4 * n 147 8 + 2) = e := (congrArg (badd n 23 8 720 4 a b e f 147) (by omega)).trans (badd_in (by decide) (by decide) (by decide) hc0 (by decide) (j := 2) (by decide) (by decide))
      have e3 : (badd n 23 8 720 4 a b e f) 147 (720 + 4 * n 147 8 + 3) = f := (congrArg (badd n 23 8 720 4 a b e f 147) (by omega)).trans (badd_in (by decide) (by decide) (by decide) hc0 (by decide) (j := 3) (by decide) (by decide))
      rw [e0, e1, e2, e3]
      exact hv
theorem Rel.add_offers {k : Int} {n : NM} {a b e f : Int} (h : Rel k n) (hf : n 25 3 < 10) (hv : (0 ≤ a ∧ a ≤ 100) ∧ (1 ≤ b ∧ b ≤ 60) ∧ (0 ≤ e ∧ e ≤ 99) ∧ 1 ≤ f ∧ f ≤ 100) : Rel k (badd n 25 9 770 4 a b e f) := by
  have hT : TR n 25 4 10 9 770 (n 147) := h.1.2.2.2.2.2.2.2.2.2.2.1
  have hc0 : 0 ≤ n 147 9 := by
    rw [← hT.2.1]
    exact hT.1.2.2.1
  have hc1 : n 147 9 < 10 := by
    rw [← hT.2.1]
    exact hf
  have ho : ∀ i : Int, 0 ≤ i → i < 1800 → ¬ (i = 9 ∨ (770 ≤ i ∧ i < 810)) → (badd n 25 9 770 4 a b e f) 147 i = n 147 i := fun i i0 i1 i2 => badd_out (by decide) (by decide) (by omega) (by omega)
  refine h.badd_frame (by decide) (by decide) ?_ ?_
  · refine h.1.upd_offers (fun q q0 q1 q2 q3 => badd_t (by omega) (by omega) (by omega) (by omega) (by omega)) ho ?_
    exact hT.badd hf (by decide) (by decide) (by decide) (by decide) (by decide) hc0
  · refine h.2.1.upd_offers ho h.cnt ?_
    intro x x0 x1
    rw [badd_cnt (by decide) (by decide)] at x1
    by_cases q : x < n 147 9
    · have := h.2.1.2.2.2.2.2.2.2.2.1 x x0 q
      rw [badd_out (by decide) (by decide) (j := 770 + 4 * x) (by omega) (by omega), badd_out (by decide) (by decide) (j := 770 + 4 * x + 1) (by omega) (by omega), badd_out (by decide) (by decide) (j := 770 + 4 * x + 2) (by omega) (by omega), badd_out (by decide) (by decide) (j := 770 + 4 * x + 3) (by omega) (by omega)]
      exact this
    · have hx : x = n 147 9 := by omega
      subst hx
      have e0 : (badd n 25 9 770 4 a b e f) 147 (770 + 4 * n 147 9) = a := (congrArg (badd n 25 9 770 4 a b e f 147) (by omega)).trans (badd_in (by decide) (by decide) (by decide) hc0 (by decide) (j := 0) (by decide) (by decide))
      have e1 : (badd n 25 9 770 4 a b e f) 147 (770 + 4 * n 147 9 + 1) = b := (congrArg (badd n 25 9 770 4 a b e f 147) (by omega)).trans (badd_in (by decide) (by decide) (by decide) hc0 (by decide) (j := 1) (by decide) (by decide))
      have e2 : (badd n 25 9 770 4 a b e f) 147 (770 + 4 * n 147 9 + 2) = e := (congrArg (badd n 25 9 770 4 a b e f 147) (by omega)).trans (badd_in (by decide) (by decide) (by decide) hc0 (by decide) (j := 2) (by decide) (by decide))
      have e3 : (badd n 25 9 770 4 a b e f) 147 (770 + 4 * n 147 9 + 3) = f := (congrArg (badd n 25 9 770 4 a b e f 147) (by omega)).trans (badd_in (by decide) (by decide) (by decide) hc0 (by decide) (j := 3) (by decide) (by decide))
      rw [e0, e1, e2, e3]
      exact hv
