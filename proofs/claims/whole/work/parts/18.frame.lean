theorem wrow_ne {n : NM} {c b : Nat} {base len : Int} {g : Int → Int} (h : b ≠ c) : wrow n c base len g b = n b := by
  funext j
  exact wrow_a h
theorem LakeW.congr {n n2 : NM} {a : Nat} (hn : ∀ t : Nat, a < t → t < a + 32 → n2 t = n t) (h : LakeW n a) : LakeW n2 a := by
  obtain ⟨p0, p1, p2, p3, p4, p5, p6, p7, p8, p9, p10, p11, p12, p13, p14⟩ := h
  have q : ∀ (j : Nat) {W R : Int}, 0 < j → j < 32 → TW n (a + j) W R → TW n2 (a + j) W R := fun j W R h0 h1 h => h.congr (hn _ (by omega) (by omega))
  have e : ∀ (j : Nat), 0 < j → j < 32 → n2 (a + j) = n (a + j) := fun j h0 h1 => hn _ (by omega) (by omega)
  refine ⟨⟨q 1 (by decide) (by decide) p0.1, ?_⟩, q 3 (by decide) (by decide) p1, q 5 (by decide) (by decide) p2, q 7 (by decide) (by decide) p3, q 9 (by decide) (by decide) p4, q 11 (by decide) (by decide) p5, q 13 (by decide) (by decide) p6, q 18 (by decide) (by decide) p7, q 20 (by decide) (by decide) p8, q 22 (by decide) (by decide) p9, q 24 (by decide) (by decide) p10, ⟨q 26 (by decide) (by decide) p11.1, ?_⟩, ⟨q 28 (by decide) (by decide) p12.1, ?_⟩, q 30 (by decide) (by decide) p13, ?_⟩
  · rw [e 1 (by decide) (by decide)]
    exact p0.2
  · rw [e 26 (by decide) (by decide)]
    exact p11.2
  · rw [e 28 (by decide) (by decide)]
    exact p12.2
  · rw [e 30 (by decide) (by decide)]
    exact p14
theorem ImgRel.congr {n n2 : NM} {a : Nat} {k : Int} (hn : ∀ t : Nat, a < t → t < a + 32 → n2 t = n t) (h1 : n2 34 = n 34) (h2 : n2 148 = n 148) (h3 : n2 149 = n 149) (h : ImgRel n a k) : ImgRel n2 a k := by
  obtain ⟨p0, p1, p2⟩ := h
  have e : imR n2 k = imR n k := by
    unfold imR
    rw [h2]
  unfold ImgRel
  rw [h1, h3, e]
  refine ⟨p0.congr hn, p1, ?_⟩
  rcases p2 with p | ⟨p, q, r⟩
  · exact Or.inl p
  · exact Or.inr ⟨p, q.congr hn (fun _ _ _ => rfl), r⟩
theorem TapeRel.congr {n n2 : NM} (h1 : n2 35 = n 35) (h2 : n2 36 = n 36) (h3 : n2 150 = n 150) (h4 : n2 145 8 = n 145 8) (h : TapeRel n) : TapeRel n2 := by
  unfold TapeRel
  rw [h1, h2, h3, h4]
  exact h
theorem WorldRel.congr {n n2 : NM} (h1 : n2 77 = n 77) (h2 : n2 78 = n 78) (h3 : n2 79 = n 79) (h4 : n2 164 = n 164) (h5 : n2 145 37 = n 145 37) (h : WorldRel n) : WorldRel n2 := by
  unfold WorldRel
  rw [h1, h3, h4, h5, h2]
  exact ⟨h.1.congr h2, h.2⟩
/-- nothing but the lake, the row and the news has changed -/
theorem Rel.frame {k k2 : Int} {n n2 : NM} (h : Rel k n) (hn : ∀ t : Nat, 33 < t → t < 145 → t ≠ 80 → n2 t = n t) (h1 : n2 148 = n 148) (h2 : n2 149 = n 149) (h3 : n2 150 = n 150) (h4 : n2 164 = n 164) (h5 : n2 145 8 = n 145 8) (h6 : n2 145 37 = n 145 37) (hl : LakeRel n2 1 (n2 147)) (hr : RowOk (n2 147)) (hm : MiscRel k2 n2) : Rel k2 n2 := by
  obtain ⟨p0, p1, p2, p3, p4, p5, p6, p7⟩ := h
  have e : ∀ t : Nat, decide (33 < t ∧ t < 145 ∧ t ≠ 80) = true → n2 t = n t := fun t c => by
    have c := of_decide_eq_true c
    exact hn t c.1 c.2.1 c.2.2
  exact ⟨hl, hr, p2.congr (fun t a b => hn t (by omega) (by omega) (by omega)) (e 34 rfl) h1 h2, p3.congr (fun t a b => hn t (by omega) (by omega) (by omega)) (e 34 rfl) h1 h2,
    p4.congr (e 35 rfl) (e 36 rfl) h3 h5, hm, p6.congr (e 77 rfl) (e 78 rfl) (e 79 rfl) h4 h6, p7.congr (e 45 rfl)⟩
theorem Rel.le {k k2 : Int} {n : NM} (h : Rel k n) (q : k ≤ k2) : Rel k2 n := by
  obtain ⟨p0, p1, p2, p3, p4, p5, p6, p7⟩ := h
  refine ⟨p0, p1, p2, p3, p4, ?_, p6, p7⟩
  unfold MiscRel at *
  omega
theorem Rel.cnt {k : Int} {n : NM} (h : Rel k n) : 0 ≤ n 147 0 ∧ n 147 0 ≤ 12 ∧ n 147 1 ≤ 12 ∧ n 147 3 ≤ 12 ∧ n 147 4 ≤ 20 ∧ n 147 5 ≤ 40 ∧ n 147 7 ≤ 6 ∧ n 147 8 ≤ 12 ∧ n 147 9 ≤ 10 := by
  obtain ⟨⟨_, p1, p2, p3, p4, p5, p6, _, p8, p9, p10, _⟩, _⟩ := h
  have q : ∀ {t : Nat} {W R cnt base : Int} {r : Int → Int}, TR n t W R cnt base r → 0 ≤ r cnt ∧ r cnt ≤ R := fun h => by
    rw [← h.2.1]
    exact h.1.2.2
  exact ⟨(q p1).1, (q p1).2, (q p2).2, (q p4).2, (q p5).2, (q p6).2, (q p8).2, (q p9).2, (q p10).2⟩
theorem Rel.few {k : Int} {n : NM} (h : Rel k n) (q : k ≤ 1000) : ∀ i, 0 ≤ i → i < 4 → 0 ≤ n 80 i ∧ n 80 i ≤ 1000 := by
  obtain ⟨_, _, _, _, _, p, _⟩ := h
  unfold MiscRel at p
  intro i i0 i1
  have : i = 0 ∨ i = 1 ∨ i = 2 ∨ i = 3 := by omega
  rcases this with rfl | rfl | rfl | rfl <;> omega
/-- both refuse -/
def bref (n : NM) (v : Int) : NM := mref (upn (cref n v) 145 0 0) v
theorem bref_t {n : NM} {v : Int} {t : Nat} (h0 : t ≠ 0) (h1 : t ≠ 80) (h2 : t ≠ 145) (h3 : t ≠ 146) : bref n v t = n t := by
  unfold bref mref cref
  rw [upn_ne h3, upn_ne h2, upn_ne h2, upn_ne h1, upn_ne h0]
theorem Rel.refuse {k : Int} {n : NM} (h : Rel k n) {v : Int} (hv : v = -1 ∨ v = -2 ∨ v = -5 ∨ v = -6) : Rel (k + 1) (bref n v) := by
  have e : ∀ t : Nat, 0 < t → t < 80 → bref n v t = n t := fun t a b => bref_t (by omega) (by omega) (by omega) (by omega)
  have e147 : bref n v 147 = n 147 := bref_t (by decide) (by decide) (by decide) (by decide)
  have hm := h.2.2.2.2.2.1
  refine h.frame (fun t a b c => bref_t (by omega) c (by omega) (by omega)) (bref_t (by decide) (by decide) (by decide) (by decide)) (bref_t (by decide) (by decide) (by decide) (by decide)) (bref_t (by decide) (by decide) (by decide) (by decide)) (bref_t (by decide) (by decide) (by decide) (by decide)) ?_ ?_ ?_ ?_ ?_
  · rcases hv with rfl | rfl | rfl | rfl <;> rfl
  · rcases hv with rfl | rfl | rfl | rfl <;> rfl
  · rw [e147]
    exact h.1.congr (fun t a b => e t (by omega) (by omega)) (fun _ _ _ => rfl)
  · rw [e147]
    exact h.2.1
  · unfold MiscRel at *
    rcases hv with rfl | rfl | rfl | rfl
    · show (-1 = _ ∧ n 145 13 = n 0 11 ∧ n 145 6 = n 0 12 ∧ n 146 1 + 1 = n 80 0 + 1 ∧ n 146 2 = n 80 1 ∧ n 146 5 = n 80 2 ∧ n 146 6 = n 80 3 ∧ (0 ≤ n 80 0 + 1 ∧ n 80 0 + 1 ≤ k + 1) ∧ (0 ≤ n 80 1 ∧ n 80 1 ≤ k + 1) ∧ (0 ≤ n 80 2 ∧ n 80 2 ≤ k + 1) ∧ 0 ≤ n 80 3 ∧ n 80 3 ≤ k + 1)
      refine ⟨rfl, ?_⟩
      omega
    · show (-2 = _ ∧ n 145 13 = n 0 11 ∧ n 145 6 = n 0 12 ∧ n 146 1 = n 80 0 ∧ n 146 2 + 1 = n 80 1 + 1 ∧ n 146 5 = n 80 2 ∧ n 146 6 = n 80 3 ∧ (0 ≤ n 80 0 ∧ n 80 0 ≤ k + 1) ∧ (0 ≤ n 80 1 + 1 ∧ n 80 1 + 1 ≤ k + 1) ∧ (0 ≤ n 80 2 ∧ n 80 2 ≤ k + 1) ∧ 0 ≤ n 80 3 ∧ n 80 3 ≤ k + 1)
      refine ⟨rfl, ?_⟩
      omega
    · show (-5 = _ ∧ n 145 13 = n 0 11 ∧ n 145 6 = n 0 12 ∧ n 146 1 = n 80 0 ∧ n 146 2 = n 80 1 ∧ n 146 5 + 1 = n 80 2 + 1 ∧ n 146 6 = n 80 3 ∧ (0 ≤ n 80 0 ∧ n 80 0 ≤ k + 1) ∧ (0 ≤ n 80 1 ∧ n 80 1 ≤ k + 1) ∧ (0 ≤ n 80 2 + 1 ∧ n 80 2 + 1 ≤ k + 1) ∧ 0 ≤ n 80 3 ∧ n 80 3 ≤ k + 1)
      refine ⟨rfl, ?_⟩
      omega
    · show (-6 = _ ∧ n 145 13 = n 0 11 ∧ n 145 6 = n 0 12 ∧ n 146 1 = n 80 0 ∧ n 146 2 = n 80 1 ∧ n 146 5 = n 80 2 ∧ n 146 6 + 1 = n 80 3 + 1 ∧ (0 ≤ n 80 0 ∧ n 80 0 ≤ k + 1) ∧ (0 ≤ n 80 1 ∧ n 80 1 ≤ k + 1) ∧ (0 ≤ n 80 2 ∧ n 80 2 ≤ k + 1) ∧ 0 ≤ n 80 3 + 1 ∧ n 80 3 + 1 ≤ k + 1)
      refine ⟨rfl, ?_⟩
      omega
/-- a row more, on both sides -/
theorem TR.add {n n3 : NM} {t : Nat} {W R cnt base : Int} {r r3 g : Int → Int} (h : TR n t W R cnt base r) (hf : n t 3 < R) (hW : 1 ≤ W) (hW4 : W ≤ 4)
    (h1 : n3 t 1 = n t 1) (h2 : n3 t 2 = n t 2) (h3 : n3 t 3 = n t 3 + 1) (hc : n3 (t + 1) = wrow n (t + 1) (n t 3 * W) (min W 4) g (t + 1))
    (h0 : r3 cnt = r cnt + 1) (hin : ∀ j, 0 ≤ j → j < W → r3 (base + W * r cnt + j) = g j) (hout : ∀ j, base ≤ j → j < base + W * r cnt → r3 j = r j) : TR n3 t W R cnt base r3 := by
  obtain ⟨hT, hq, hv⟩ := h
  have hw : min W 4 = W := by omega
  rw [hw] at hc
  refine ⟨⟨by rw [h1]; exact hT.1, by rw [h2]; exact hT.2.1, by rw [h3]; have := hT.2.2.1; omega, by rw [h3]; omega⟩, by rw [h3, h0, hq], fun k k0 k1 => ?_⟩
  rw [h0, Int.add_mul, Int.one_mul] at k1
  rw [hc, hq]
  have hco : W * r cnt = r cnt * W := Int.mul_comm _ _
  by_cases q : k < r cnt * W
  · rw [wrow_out (Or.inl q), hout _ (by omega) (by omega)]
    exact hv k k0 q
  · rw [wrow_in (by omega) (by omega), ← hin _ (by omega) (by omega)]
    congr 1
    omega
