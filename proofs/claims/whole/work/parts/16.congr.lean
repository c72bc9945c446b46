theorem TW.congr {n n2 : NM} {t : Nat} {W R : Int} (ht : n2 t = n t) (h : TW n t W R) : TW n2 t W R := by
  unfold TW
  rw [ht]
  exact h
theorem TR.congr {n n2 : NM} {t : Nat} {W R cnt base : Int} {r r2 : Int → Int} (ht : n2 t = n t) (hc : n2 (t + 1) = n (t + 1)) (hW : 0 ≤ W) (h0 : r2 cnt = r cnt) (hr : ∀ i, base ≤ i → i < base + R * W → r2 i = r i) (h : TR n t W R cnt base r) : TR n2 t W R cnt base r2 := by
  obtain ⟨h1, h2, h3⟩ := h
  have hm : r cnt * W ≤ R * W := Int.mul_le_mul_of_nonneg_right (by have := h1.2.2.2; omega) hW
  refine ⟨h1.congr ht, by rw [ht, h0]; exact h2, fun k k0 k1 => ?_⟩
  rw [h0] at k1
  rw [hc, hr _ (by omega) (by omega)]
  exact h3 k k0 k1
theorem FR.congr {n n2 : NM} {t : Nat} {W R base : Int} {r r2 : Int → Int} (ht : n2 t = n t) (hc : n2 (t + 1) = n (t + 1)) (hr : ∀ i, base ≤ i → i < base + R * W → r2 i = r i) (h : FR n t W R base r) : FR n2 t W R base r2 := by
  obtain ⟨h1, h2, h3⟩ := h
  refine ⟨h1.congr ht, by rw [ht]; exact h2, fun k k0 k1 => ?_⟩
  rw [hc, hr _ (by omega) (by omega)]
  exact h3 k k0 k1
theorem rowL_congr {r r2 : Int → Int} (hr : ∀ i, 901 ≤ i → i < 1800 → r2 i = r i) : rowL r2 = rowL r := by
  funext i
  unfold rowL
  by_cases c : 901 ≤ i ∧ i < 1800
  · rw [if_pos c, if_pos c, hr i c.1 c.2]
  · rw [if_neg c, if_neg c]
theorem LawRel.congr {n n2 : NM} {a : Nat} {r r2 : Int → Int} (h1 : n2 (a + 15) = n (a + 15)) (h2 : n2 (a + 16) = n (a + 16)) (h3 : n2 (a + 17) = n (a + 17)) (h4 : n2 (a + 18) = n (a + 18)) (h5 : n2 (a + 19) = n (a + 19)) (hr : ∀ i, 901 ≤ i → i < 1800 → r2 i = r i) (h : LawRel n a r) : LawRel n2 a r2 := by
  unfold LawRel
  rw [h1, h2, h3, h5, rowL_congr hr, h4]
  exact ⟨h.1.congr h4, h.2⟩

theorem LakeRel.congr {n n2 : NM} {a : Nat} {r r2 : Int → Int} (hn : ∀ t : Nat, a < t → t < a + 32 → n2 t = n t) (hr : ∀ i : Int, 0 ≤ i → i < 1800 → r2 i = r i) (h : LakeRel n a r) : LakeRel n2 a r2 := by
  obtain ⟨p0, p1, p2, p3, p4, p5, p6, p7, p8, p9, p10, p11, p12, p13⟩ := h
  exact ⟨p0.congr (hn (a + 1) (by omega) (by omega)) (hn (a + 2) (by omega) (by omega)) (fun i i0 i1 => hr i (by omega) (by omega)),
    p1.congr (hn (a + 3) (by omega) (by omega)) (hn (a + 4) (by omega) (by omega)) (by decide) (hr 0 (by decide) (by decide)) (fun i i0 i1 => hr i (by omega) (by omega)),
    p2.congr (hn (a + 5) (by omega) (by omega)) (hn (a + 6) (by omega) (by omega)) (by decide) (hr 1 (by decide) (by decide)) (fun i i0 i1 => hr i (by omega) (by omega)),
    p3.congr (hn (a + 7) (by omega) (by omega)) (hn (a + 8) (by omega) (by omega)) (by decide) (hr 2 (by decide) (by decide)) (fun i i0 i1 => hr i (by omega) (by omega)),
    p4.congr (hn (a + 9) (by omega) (by omega)) (hn (a + 10) (by omega) (by omega)) (by decide) (hr 3 (by decide) (by decide)) (fun i i0 i1 => hr i (by omega) (by omega)),
    p5.congr (hn (a + 11) (by omega) (by omega)) (hn (a + 12) (by omega) (by omega)) (by decide) (hr 4 (by decide) (by decide)) (fun i i0 i1 => hr i (by omega) (by omega)),
    p6.congr (hn (a + 13) (by omega) (by omega)) (hn (a + 14) (by omega) (by omega)) (by decide) (hr 5 (by decide) (by decide)) (fun i i0 i1 => hr i (by omega) (by omega)),
    p7.congr (hn (a + 15) (by omega) (by omega)) (hn (a + 16) (by omega) (by omega)) (hn (a + 17) (by omega) (by omega)) (hn (a + 18) (by omega) (by omega)) (hn (a + 19) (by omega) (by omega)) (fun i i0 i1 => hr i (by omega) (by omega)),
    p8.congr (hn (a + 20) (by omega) (by omega)) (hn (a + 21) (by omega) (by omega)) (by decide) (hr 7 (by decide) (by decide)) (fun i i0 i1 => hr i (by omega) (by omega)),
    p9.congr (hn (a + 22) (by omega) (by omega)) (hn (a + 23) (by omega) (by omega)) (by decide) (hr 8 (by decide) (by decide)) (fun i i0 i1 => hr i (by omega) (by omega)),
    p10.congr (hn (a + 24) (by omega) (by omega)) (hn (a + 25) (by omega) (by omega)) (by decide) (hr 9 (by decide) (by decide)) (fun i i0 i1 => hr i (by omega) (by omega)),
    p11.congr (hn (a + 26) (by omega) (by omega)) (hn (a + 27) (by omega) (by omega)) (fun i i0 i1 => hr i (by omega) (by omega)),
    p12.congr (hn (a + 28) (by omega) (by omega)) (hn (a + 29) (by omega) (by omega)) (fun i i0 i1 => hr i (by omega) (by omega)),
    p13.congr (hn (a + 30) (by omega) (by omega)) (hn (a + 31) (by omega) (by omega)) (fun i i0 i1 => hr i (by omega) (by omega))⟩

theorem LakeRel.upd_days {n n2 : NM} {a : Nat} {r r2 : Int → Int} (hn : ∀ t : Nat, a < t → t < a + 32 → t ≠ a + 1 → t ≠ a + 2 → n2 t = n t) (hr : ∀ i : Int, 0 ≤ i → i < 1800 → ¬ (20 ≤ i ∧ i < 200) → r2 i = r i) (h : LakeRel n a r) (hnew : FR n2 (a + 1) 3 60 20 r2) : LakeRel n2 a r2 := by
  obtain ⟨p0, p1, p2, p3, p4, p5, p6, p7, p8, p9, p10, p11, p12, p13⟩ := h
  exact ⟨hnew,
    p1.congr (hn (a + 3) (by omega) (by omega) (by omega) (by omega)) (hn (a + 4) (by omega) (by omega) (by omega) (by omega)) (by decide) (hr 0 (by decide) (by decide) (by decide)) (fun i i0 i1 => hr i (by omega) (by omega) (by omega)),
    p2.congr (hn (a + 5) (by omega) (by omega) (by omega) (by omega)) (hn (a + 6) (by omega) (by omega) (by omega) (by omega)) (by decide) (hr 1 (by decide) (by decide) (by decide)) (fun i i0 i1 => hr i (by omega) (by omega) (by omega)),
    p3.congr (hn (a + 7) (by omega) (by omega) (by omega) (by omega)) (hn (a + 8) (by omega) (by omega) (by omega) (by omega)) (by decide) (hr 2 (by decide) (by decide) (by decide)) (fun i i0 i1 => hr i (by omega) (by omega) (by omega)),
    p4.congr (hn (a + 9) (by omega) (by omega) (by omega) (by omega)) (hn (a + 10) (by omega) (by omega) (by omega) (by omega)) (by decide) (hr 3 (by decide) (by decide) (by decide)) (fun i i0 i1 => hr i (by omega) (by omega) (by omega)),
    p5.congr (hn (a + 11) (by omega) (by omega) (by omega) (by omega)) (hn (a + 12) (by omega) (by omega) (by omega) (by omega)) (by decide) (hr 4 (by decide) (by decide) (by decide)) (fun i i0 i1 => hr i (by omega) (by omega) (by omega)),
    p6.congr (hn (a + 13) (by omega) (by omega) (by omega) (by omega)) (hn (a + 14) (by omega) (by omega) (by omega) (by omega)) (by decide) (hr 5 (by decide) (by decide) (by decide)) (fun i i0 i1 => hr i (by omega) (by omega) (by omega)),
    p7.congr (hn (a + 15) (by omega) (by omega) (by omega) (by omega)) (hn (a + 16) (by omega) (by omega) (by omega) (by omega)) (hn (a + 17) (by omega) (by omega) (by omega) (by omega)) (hn (a + 18) (by omega) (by omega) (by omega) (by omega)) (hn (a + 19) (by omega) (by omega) (by omega) (by omega)) (fun i i0 i1 => hr i (by omega) (by omega) (by omega)),
    p8.congr (hn (a + 20) (by omega) (by omega) (by omega) (by omega)) (hn (a + 21) (by omega) (by omega) (by omega) (by omega)) (by decide) (hr 7 (by decide) (by decide) (by decide)) (fun i i0 i1 => hr i (by omega) (by omega) (by omega)),
    p9.congr (hn (a + 22) (by omega) (by omega) (by omega) (by omega)) (hn (a + 23) (by omega) (by omega) (by omega) (by omega)) (by decide) (hr 8 (by decide) (by decide) (by decide)) (fun i i0 i1 => hr i (by omega) (by omega) (by omega)),
    p10.congr (hn (a + 24) (by omega) (by omega) (by omega) (by omega)) (hn (a + 25) (by omega) (by omega) (by omega) (by omega)) (by decide) (hr 9 (by decide) (by decide) (by decide)) (fun i i0 i1 => hr i (by omega) (by omega) (by omega)),
    p11.congr (hn (a + 26) (by omega) (by omega) (by omega) (by omega)) (hn (a + 27) (by omega) (by omega) (by omega) (by omega)) (fun i i0 i1 => hr i (by omega) (by omega) (by omega)),
    p12.congr (hn (a + 28) (by omega) (by omega) (by omega) (by omega)) (hn (a + 29) (by omega) (by omega) (by omega) (by omega)) (fun i i0 i1 => hr i (by omega) (by omega) (by omega)),
    p13.congr (hn (a + 30) (by omega) (by omega) (by omega) (by omega)) (hn (a + 31) (by omega) (by omega) (by omega) (by omega)) (fun i i0 i1 => hr i (by omega) (by omega) (by omega))⟩

theorem LakeRel.upd_boats {n n2 : NM} {a : Nat} {r r2 : Int → Int} (hn : ∀ t : Nat, a < t → t < a + 32 → t ≠ a + 3 → t ≠ a + 4 → n2 t = n t) (hr : ∀ i : Int, 0 ≤ i → i < 1800 → ¬ (i = 0 ∨ (200 ≤ i ∧ i < 248)) → r2 i = r i) (h : LakeRel n a r) (hnew : TR n2 (a + 3) 4 12 0 200 r2) : LakeRel n2 a r2 := by
  obtain ⟨p0, p1, p2, p3, p4, p5, p6, p7, p8, p9, p10, p11, p12, p13⟩ := h
  exact ⟨p0.congr (hn (a + 1) (by omega) (by omega) (by omega) (by omega)) (hn (a + 2) (by omega) (by omega) (by omega) (by omega)) (fun i i0 i1 => hr i (by omega) (by omega) (by omega)),
    hnew,
    p2.congr (hn (a + 5) (by omega) (by omega) (by omega) (by omega)) (hn (a + 6) (by omega) (by omega) (by omega) (by omega)) (by decide) (hr 1 (by decide) (by decide) (by decide)) (fun i i0 i1 => hr i (by omega) (by omega) (by omega)),
    p3.congr (hn (a + 7) (by omega) (by omega) (by omega) (by omega)) (hn (a + 8) (by omega) (by omega) (by omega) (by omega)) (by decide) (hr 2 (by decide) (by decide) (by decide)) (fun i i0 i1 => hr i (by omega) (by omega) (by omega)),
    p4.congr (hn (a + 9) (by omega) (by omega) (by omega) (by omega)) (hn (a + 10) (by omega) (by omega) (by omega) (by omega)) (by decide) (hr 3 (by decide) (by decide) (by decide)) (fun i i0 i1 => hr i (by omega) (by omega) (by omega)),
    p5.congr (hn (a + 11) (by omega) (by omega) (by omega) (by omega)) (hn (a + 12) (by omega) (by omega) (by omega) (by omega)) (by decide) (hr 4 (by decide) (by decide) (by decide)) (fun i i0 i1 => hr i (by omega) (by omega) (by omega)),
    p6.congr (hn (a + 13) (by omega) (by omega) (by omega) (by omega)) (hn (a + 14) (by omega) (by omega) (by omega) (by omega)) (by decide) (hr 5 (by decide) (by decide) (by decide)) (fun i i0 i1 => hr i (by omega) (by omega) (by omega)),
    p7.congr (hn (a + 15) (by omega) (by omega) (by omega) (by omega)) (hn (a + 16) (by omega) (by omega) (by omega) (by omega)) (hn (a + 17) (by omega) (by omega) (by omega) (by omega)) (hn (a + 18) (by omega) (by omega) (by omega) (by omega)) (hn (a + 19) (by omega) (by omega) (by omega) (by omega)) (fun i i0 i1 => hr i (by omega) (by omega) (by omega)),
    p8.congr (hn (a + 20) (by omega) (by omega) (by omega) (by omega)) (hn (a + 21) (by omega) (by omega) (by omega) (by omega)) (by decide) (hr 7 (by decide) (by decide) (by decide)) (fun i i0 i1 => hr i (by omega) (by omega) (by omega)),
    p9.congr (hn (a + 22) (by omega) (by omega) (by omega) (by omega)) (hn (a + 23) (by omega) (by omega) (by omega) (by omega)) (by decide) (hr 8 (by decide) (by decide) (by decide)) (fun i i0 i1 => hr i (by omega) (by omega) (by omega)),
    p10.congr (hn (a + 24) (by omega) (by omega) (by omega) (by omega)) (hn (a + 25) (by omega) (by omega) (by omega) (by omega)) (by decide) (hr 9 (by decide) (by decide) (by decide)) (fun i i0 i1 => hr i (by omega) (by omega) (by omega)),
    p11.congr (hn (a + 26) (by omega) (by omega) (by omega) (by omega)) (hn (a + 27) (by omega) (by omega) (by omega) (by omega)) (fun i i0 i1 => hr i (by omega) (by omega) (by omega)),
    p12.congr (hn (a + 28) (by omega) (by omega) (by omega) (by omega)) (hn (a + 29) (by omega) (by omega) (by omega) (by omega)) (fun i i0 i1 => hr i (by omega) (by omega) (by omega)),
    p13.congr (hn (a + 30) (by omega) (by omega) (by omega) (by omega)) (hn (a + 31) (by omega) (by omega) (by omega) (by omega)) (fun i i0 i1 => hr i (by omega) (by omega) (by omega))⟩

theorem LakeRel.upd_beasts {n n2 : NM} {a : Nat} {r r2 : Int → Int} (hn : ∀ t : Nat, a < t → t < a + 32 → t ≠ a + 5 → t ≠ a + 6 → n2 t = n t) (hr : ∀ i : Int, 0 ≤ i → i < 1800 → ¬ (i = 1 ∨ (250 ≤ i ∧ i < 298)) → r2 i = r i) (h : LakeRel n a r) (hnew : TR n2 (a + 5) 4 12 1 250 r2) : LakeRel n2 a r2 := by
  obtain ⟨p0, p1, p2, p3, p4, p5, p6, p7, p8, p9, p10, p11, p12, p13⟩ := h
  exact ⟨p0.congr (hn (a + 1) (by omega) (by omega) (by omega) (by omega)) (hn (a + 2) (by omega) (by omega) (by omega) (by omega)) (fun i i0 i1 => hr i (by omega) (by omega) (by omega)),
    p1.congr (hn (a + 3) (by omega) (by omega) (by omega) (by omega)) (hn (a + 4) (by omega) (by omega) (by omega) (by omega)) (by decide) (hr 0 (by decide) (by decide) (by decide)) (fun i i0 i1 => hr i (by omega) (by omega) (by omega)),
    hnew,
    p3.congr (hn (a + 7) (by omega) (by omega) (by omega) (by omega)) (hn (a + 8) (by omega) (by omega) (by omega) (by omega)) (by decide) (hr 2 (by decide) (by decide) (by decide)) (fun i i0 i1 => hr i (by omega) (by omega) (by omega)),
    p4.congr (hn (a + 9) (by omega) (by omega) (by omega) (by omega)) (hn (a + 10) (by omega) (by omega) (by omega) (by omega)) (by decide) (hr 3 (by decide) (by decide) (by decide)) (fun i i0 i1 => hr i (by omega) (by omega) (by omega)),
    p5.congr (hn (a + 11) (by omega) (by omega) (by omega) (by omega)) (hn (a + 12) (by omega) (by omega) (by omega) (by omega)) (by decide) (hr 4 (by decide) (by decide) (by decide)) (fun i i0 i1 => hr i (by omega) (by omega) (by omega)),
    p6.congr (hn (a + 13) (by omega) (by omega) (by omega) (by omega)) (hn (a + 14) (by omega) (by omega) (by omega) (by omega)) (by decide) (hr 5 (by decide) (by decide) (by decide)) (fun i i0 i1 => hr i (by omega) (by omega) (by omega)),
    p7.congr (hn (a + 15) (by omega) (by omega) (by omega) (by omega)) (hn (a + 16) (by omega) (by omega) (by omega) (by omega)) (hn (a + 17) (by omega) (by omega) (by omega) (by omega)) (hn (a + 18) (by omega) (by omega) (by omega) (by omega)) (hn (a + 19) (by omega) (by omega) (by omega) (by omega)) (fun i i0 i1 => hr i (by omega) (by omega) (by omega)),
    p8.congr (hn (a + 20) (by omega) (by omega) (by omega) (by omega)) (hn (a + 21) (by omega) (by omega) (by omega) (by omega)) (by decide) (hr 7 (by decide) (by decide) (by decide)) (fun i i0 i1 => hr i (by omega) (by omega) (by omega)),
    p9.congr (hn (a + 22) (by omega) (by omega) (by omega) (by omega)) (hn (a + 23) (by omega) (by omega) (by omega) (by omega)) (by decide) (hr 8 (by decide) (by decide) (by decide)) (fun i i0 i1 => hr i (by omega) (by omega) (by omega)),
    p10.congr (hn (a + 24) (by omega) (by omega) (by omega) (by omega)) (hn (a + 25) (by omega) (by omega) (by omega) (by omega)) (by decide) (hr 9 (by decide) (by decide) (by decide)) (fun i i0 i1 => hr i (by omega) (by omega) (by omega)),
    p11.congr (hn (a + 26) (by omega) (by omega) (by omega) (by omega)) (hn (a + 27) (by omega) (by omega) (by omega) (by omega)) (fun i i0 i1 => hr i (by omega) (by omega) (by omega)),
    p12.congr (hn (a + 28) (by omega) (by omega) (by omega) (by omega)) (hn (a + 29) (by omega) (by omega) (by omega) (by omega)) (fun i i0 i1 => hr i (by omega) (by omega) (by omega)),
    p13.congr (hn (a + 30) (by omega) (by omega) (by omega) (by omega)) (hn (a + 31) (by omega) (by omega) (by omega) (by omega)) (fun i i0 i1 => hr i (by omega) (by omega) (by omega))⟩

theorem LakeRel.upd_logs {n n2 : NM} {a : Nat} {r r2 : Int → Int} (hn : ∀ t : Nat, a < t → t < a + 32 → t ≠ a + 7 → t ≠ a + 8 → n2 t = n t) (hr : ∀ i : Int, 0 ≤ i → i < 1800 → ¬ (i = 2 ∨ (300 ≤ i ∧ i < 324)) → r2 i = r i) (h : LakeRel n a r) (hnew : TR n2 (a + 7) 2 12 2 300 r2) : LakeRel n2 a r2 := by
  obtain ⟨p0, p1, p2, p3, p4, p5, p6, p7, p8, p9, p10, p11, p12, p13⟩ := h
  exact ⟨p0.congr (hn (a + 1) (by omega) (by omega) (by omega) (by omega)) (hn (a + 2) (by omega) (by omega) (by omega) (by omega)) (fun i i0 i1 => hr i (by omega) (by omega) (by omega)),
    p1.congr (hn (a + 3) (by omega) (by omega) (by omega) (by omega)) (hn (a + 4) (by omega) (by omega) (by omega) (by omega)) (by decide) (hr 0 (by decide) (by decide) (by decide)) (fun i i0 i1 => hr i (by omega) (by omega) (by omega)),
    p2.congr (hn (a + 5) (by omega) (by omega) (by omega) (by omega)) (hn (a + 6) (by omega) (by omega) (by omega) (by omega)) (by decide) (hr 1 (by decide) (by decide) (by decide)) (fun i i0 i1 => hr i (by omega) (by omega) (by omega)),
    hnew,
    p4.congr (hn (a + 9) (by omega) (by omega) (by omega) (by omega)) (hn (a + 10) (by omega) (by omega) (by omega) (by omega)) (by decide) (hr 3 (by decide) (by decide) (by decide)) (fun i i0 i1 => hr i (by omega) (by omega) (by omega)),
    p5.congr (hn (a + 11) (by omega) (by omega) (by omega) (by omega)) (hn (a + 12) (by omega) (by omega) (by omega) (by omega)) (by decide) (hr 4 (by decide) (by decide) (by decide)) (fun i i0 i1 => hr i (by omega) (by omega) (by omega)),
    p6.congr (hn (a + 13) (by omega) (by omega) (by omega) (by omega)) (hn (a + 14) (by omega) (by omega) (by omega) (by omega)) (by decide) (hr 5 (by decide) (by decide) (by decide)) (fun i i0 i1 => hr i (by omega) (by omega) (by omega)),
    p7.congr (hn (a + 15) (by omega) (by omega) (by omega) (by omega)) (hn (a + 16) (by omega) (by omega) (by omega) (by omega)) (hn (a + 17) (by omega) (by omega) (by omega) (by omega)) (hn (a + 18) (by omega) (by omega) (by omega) (by omega)) (hn (a + 19) (by omega) (by omega) (by omega) (by omega)) (fun i i0 i1 => hr i (by omega) (by omega) (by omega)),
    p8.congr (hn (a + 20) (by omega) (by omega) (by omega) (by omega)) (hn (a + 21) (by omega) (by omega) (by omega) (by omega)) (by decide) (hr 7 (by decide) (by decide) (by decide)) (fun i i0 i1 => hr i (by omega) (by omega) (by omega)),
    p9.congr (hn (a + 22) (by omega) (by omega) (by omega) (by omega)) (hn (a + 23) (by omega) (by omega) (by omega) (by omega)) (by decide) (hr 8 (by decide) (by decide) (by decide)) (fun i i0 i1 => hr i (by omega) (by omega) (by omega)),
    p10.congr (hn (a + 24) (by omega) (by omega) (by omega) (by omega)) (hn (a + 25) (by omega) (by omega) (by omega) (by omega)) (by decide) (hr 9 (by decide) (by decide) (by decide)) (fun i i0 i1 => hr i (by omega) (by omega) (by omega)),
    p11.congr (hn (a + 26) (by omega) (by omega) (by omega) (by omega)) (hn (a + 27) (by omega) (by omega) (by omega) (by omega)) (fun i i0 i1 => hr i (by omega) (by omega) (by omega)),
    p12.congr (hn (a + 28) (by omega) (by omega) (by omega) (by omega)) (hn (a + 29) (by omega) (by omega) (by omega) (by omega)) (fun i i0 i1 => hr i (by omega) (by omega) (by omega)),
    p13.congr (hn (a + 30) (by omega) (by omega) (by omega) (by omega)) (hn (a + 31) (by omega) (by omega) (by omega) (by omega)) (fun i i0 i1 => hr i (by omega) (by omega) (by omega))⟩

theorem LakeRel.upd_watchers {n n2 : NM} {a : Nat} {r r2 : Int → Int} (hn : ∀ t : Nat, a < t → t < a + 32 → t ≠ a + 9 → t ≠ a + 10 → n2 t = n t) (hr : ∀ i : Int, 0 ≤ i → i < 1800 → ¬ (i = 3 ∨ (330 ≤ i ∧ i < 342)) → r2 i = r i) (h : LakeRel n a r) (hnew : TR n2 (a + 9) 1 12 3 330 r2) : LakeRel n2 a r2 := by
  obtain ⟨p0, p1, p2, p3, p4, p5, p6, p7, p8, p9, p10, p11, p12, p13⟩ := h
  exact ⟨p0.congr (hn (a + 1) (by omega) (by omega) (by omega) (by omega)) (hn (a + 2) (by omega) (by omega) (by omega) (by omega)) (fun i i0 i1 => hr i (by omega) (by omega) (by omega)),
    p1.congr (hn (a + 3) (by omega) (by omega) (by omega) (by omega)) (hn (a + 4) (by omega) (by omega) (by omega) (by omega)) (by decide) (hr 0 (by decide) (by decide) (by decide)) (fun i i0 i1 => hr i (by omega) (by omega) (by omega)),
    p2.congr (hn (a + 5) (by omega) (by omega) (by omega) (by omega)) (hn (a + 6) (by omega) (by omega) (by omega) (by omega)) (by decide) (hr 1 (by decide) (by decide) (by decide)) (fun i i0 i1 => hr i (by omega) (by omega) (by omega)),
    p3.congr (hn (a + 7) (by omega) (by omega) (by omega) (by omega)) (hn (a + 8) (by omega) (by omega) (by omega) (by omega)) (by decide) (hr 2 (by decide) (by decide) (by decide)) (fun i i0 i1 => hr i (by omega) (by omega) (by omega)),
    hnew,
    p5.congr (hn (a + 11) (by omega) (by omega) (by omega) (by omega)) (hn (a + 12) (by omega) (by omega) (by omega) (by omega)) (by decide) (hr 4 (by decide) (by decide) (by decide)) (fun i i0 i1 => hr i (by omega) (by omega) (by omega)),
    p6.congr (hn (a + 13) (by omega) (by omega) (by omega) (by omega)) (hn (a + 14) (by omega) (by omega) (by omega) (by omega)) (by decide) (hr 5 (by decide) (by decide) (by decide)) (fun i i0 i1 => hr i (by omega) (by omega) (by omega)),
    p7.congr (hn (a + 15) (by omega) (by omega) (by omega) (by omega)) (hn (a + 16) (by omega) (by omega) (by omega) (by omega)) (hn (a + 17) (by omega) (by omega) (by omega) (by omega)) (hn (a + 18) (by omega) (by omega) (by omega) (by omega)) (hn (a + 19) (by omega) (by omega) (by omega) (by omega)) (fun i i0 i1 => hr i (by omega) (by omega) (by omega)),
    p8.congr (hn (a + 20) (by omega) (by omega) (by omega) (by omega)) (hn (a + 21) (by omega) (by omega) (by omega) (by omega)) (by decide) (hr 7 (by decide) (by decide) (by decide)) (fun i i0 i1 => hr i (by omega) (by omega) (by omega)),
    p9.congr (hn (a + 22) (by omega) (by omega) (by omega) (by omega)) (hn (a + 23) (by omega) (by omega) (by omega) (by omega)) (by decide) (hr 8 (by decide) (by decide) (by decide)) (fun i i0 i1 => hr i (by omega) (by omega) (by omega)),
    p10.congr (hn (a + 24) (by omega) (by omega) (by omega) (by omega)) (hn (a + 25) (by omega) (by omega) (by omega) (by omega)) (by decide) (hr 9 (by decide) (by decide) (by decide)) (fun i i0 i1 => hr i (by omega) (by omega) (by omega)),
    p11.congr (hn (a + 26) (by omega) (by omega) (by omega) (by omega)) (hn (a + 27) (by omega) (by omega) (by omega) (by omega)) (fun i i0 i1 => hr i (by omega) (by omega) (by omega)),
    p12.congr (hn (a + 28) (by omega) (by omega) (by omega) (by omega)) (hn (a + 29) (by omega) (by omega) (by omega) (by omega)) (fun i i0 i1 => hr i (by omega) (by omega) (by omega)),
    p13.congr (hn (a + 30) (by omega) (by omega) (by omega) (by omega)) (hn (a + 31) (by omega) (by omega) (by omega) (by omega)) (fun i i0 i1 => hr i (by omega) (by omega) (by omega))⟩

theorem LakeRel.upd_poles {n n2 : NM} {a : Nat} {r r2 : Int → Int} (hn : ∀ t : Nat, a < t → t < a + 32 → t ≠ a + 11 → t ≠ a + 12 → n2 t = n t) (hr : ∀ i : Int, 0 ≤ i → i < 1800 → ¬ (i = 4 ∨ (350 ≤ i ∧ i < 410)) → r2 i = r i) (h : LakeRel n a r) (hnew : TR n2 (a + 11) 3 20 4 350 r2) : LakeRel n2 a r2 := by
  obtain ⟨p0, p1, p2, p3, p4, p5, p6, p7, p8, p9, p10, p11, p12, p13⟩ := h
  exact ⟨p0.congr (hn (a + 1) (by omega) (by omega) (by omega) (by omega)) (hn (a + 2) (by omega) (by omega) (by omega) (by omega)) (fun i i0 i1 => hr i (by omega) (by omega) (by omega)),
    p1.congr (hn (a + 3) (by omega) (by omega) (by omega) (by omega)) (hn (a + 4) (by omega) (by omega) (by omega) (by omega)) (by decide) (hr 0 (by decide) (by decide) (by decide)) (fun i i0 i1 => hr i (by omega) (by omega) (by omega)),
    p2.congr (hn (a + 5) (by omega) (by omega) (by omega) (by omega)) (hn (a + 6) (by omega) (by omega) (by omega) (by omega)) (by decide) (hr 1 (by decide) (by decide) (by decide)) (fun i i0 i1 => hr i (by omega) (by omega) (by omega)),
    p3.congr (hn (a + 7) (by omega) (by omega) (by omega) (by omega)) (hn (a + 8) (by omega) (by omega) (by omega) (by omega)) (by decide) (hr 2 (by decide) (by decide) (by decide)) (fun i i0 i1 => hr i (by omega) (by omega) (by omega)),
    p4.congr (hn (a + 9) (by omega) (by omega) (by omega) (by omega)) (hn (a + 10) (by omega) (by omega) (by omega) (by omega)) (by decide) (hr 3 (by decide) (by decide) (by decide)) (fun i i0 i1 => hr i (by omega) (by omega) (by omega)),
    hnew,
    p6.congr (hn (a + 13) (by omega) (by omega) (by omega) (by omega)) (hn (a + 14) (by omega) (by omega) (by omega) (by omega)) (by decide) (hr 5 (by decide) (by decide) (by decide)) (fun i i0 i1 => hr i (by omega) (by omega) (by omega)),
    p7.congr (hn (a + 15) (by omega) (by omega) (by omega) (by omega)) (hn (a + 16) (by omega) (by omega) (by omega) (by omega)) (hn (a + 17) (by omega) (by omega) (by omega) (by omega)) (hn (a + 18) (by omega) (by omega) (by omega) (by omega)) (hn (a + 19) (by omega) (by omega) (by omega) (by omega)) (fun i i0 i1 => hr i (by omega) (by omega) (by omega)),
    p8.congr (hn (a + 20) (by omega) (by omega) (by omega) (by omega)) (hn (a + 21) (by omega) (by omega) (by omega) (by omega)) (by decide) (hr 7 (by decide) (by decide) (by decide)) (fun i i0 i1 => hr i (by omega) (by omega) (by omega)),
    p9.congr (hn (a + 22) (by omega) (by omega) (by omega) (by omega)) (hn (a + 23) (by omega) (by omega) (by omega) (by omega)) (by decide) (hr 8 (by decide) (by decide) (by decide)) (fun i i0 i1 => hr i (by omega) (by omega) (by omega)),
    p10.congr (hn (a + 24) (by omega) (by omega) (by omega) (by omega)) (hn (a + 25) (by omega) (by omega) (by omega) (by omega)) (by decide) (hr 9 (by decide) (by decide) (by decide)) (fun i i0 i1 => hr i (by omega) (by omega) (by omega)),
    p11.congr (hn (a + 26) (by omega) (by omega) (by omega) (by omega)) (hn (a + 27) (by omega) (by omega) (by omega) (by omega)) (fun i i0 i1 => hr i (by omega) (by omega) (by omega)),
    p12.congr (hn (a + 28) (by omega) (by omega) (by omega) (by omega)) (hn (a + 29) (by omega) (by omega) (by omega) (by omega)) (fun i i0 i1 => hr i (by omega) (by omega) (by omega)),
    p13.congr (hn (a + 30) (by omega) (by omega) (by omega) (by omega)) (hn (a + 31) (by omega) (by omega) (by omega) (by omega)) (fun i i0 i1 => hr i (by omega) (by omega) (by omega))⟩

theorem LakeRel.upd_sights {n n2 : NM} {a : Nat} {r r2 : Int → Int} (hn : ∀ t : Nat, a < t → t < a + 32 → t ≠ a + 13 → t ≠ a + 14 → n2 t = n t) (hr : ∀ i : Int, 0 ≤ i → i < 1800 → ¬ (i = 5 ∨ (420 ≤ i ∧ i < 700)) → r2 i = r i) (h : LakeRel n a r) (hnew : TR n2 (a + 13) 7 40 5 420 r2) : LakeRel n2 a r2 := by
  obtain ⟨p0, p1, p2, p3, p4, p5, p6, p7, p8, p9, p10, p11, p12, p13⟩ := h
  exact ⟨p0.congr (hn (a + 1) (by omega) (by omega) (by omega) (by omega)) (hn (a + 2) (by omega) (by omega) (by omega) (by omega)) (fun i i0 i1 => hr i (by omega) (by omega) (by omega)),
    p1.congr (hn (a + 3) (by omega) (by omega) (by omega) (by omega)) (hn (a + 4) (by omega) (by omega) (by omega) (by omega)) (by decide) (hr 0 (by decide) (by decide) (by decide)) (fun i i0 i1 => hr i (by omega) (by omega) (by omega)),
    p2.congr (hn (a + 5) (by omega) (by omega) (by omega) (by omega)) (hn (a + 6) (by omega) (by omega) (by omega) (by omega)) (by decide) (hr 1 (by decide) (by decide) (by decide)) (fun i i0 i1 => hr i (by omega) (by omega) (by omega)),
    p3.congr (hn (a + 7) (by omega) (by omega) (by omega) (by omega)) (hn (a + 8) (by omega) (by omega) (by omega) (by omega)) (by decide) (hr 2 (by decide) (by decide) (by decide)) (fun i i0 i1 => hr i (by omega) (by omega) (by omega)),
    p4.congr (hn (a + 9) (by omega) (by omega) (by omega) (by omega)) (hn (a + 10) (by omega) (by omega) (by omega) (by omega)) (by decide) (hr 3 (by decide) (by decide) (by decide)) (fun i i0 i1 => hr i (by omega) (by omega) (by omega)),
    p5.congr (hn (a + 11) (by omega) (by omega) (by omega) (by omega)) (hn (a + 12) (by omega) (by omega) (by omega) (by omega)) (by decide) (hr 4 (by decide) (by decide) (by decide)) (fun i i0 i1 => hr i (by omega) (by omega) (by omega)),
    hnew,
    p7.congr (hn (a + 15) (by omega) (by omega) (by omega) (by omega)) (hn (a + 16) (by omega) (by omega) (by omega) (by omega)) (hn (a + 17) (by omega) (by omega) (by omega) (by omega)) (hn (a + 18) (by omega) (by omega) (by omega) (by omega)) (hn (a + 19) (by omega) (by omega) (by omega) (by omega)) (fun i i0 i1 => hr i (by omega) (by omega) (by omega)),
    p8.congr (hn (a + 20) (by omega) (by omega) (by omega) (by omega)) (hn (a + 21) (by omega) (by omega) (by omega) (by omega)) (by decide) (hr 7 (by decide) (by decide) (by decide)) (fun i i0 i1 => hr i (by omega) (by omega) (by omega)),
    p9.congr (hn (a + 22) (by omega) (by omega) (by omega) (by omega)) (hn (a + 23) (by omega) (by omega) (by omega) (by omega)) (by decide) (hr 8 (by decide) (by decide) (by decide)) (fun i i0 i1 => hr i (by omega) (by omega) (by omega)),
    p10.congr (hn (a + 24) (by omega) (by omega) (by omega) (by omega)) (hn (a + 25) (by omega) (by omega) (by omega) (by omega)) (by decide) (hr 9 (by decide) (by decide) (by decide)) (fun i i0 i1 => hr i (by omega) (by omega) (by omega)),
    p11.congr (hn (a + 26) (by omega) (by omega) (by omega) (by omega)) (hn (a + 27) (by omega) (by omega) (by omega) (by omega)) (fun i i0 i1 => hr i (by omega) (by omega) (by omega)),
    p12.congr (hn (a + 28) (by omega) (by omega) (by omega) (by omega)) (hn (a + 29) (by omega) (by omega) (by omega) (by omega)) (fun i i0 i1 => hr i (by omega) (by omega) (by omega)),
    p13.congr (hn (a + 30) (by omega) (by omega) (by omega) (by omega)) (hn (a + 31) (by omega) (by omega) (by omega) (by omega)) (fun i i0 i1 => hr i (by omega) (by omega) (by omega))⟩

theorem LakeRel.upd_law {n n2 : NM} {a : Nat} {r r2 : Int → Int} (hn : ∀ t : Nat, a < t → t < a + 32 → t ≠ a + 15 → t ≠ a + 16 → t ≠ a + 17 → t ≠ a + 18 → t ≠ a + 19 → n2 t = n t) (hr : ∀ i : Int, 0 ≤ i → i < 1800 → ¬ 901 ≤ i → r2 i = r i) (h : LakeRel n a r) (hnew : LawRel n2 a r2) : LakeRel n2 a r2 := by
  obtain ⟨p0, p1, p2, p3, p4, p5, p6, p7, p8, p9, p10, p11, p12, p13⟩ := h
  exact ⟨p0.congr (hn (a + 1) (by omega) (by omega) (by omega) (by omega) (by omega) (by omega) (by omega)) (hn (a + 2) (by omega) (by omega) (by omega) (by omega) (by omega) (by omega) (by omega)) (fun i i0 i1 => hr i (by omega) (by omega) (by omega)),
    p1.congr (hn (a + 3) (by omega) (by omega) (by omega) (by omega) (by omega) (by omega) (by omega)) (hn (a + 4) (by omega) (by omega) (by omega) (by omega) (by omega) (by omega) (by omega)) (by decide) (hr 0 (by decide) (by decide) (by decide)) (fun i i0 i1 => hr i (by omega) (by omega) (by omega)),
    p2.congr (hn (a + 5) (by omega) (by omega) (by omega) (by omega) (by omega) (by omega) (by omega)) (hn (a + 6) (by omega) (by omega) (by omega) (by omega) (by omega) (by omega) (by omega)) (by decide) (hr 1 (by decide) (by decide) (by decide)) (fun i i0 i1 => hr i (by omega) (by omega) (by omega)),
    p3.congr (hn (a + 7) (by omega) (by omega) (by omega) (by omega) (by omega) (by omega) (by omega)) (hn (a + 8) (by omega) (by omega) (by omega) (by omega) (by omega) (by omega) (by omega)) (by decide) (hr 2 (by decide) (by decide) (by decide)) (fun i i0 i1 => hr i (by omega) (by omega) (by omega)),
    p4.congr (hn (a + 9) (by omega) (by omega) (by omega) (by omega) (by omega) (by omega) (by omega)) (hn (a + 10) (by omega) (by omega) (by omega) (by omega) (by omega) (by omega) (by omega)) (by decide) (hr 3 (by decide) (by decide) (by decide)) (fun i i0 i1 => hr i (by omega) (by omega) (by omega)),
    p5.congr (hn (a + 11) (by omega) (by omega) (by omega) (by omega) (by omega) (by omega) (by omega)) (hn (a + 12) (by omega) (by omega) (by omega) (by omega) (by omega) (by omega) (by omega)) (by decide) (hr 4 (by decide) (by decide) (by decide)) (fun i i0 i1 => hr i (by omega) (by omega) (by omega)),
    p6.congr (hn (a + 13) (by omega) (by omega) (by omega) (by omega) (by omega) (by omega) (by omega)) (hn (a + 14) (by omega) (by omega) (by omega) (by omega) (by omega) (by omega) (by omega)) (by decide) (hr 5 (by decide) (by decide) (by decide)) (fun i i0 i1 => hr i (by omega) (by omega) (by omega)),
    hnew,
    p8.congr (hn (a + 20) (by omega) (by omega) (by omega) (by omega) (by omega) (by omega) (by omega)) (hn (a + 21) (by omega) (by omega) (by omega) (by omega) (by omega) (by omega) (by omega)) (by decide) (hr 7 (by decide) (by decide) (by decide)) (fun i i0 i1 => hr i (by omega) (by omega) (by omega)),
    p9.congr (hn (a + 22) (by omega) (by omega) (by omega) (by omega) (by omega) (by omega) (by omega)) (hn (a + 23) (by omega) (by omega) (by omega) (by omega) (by omega) (by omega) (by omega)) (by decide) (hr 8 (by decide) (by decide) (by decide)) (fun i i0 i1 => hr i (by omega) (by omega) (by omega)),
    p10.congr (hn (a + 24) (by omega) (by omega) (by omega) (by omega) (by omega) (by omega) (by omega)) (hn (a + 25) (by omega) (by omega) (by omega) (by omega) (by omega) (by omega) (by omega)) (by decide) (hr 9 (by decide) (by decide) (by decide)) (fun i i0 i1 => hr i (by omega) (by omega) (by omega)),
    p11.congr (hn (a + 26) (by omega) (by omega) (by omega) (by omega) (by omega) (by omega) (by omega)) (hn (a + 27) (by omega) (by omega) (by omega) (by omega) (by omega) (by omega) (by omega)) (fun i i0 i1 => hr i (by omega) (by omega) (by omega)),
    p12.congr (hn (a + 28) (by omega) (by omega) (by omega) (by omega) (by omega) (by omega) (by omega)) (hn (a + 29) (by omega) (by omega) (by omega) (by omega) (by omega) (by omega) (by omega)) (fun i i0 i1 => hr i (by omega) (by omega) (by omega)),
    p13.congr (hn (a + 30) (by omega) (by omega) (by omega) (by omega) (by omega) (by omega) (by omega)) (hn (a + 31) (by omega) (by omega) (by omega) (by omega) (by omega) (by omega) (by omega)) (fun i i0 i1 => hr i (by omega) (by omega) (by omega))⟩

theorem LakeRel.upd_stories {n n2 : NM} {a : Nat} {r r2 : Int → Int} (hn : ∀ t : Nat, a < t → t < a + 32 → t ≠ a + 20 → t ≠ a + 21 → n2 t = n t) (hr : ∀ i : Int, 0 ≤ i → i < 1800 → ¬ (i = 7 ∨ (700 ≤ i ∧ i < 718)) → r2 i = r i) (h : LakeRel n a r) (hnew : TR n2 (a + 20) 3 6 7 700 r2) : LakeRel n2 a r2 := by
  obtain ⟨p0, p1, p2, p3, p4, p5, p6, p7, p8, p9, p10, p11, p12, p13⟩ := h
  exact ⟨p0.congr (hn (a + 1) (by omega) (by omega) (by omega) (by omega)) (hn (a + 2) (by omega) (by omega) (by omega) (by omega)) (fun i i0 i1 => hr i (by omega) (by omega) (by omega)),
    p1.congr (hn (a + 3) (by omega) (by omega) (by omega) (by omega)) (hn (a + 4) (by omega) (by omega) (by omega) (by omega)) (by decide) (hr 0 (by decide) (by decide) (by decide)) (fun i i0 i1 => hr i (by omega) (by omega) (by omega)),
    p2.congr (hn (a + 5) (by omega) (by omega) (by omega) (by omega)) (hn (a + 6) (by omega) (by omega) (by omega) (by omega)) (by decide) (hr 1 (by decide) (by decide) (by decide)) (fun i i0 i1 => hr i (by omega) (by omega) (by omega)),
    p3.congr (hn (a + 7) (by omega) (by omega) (by omega) (by omega)) (hn (a + 8) (by omega) (by omega) (by omega) (by omega)) (by decide) (hr 2 (by decide) (by decide) (by decide)) (fun i i0 i1 => hr i (by omega) (by omega) (by omega)),
    p4.congr (hn (a + 9) (by omega) (by omega) (by omega) (by omega)) (hn (a + 10) (by omega) (by omega) (by omega) (by omega)) (by decide) (hr 3 (by decide) (by decide) (by decide)) (fun i i0 i1 => hr i (by omega) (by omega) (by omega)),
    p5.congr (hn (a + 11) (by omega) (by omega) (by omega) (by omega)) (hn (a + 12) (by omega) (by omega) (by omega) (by omega)) (by decide) (hr 4 (by decide) (by decide) (by decide)) (fun i i0 i1 => hr i (by omega) (by omega) (by omega)),
    p6.congr (hn (a + 13) (by omega) (by omega) (by omega) (by omega)) (hn (a + 14) (by omega) (by omega) (by omega) (by omega)) (by decide) (hr 5 (by decide) (by decide) (by decide)) (fun i i0 i1 => hr i (by omega) (by omega) (by omega)),
    p7.congr (hn (a + 15) (by omega) (by omega) (by omega) (by omega)) (hn (a + 16) (by omega) (by omega) (by omega) (by omega)) (hn (a + 17) (by omega) (by omega) (by omega) (by omega)) (hn (a + 18) (by omega) (by omega) (by omega) (by omega)) (hn (a + 19) (by omega) (by omega) (by omega) (by omega)) (fun i i0 i1 => hr i (by omega) (by omega) (by omega)),
    hnew,
    p9.congr (hn (a + 22) (by omega) (by omega) (by omega) (by omega)) (hn (a + 23) (by omega) (by omega) (by omega) (by omega)) (by decide) (hr 8 (by decide) (by decide) (by decide)) (fun i i0 i1 => hr i (by omega) (by omega) (by omega)),
    p10.congr (hn (a + 24) (by omega) (by omega) (by omega) (by omega)) (hn (a + 25) (by omega) (by omega) (by omega) (by omega)) (by decide) (hr 9 (by decide) (by decide) (by decide)) (fun i i0 i1 => hr i (by omega) (by omega) (by omega)),
    p11.congr (hn (a + 26) (by omega) (by omega) (by omega) (by omega)) (hn (a + 27) (by omega) (by omega) (by omega) (by omega)) (fun i i0 i1 => hr i (by omega) (by omega) (by omega)),
    p12.congr (hn (a + 28) (by omega) (by omega) (by omega) (by omega)) (hn (a + 29) (by omega) (by omega) (by omega) (by omega)) (fun i i0 i1 => hr i (by omega) (by omega) (by omega)),
    p13.congr (hn (a + 30) (by omega) (by omega) (by omega) (by omega)) (hn (a + 31) (by omega) (by omega) (by omega) (by omega)) (fun i i0 i1 => hr i (by omega) (by omega) (by omega))⟩

theorem LakeRel.upd_sweeps {n n2 : NM} {a : Nat} {r r2 : Int → Int} (hn : ∀ t : Nat, a < t → t < a + 32 → t ≠ a + 22 → t ≠ a + 23 → n2 t = n t) (hr : ∀ i : Int, 0 ≤ i → i < 1800 → ¬ (i = 8 ∨ (720 ≤ i ∧ i < 768)) → r2 i = r i) (h : LakeRel n a r) (hnew : TR n2 (a + 22) 4 12 8 720 r2) : LakeRel n2 a r2 := by
  obtain ⟨p0, p1, p2, p3, p4, p5, p6, p7, p8, p9, p10, p11, p12, p13⟩ := h
  exact ⟨p0.congr (hn (a + 1) (by omega) (by omega) (by omega) (by omega)) (hn (a + 2) (by omega) (by omega) (by omega) (by omega)) (fun i i0 i1 => hr i (by omega) (by omega) (by omega)),
    p1.congr (hn (a + 3) (by omega) (by omega) (by omega) (by omega)) (hn (a + 4) (by omega) (by omega) (by omega) (by omega)) (by decide) (hr 0 (by decide) (by decide) (by decide)) (fun i i0 i1 => hr i (by omega) (by omega) (by omega)),
    p2.congr (hn (a + 5) (by omega) (by omega) (by omega) (by omega)) (hn (a + 6) (by omega) (by omega) (by omega) (by omega)) (by decide) (hr 1 (by decide) (by decide) (by decide)) (fun i i0 i1 => hr i (by omega) (by omega) (by omega)),
    p3.congr (hn (a + 7) (by omega) (by omega) (by omega) (by omega)) (hn (a + 8) (by omega) (by omega) (by omega) (by omega)) (by decide) (hr 2 (by decide) (by decide) (by decide)) (fun i i0 i1 => hr i (by omega) (by omega) (by omega)),
    p4.congr (hn (a + 9) (by omega) (by omega) (by omega) (by omega)) (hn (a + 10) (by omega) (by omega) (by omega) (by omega)) (by decide) (hr 3 (by decide) (by decide) (by decide)) (fun i i0 i1 => hr i (by omega) (by omega) (by omega)),
    p5.congr (hn (a + 11) (by omega) (by omega) (by omega) (by omega)) (hn (a + 12) (by omega) (by omega) (by omega) (by omega)) (by decide) (hr 4 (by decide) (by decide) (by decide)) (fun i i0 i1 => hr i (by omega) (by omega) (by omega)),
    p6.congr (hn (a + 13) (by omega) (by omega) (by omega) (by omega)) (hn (a + 14) (by omega) (by omega) (by omega) (by omega)) (by decide) (hr 5 (by decide) (by decide) (by decide)) (fun i i0 i1 => hr i (by omega) (by omega) (by omega)),
    p7.congr (hn (a + 15) (by omega) (by omega) (by omega) (by omega)) (hn (a + 16) (by omega) (by omega) (by omega) (by omega)) (hn (a + 17) (by omega) (by omega) (by omega) (by omega)) (hn (a + 18) (by omega) (by omega) (by omega) (by omega)) (hn (a + 19) (by omega) (by omega) (by omega) (by omega)) (fun i i0 i1 => hr i (by omega) (by omega) (by omega)),
    p8.congr (hn (a + 20) (by omega) (by omega) (by omega) (by omega)) (hn (a + 21) (by omega) (by omega) (by omega) (by omega)) (by decide) (hr 7 (by decide) (by decide) (by decide)) (fun i i0 i1 => hr i (by omega) (by omega) (by omega)),
    hnew,
    p10.congr (hn (a + 24) (by omega) (by omega) (by omega) (by omega)) (hn (a + 25) (by omega) (by omega) (by omega) (by omega)) (by decide) (hr 9 (by decide) (by decide) (by decide)) (fun i i0 i1 => hr i (by omega) (by omega) (by omega)),
    p11.congr (hn (a + 26) (by omega) (by omega) (by omega) (by omega)) (hn (a + 27) (by omega) (by omega) (by omega) (by omega)) (fun i i0 i1 => hr i (by omega) (by omega) (by omega)),
    p12.congr (hn (a + 28) (by omega) (by omega) (by omega) (by omega)) (hn (a + 29) (by omega) (by omega) (by omega) (by omega)) (fun i i0 i1 => hr i (by omega) (by omega) (by omega)),
    p13.congr (hn (a + 30) (by omega) (by omega) (by omega) (by omega)) (hn (a + 31) (by omega) (by omega) (by omega) (by omega)) (fun i i0 i1 => hr i (by omega) (by omega) (by omega))⟩

theorem LakeRel.upd_offers {n n2 : NM} {a : Nat} {r r2 : Int → Int} (hn : ∀ t : Nat, a < t → t < a + 32 → t ≠ a + 24 → t ≠ a + 25 → n2 t = n t) (hr : ∀ i : Int, 0 ≤ i → i < 1800 → ¬ (i = 9 ∨ (770 ≤ i ∧ i < 810)) → r2 i = r i) (h : LakeRel n a r) (hnew : TR n2 (a + 24) 4 10 9 770 r2) : LakeRel n2 a r2 := by
  obtain ⟨p0, p1, p2, p3, p4, p5, p6, p7, p8, p9, p10, p11, p12, p13⟩ := h
  exact ⟨p0.congr (hn (a + 1) (by omega) (by omega) (by omega) (by omega)) (hn (a + 2) (by omega) (by omega) (by omega) (by omega)) (fun i i0 i1 => hr i (by omega) (by omega) (by omega)),
    p1.congr (hn (a + 3) (by omega) (by omega) (by omega) (by omega)) (hn (a + 4) (by omega) (by omega) (by omega) (by omega)) (by decide) (hr 0 (by decide) (by decide) (by decide)) (fun i i0 i1 => hr i (by omega) (by omega) (by omega)),
    p2.congr (hn (a + 5) (by omega) (by omega) (by omega) (by omega)) (hn (a + 6) (by omega) (by omega) (by omega) (by omega)) (by decide) (hr 1 (by decide) (by decide) (by decide)) (fun i i0 i1 => hr i (by omega) (by omega) (by omega)),
    p3.congr (hn (a + 7) (by omega) (by omega) (by omega) (by omega)) (hn (a + 8) (by omega) (by omega) (by omega) (by omega)) (by decide) (hr 2 (by decide) (by decide) (by decide)) (fun i i0 i1 => hr i (by omega) (by omega) (by omega)),
    p4.congr (hn (a + 9) (by omega) (by omega) (by omega) (by omega)) (hn (a + 10) (by omega) (by omega) (by omega) (by omega)) (by decide) (hr 3 (by decide) (by decide) (by decide)) (fun i i0 i1 => hr i (by omega) (by omega) (by omega)),
    p5.congr (hn (a + 11) (by omega) (by omega) (by omega) (by omega)) (hn (a + 12) (by omega) (by omega) (by omega) (by omega)) (by decide) (hr 4 (by decide) (by decide) (by decide)) (fun i i0 i1 => hr i (by omega) (by omega) (by omega)),
    p6.congr (hn (a + 13) (by omega) (by omega) (by omega) (by omega)) (hn (a + 14) (by omega) (by omega) (by omega) (by omega)) (by decide) (hr 5 (by decide) (by decide) (by decide)) (fun i i0 i1 => hr i (by omega) (by omega) (by omega)),
    p7.congr (hn (a + 15) (by omega) (by omega) (by omega) (by omega)) (hn (a + 16) (by omega) (by omega) (by omega) (by omega)) (hn (a + 17) (by omega) (by omega) (by omega) (by omega)) (hn (a + 18) (by omega) (by omega) (by omega) (by omega)) (hn (a + 19) (by omega) (by omega) (by omega) (by omega)) (fun i i0 i1 => hr i (by omega) (by omega) (by omega)),
    p8.congr (hn (a + 20) (by omega) (by omega) (by omega) (by omega)) (hn (a + 21) (by omega) (by omega) (by omega) (by omega)) (by decide) (hr 7 (by decide) (by decide) (by decide)) (fun i i0 i1 => hr i (by omega) (by omega) (by omega)),
    p9.congr (hn (a + 22) (by omega) (by omega) (by omega) (by omega)) (hn (a + 23) (by omega) (by omega) (by omega) (by omega)) (by decide) (hr 8 (by decide) (by decide) (by decide)) (fun i i0 i1 => hr i (by omega) (by omega) (by omega)),
    hnew,
    p11.congr (hn (a + 26) (by omega) (by omega) (by omega) (by omega)) (hn (a + 27) (by omega) (by omega) (by omega) (by omega)) (fun i i0 i1 => hr i (by omega) (by omega) (by omega)),
    p12.congr (hn (a + 28) (by omega) (by omega) (by omega) (by omega)) (hn (a + 29) (by omega) (by omega) (by omega) (by omega)) (fun i i0 i1 => hr i (by omega) (by omega) (by omega)),
    p13.congr (hn (a + 30) (by omega) (by omega) (by omega) (by omega)) (hn (a + 31) (by omega) (by omega) (by omega) (by omega)) (fun i i0 i1 => hr i (by omega) (by omega) (by omega))⟩

theorem LakeRel.upd_years {n n2 : NM} {a : Nat} {r r2 : Int → Int} (hn : ∀ t : Nat, a < t → t < a + 32 → t ≠ a + 26 → t ≠ a + 27 → n2 t = n t) (hr : ∀ i : Int, 0 ≤ i → i < 1800 → ¬ (810 ≤ i ∧ i < 870) → r2 i = r i) (h : LakeRel n a r) (hnew : FR n2 (a + 26) 2 30 810 r2) : LakeRel n2 a r2 := by
  obtain ⟨p0, p1, p2, p3, p4, p5, p6, p7, p8, p9, p10, p11, p12, p13⟩ := h
  exact ⟨p0.congr (hn (a + 1) (by omega) (by omega) (by omega) (by omega)) (hn (a + 2) (by omega) (by omega) (by omega) (by omega)) (fun i i0 i1 => hr i (by omega) (by omega) (by omega)),
    p1.congr (hn (a + 3) (by omega) (by omega) (by omega) (by omega)) (hn (a + 4) (by omega) (by omega) (by omega) (by omega)) (by decide) (hr 0 (by decide) (by decide) (by decide)) (fun i i0 i1 => hr i (by omega) (by omega) (by omega)),
    p2.congr (hn (a + 5) (by omega) (by omega) (by omega) (by omega)) (hn (a + 6) (by omega) (by omega) (by omega) (by omega)) (by decide) (hr 1 (by decide) (by decide) (by decide)) (fun i i0 i1 => hr i (by omega) (by omega) (by omega)),
    p3.congr (hn (a + 7) (by omega) (by omega) (by omega) (by omega)) (hn (a + 8) (by omega) (by omega) (by omega) (by omega)) (by decide) (hr 2 (by decide) (by decide) (by decide)) (fun i i0 i1 => hr i (by omega) (by omega) (by omega)),
    p4.congr (hn (a + 9) (by omega) (by omega) (by omega) (by omega)) (hn (a + 10) (by omega) (by omega) (by omega) (by omega)) (by decide) (hr 3 (by decide) (by decide) (by decide)) (fun i i0 i1 => hr i (by omega) (by omega) (by omega)),
    p5.congr (hn (a + 11) (by omega) (by omega) (by omega) (by omega)) (hn (a + 12) (by omega) (by omega) (by omega) (by omega)) (by decide) (hr 4 (by decide) (by decide) (by decide)) (fun i i0 i1 => hr i (by omega) (by omega) (by omega)),
    p6.congr (hn (a + 13) (by omega) (by omega) (by omega) (by omega)) (hn (a + 14) (by omega) (by omega) (by omega) (by omega)) (by decide) (hr 5 (by decide) (by decide) (by decide)) (fun i i0 i1 => hr i (by omega) (by omega) (by omega)),
    p7.congr (hn (a + 15) (by omega) (by omega) (by omega) (by omega)) (hn (a + 16) (by omega) (by omega) (by omega) (by omega)) (hn (a + 17) (by omega) (by omega) (by omega) (by omega)) (hn (a + 18) (by omega) (by omega) (by omega) (by omega)) (hn (a + 19) (by omega) (by omega) (by omega) (by omega)) (fun i i0 i1 => hr i (by omega) (by omega) (by omega)),
    p8.congr (hn (a + 20) (by omega) (by omega) (by omega) (by omega)) (hn (a + 21) (by omega) (by omega) (by omega) (by omega)) (by decide) (hr 7 (by decide) (by decide) (by decide)) (fun i i0 i1 => hr i (by omega) (by omega) (by omega)),
    p9.congr (hn (a + 22) (by omega) (by omega) (by omega) (by omega)) (hn (a + 23) (by omega) (by omega) (by omega) (by omega)) (by decide) (hr 8 (by decide) (by decide) (by decide)) (fun i i0 i1 => hr i (by omega) (by omega) (by omega)),
    p10.congr (hn (a + 24) (by omega) (by omega) (by omega) (by omega)) (hn (a + 25) (by omega) (by omega) (by omega) (by omega)) (by decide) (hr 9 (by decide) (by decide) (by decide)) (fun i i0 i1 => hr i (by omega) (by omega) (by omega)),
    hnew,
    p12.congr (hn (a + 28) (by omega) (by omega) (by omega) (by omega)) (hn (a + 29) (by omega) (by omega) (by omega) (by omega)) (fun i i0 i1 => hr i (by omega) (by omega) (by omega)),
    p13.congr (hn (a + 30) (by omega) (by omega) (by omega) (by omega)) (hn (a + 31) (by omega) (by omega) (by omega) (by omega)) (fun i i0 i1 => hr i (by omega) (by omega) (by omega))⟩

theorem LakeRel.upd_ripples {n n2 : NM} {a : Nat} {r r2 : Int → Int} (hn : ∀ t : Nat, a < t → t < a + 32 → t ≠ a + 28 → t ≠ a + 29 → n2 t = n t) (hr : ∀ i : Int, 0 ≤ i → i < 1800 → ¬ (870 ≤ i ∧ i < 890) → r2 i = r i) (h : LakeRel n a r) (hnew : FR n2 (a + 28) 2 10 870 r2) : LakeRel n2 a r2 := by
  obtain ⟨p0, p1, p2, p3, p4, p5, p6, p7, p8, p9, p10, p11, p12, p13⟩ := h
  exact ⟨p0.congr (hn (a + 1) (by omega) (by omega) (by omega) (by omega)) (hn (a + 2) (by omega) (by omega) (by omega) (by omega)) (fun i i0 i1 => hr i (by omega) (by omega) (by omega)),
    p1.congr (hn (a + 3) (by omega) (by omega) (by omega) (by omega)) (hn (a + 4) (by omega) (by omega) (by omega) (by omega)) (by decide) (hr 0 (by decide) (by decide) (by decide)) (fun i i0 i1 => hr i (by omega) (by omega) (by omega)),
    p2.congr (hn (a + 5) (by omega) (by omega) (by omega) (by omega)) (hn (a + 6) (by omega) (by omega) (by omega) (by omega)) (by decide) (hr 1 (by decide) (by decide) (by decide)) (fun i i0 i1 => hr i (by omega) (by omega) (by omega)),
    p3.congr (hn (a + 7) (by omega) (by omega) (by omega) (by omega)) (hn (a + 8) (by omega) (by omega) (by omega) (by omega)) (by decide) (hr 2 (by decide) (by decide) (by decide)) (fun i i0 i1 => hr i (by omega) (by omega) (by omega)),
    p4.congr (hn (a + 9) (by omega) (by omega) (by omega) (by omega)) (hn (a + 10) (by omega) (by omega) (by omega) (by omega)) (by decide) (hr 3 (by decide) (by decide) (by decide)) (fun i i0 i1 => hr i (by omega) (by omega) (by omega)),
    p5.congr (hn (a + 11) (by omega) (by omega) (by omega) (by omega)) (hn (a + 12) (by omega) (by omega) (by omega) (by omega)) (by decide) (hr 4 (by decide) (by decide) (by decide)) (fun i i0 i1 => hr i (by omega) (by omega) (by omega)),
    p6.congr (hn (a + 13) (by omega) (by omega) (by omega) (by omega)) (hn (a + 14) (by omega) (by omega) (by omega) (by omega)) (by decide) (hr 5 (by decide) (by decide) (by decide)) (fun i i0 i1 => hr i (by omega) (by omega) (by omega)),
    p7.congr (hn (a + 15) (by omega) (by omega) (by omega) (by omega)) (hn (a + 16) (by omega) (by omega) (by omega) (by omega)) (hn (a + 17) (by omega) (by omega) (by omega) (by omega)) (hn (a + 18) (by omega) (by omega) (by omega) (by omega)) (hn (a + 19) (by omega) (by omega) (by omega) (by omega)) (fun i i0 i1 => hr i (by omega) (by omega) (by omega)),
    p8.congr (hn (a + 20) (by omega) (by omega) (by omega) (by omega)) (hn (a + 21) (by omega) (by omega) (by omega) (by omega)) (by decide) (hr 7 (by decide) (by decide) (by decide)) (fun i i0 i1 => hr i (by omega) (by omega) (by omega)),
    p9.congr (hn (a + 22) (by omega) (by omega) (by omega) (by omega)) (hn (a + 23) (by omega) (by omega) (by omega) (by omega)) (by decide) (hr 8 (by decide) (by decide) (by decide)) (fun i i0 i1 => hr i (by omega) (by omega) (by omega)),
    p10.congr (hn (a + 24) (by omega) (by omega) (by omega) (by omega)) (hn (a + 25) (by omega) (by omega) (by omega) (by omega)) (by decide) (hr 9 (by decide) (by decide) (by decide)) (fun i i0 i1 => hr i (by omega) (by omega) (by omega)),
    p11.congr (hn (a + 26) (by omega) (by omega) (by omega) (by omega)) (hn (a + 27) (by omega) (by omega) (by omega) (by omega)) (fun i i0 i1 => hr i (by omega) (by omega) (by omega)),
    hnew,
    p13.congr (hn (a + 30) (by omega) (by omega) (by omega) (by omega)) (hn (a + 31) (by omega) (by omega) (by omega) (by omega)) (fun i i0 i1 => hr i (by omega) (by omega) (by omega))⟩

theorem LakeRel.upd_kin {n n2 : NM} {a : Nat} {r r2 : Int → Int} (hn : ∀ t : Nat, a < t → t < a + 32 → t ≠ a + 30 → t ≠ a + 31 → n2 t = n t) (hr : ∀ i : Int, 0 ≤ i → i < 1800 → ¬ (10 ≤ i ∧ i < 13) → r2 i = r i) (h : LakeRel n a r) (hnew : FR n2 (a + 30) 3 1 10 r2) : LakeRel n2 a r2 := by
  obtain ⟨p0, p1, p2, p3, p4, p5, p6, p7, p8, p9, p10, p11, p12, p13⟩ := h
  exact ⟨p0.congr (hn (a + 1) (by omega) (by omega) (by omega) (by omega)) (hn (a + 2) (by omega) (by omega) (by omega) (by omega)) (fun i i0 i1 => hr i (by omega) (by omega) (by omega)),
    p1.congr (hn (a + 3) (by omega) (by omega) (by omega) (by omega)) (hn (a + 4) (by omega) (by omega) (by omega) (by omega)) (by decide) (hr 0 (by decide) (by decide) (by decide)) (fun i i0 i1 => hr i (by omega) (by omega) (by omega)),
    p2.congr (hn (a + 5) (by omega) (by omega) (by omega) (by omega)) (hn (a + 6) (by omega) (by omega) (by omega) (by omega)) (by decide) (hr 1 (by decide) (by decide) (by decide)) (fun i i0 i1 => hr i (by omega) (by omega) (by omega)),
    p3.congr (hn (a + 7) (by omega) (by omega) (by omega) (by omega)) (hn (a + 8) (by omega) (by omega) (by omega) (by omega)) (by decide) (hr 2 (by decide) (by decide) (by decide)) (fun i i0 i1 => hr i (by omega) (by omega) (by omega)),
    p4.congr (hn (a + 9) (by omega) (by omega) (by omega) (by omega)) (hn (a + 10) (by omega) (by omega) (by omega) (by omega)) (by decide) (hr 3 (by decide) (by decide) (by decide)) (fun i i0 i1 => hr i (by omega) (by omega) (by omega)),
    p5.congr (hn (a + 11) (by omega) (by omega) (by omega) (by omega)) (hn (a + 12) (by omega) (by omega) (by omega) (by omega)) (by decide) (hr 4 (by decide) (by decide) (by decide)) (fun i i0 i1 => hr i (by omega) (by omega) (by omega)),
    p6.congr (hn (a + 13) (by omega) (by omega) (by omega) (by omega)) (hn (a + 14) (by omega) (by omega) (by omega) (by omega)) (by decide) (hr 5 (by decide) (by decide) (by decide)) (fun i i0 i1 => hr i (by omega) (by omega) (by omega)),
    p7.congr (hn (a + 15) (by omega) (by omega) (by omega) (by omega)) (hn (a + 16) (by omega) (by omega) (by omega) (by omega)) (hn (a + 17) (by omega) (by omega) (by omega) (by omega)) (hn (a + 18) (by omega) (by omega) (by omega) (by omega)) (hn (a + 19) (by omega) (by omega) (by omega) (by omega)) (fun i i0 i1 => hr i (by omega) (by omega) (by omega)),
    p8.congr (hn (a + 20) (by omega) (by omega) (by omega) (by omega)) (hn (a + 21) (by omega) (by omega) (by omega) (by omega)) (by decide) (hr 7 (by decide) (by decide) (by decide)) (fun i i0 i1 => hr i (by omega) (by omega) (by omega)),
    p9.congr (hn (a + 22) (by omega) (by omega) (by omega) (by omega)) (hn (a + 23) (by omega) (by omega) (by omega) (by omega)) (by decide) (hr 8 (by decide) (by decide) (by decide)) (fun i i0 i1 => hr i (by omega) (by omega) (by omega)),
    p10.congr (hn (a + 24) (by omega) (by omega) (by omega) (by omega)) (hn (a + 25) (by omega) (by omega) (by omega) (by omega)) (by decide) (hr 9 (by decide) (by decide) (by decide)) (fun i i0 i1 => hr i (by omega) (by omega) (by omega)),
    p11.congr (hn (a + 26) (by omega) (by omega) (by omega) (by omega)) (hn (a + 27) (by omega) (by omega) (by omega) (by omega)) (fun i i0 i1 => hr i (by omega) (by omega) (by omega)),
    p12.congr (hn (a + 28) (by omega) (by omega) (by omega) (by omega)) (hn (a + 29) (by omega) (by omega) (by omega) (by omega)) (fun i i0 i1 => hr i (by omega) (by omega) (by omega)),
    hnew⟩

theorem RowOk.congr {r r2 : Int → Int} (hr : ∀ i : Int, 0 ≤ i → i < 1800 → r2 i = r i) (hb : 0 ≤ r 0 ∧ r 0 ≤ 12 ∧ r 1 ≤ 12 ∧ r 3 ≤ 12 ∧ r 4 ≤ 20 ∧ r 5 ≤ 40 ∧ r 7 ≤ 6 ∧ r 8 ≤ 12 ∧ r 9 ≤ 10) (h : RowOk r) : RowOk r2 := by
  obtain ⟨q0, q1, q2, q3, q4, q5, q6, q7, q8, q9, q10, q11⟩ := h
  refine ⟨?_, ?_, ?_, ?_, ?_, ?_, ?_, ?_, ?_, ?_, ?_, ?_⟩
  · intro k k0 k1
    rw [hr (20 + k) (by omega) (by omega)]
    exact q0 k k0 k1
  · intro b b0 b1
    rw [hr 0 (by decide) (by decide)] at b1
    rw [hr (200 + 4 * b + 1) (by omega) (by omega), hr (200 + 4 * b + 2) (by omega) (by omega), hr (200 + 4 * b + 3) (by omega) (by omega)]
    exact q1 b b0 b1
  · intro b b0 b1
    rw [hr 1 (by decide) (by decide)] at b1
    rw [hr (250 + 4 * b + 1) (by omega) (by omega)]
    exact q2 b b0 b1
  · intro b b0 b1
    rw [hr 3 (by decide) (by decide)] at b1
    rw [hr (330 + b) (by omega) (by omega)]
    exact q3 b b0 b1
  · intro b b0 b1
    rw [hr 4 (by decide) (by decide)] at b1
    rw [hr (350 + 3 * b + 1) (by omega) (by omega), hr (350 + 3 * b + 2) (by omega) (by omega)]
    exact q4 b b0 b1
  · intro b b0 b1
    rw [hr 5 (by decide) (by decide)] at b1
    rw [hr (420 + 7 * b) (by omega) (by omega), hr (420 + 7 * b + 1) (by omega) (by omega), hr (420 + 7 * b + 2) (by omega) (by omega), hr (420 + 7 * b + 4) (by omega) (by omega), hr (420 + 7 * b + 5) (by omega) (by omega), hr (420 + 7 * b + 6) (by omega) (by omega)]
    exact q5 b b0 b1
  · intro b b0 b1
    rw [hr 7 (by decide) (by decide)] at b1
    rw [hr (700 + 3 * b) (by omega) (by omega), hr (700 + 3 * b + 1) (by omega) (by omega), hr (700 + 3 * b + 2) (by omega) (by omega)]
    exact q6 b b0 b1
  · intro b b0 b1
    rw [hr 8 (by decide) (by decide)] at b1
    rw [hr (720 + 4 * b) (by omega) (by omega), hr (720 + 4 * b + 1) (by omega) (by omega), hr (720 + 4 * b + 2) (by omega) (by omega), hr (720 + 4 * b + 3) (by omega) (by omega)]
    exact q7 b b0 b1
  · intro b b0 b1
    rw [hr 9 (by decide) (by decide)] at b1
    rw [hr (770 + 4 * b) (by omega) (by omega), hr (770 + 4 * b + 1) (by omega) (by omega), hr (770 + 4 * b + 2) (by omega) (by omega), hr (770 + 4 * b + 3) (by omega) (by omega)]
    exact q8 b b0 b1
  · intro k k0 k1
    rw [hr (810 + k) (by omega) (by omega)]
    exact q9 k k0 k1
  · intro k k0 k1
    rw [hr (870 + k) (by omega) (by omega)]
    exact q10 k k0 k1
  · rw [hr 10 (by decide) (by decide), hr 11 (by decide) (by decide), hr 12 (by decide) (by decide)]
    exact q11

theorem RowOk.upd_days {r r2 : Int → Int} (hr : ∀ i : Int, 0 ≤ i → i < 1800 → ¬ (20 ≤ i ∧ i < 200) → r2 i = r i) (hb : 0 ≤ r 0 ∧ r 0 ≤ 12 ∧ r 1 ≤ 12 ∧ r 3 ≤ 12 ∧ r 4 ≤ 20 ∧ r 5 ≤ 40 ∧ r 7 ≤ 6 ∧ r 8 ≤ 12 ∧ r 9 ≤ 10) (h : RowOk r) (hnew : (∀ k, 0 ≤ k → k < 180 → 0 ≤ r2 (20 + k) ∧ r2 (20 + k) ≤ 9)) : RowOk r2 := by
  obtain ⟨q0, q1, q2, q3, q4, q5, q6, q7, q8, q9, q10, q11⟩ := h
  refine ⟨hnew, ?_, ?_, ?_, ?_, ?_, ?_, ?_, ?_, ?_, ?_, ?_⟩
  · intro b b0 b1
    rw [hr 0 (by decide) (by decide) (by decide)] at b1
    rw [hr (200 + 4 * b + 1) (by omega) (by omega) (by omega), hr (200 + 4 * b + 2) (by omega) (by omega) (by omega), hr (200 + 4 * b + 3) (by omega) (by omega) (by omega)]
    exact q1 b b0 b1
  · intro b b0 b1
    rw [hr 1 (by decide) (by decide) (by decide)] at b1
    rw [hr (250 + 4 * b + 1) (by omega) (by omega) (by omega)]
    exact q2 b b0 b1
  · intro b b0 b1
    rw [hr 3 (by decide) (by decide) (by decide)] at b1
    rw [hr (330 + b) (by omega) (by omega) (by omega)]
    exact q3 b b0 b1
  · intro b b0 b1
    rw [hr 4 (by decide) (by decide) (by decide)] at b1
    rw [hr (350 + 3 * b + 1) (by omega) (by omega) (by omega), hr (350 + 3 * b + 2) (by omega) (by omega) (by omega)]
    exact q4 b b0 b1
  · intro b b0 b1
    rw [hr 5 (by decide) (by decide) (by decide)] at b1
    rw [hr (420 + 7 * b) (by omega) (by omega) (by omega), hr (420 + 7 * b + 1) (by omega) (by omega) (by omega), hr (420 + 7 * b + 2) (by omega) (by omega) (by omega), hr (420 + 7 * b + 4) (by omega) (by omega) (by omega), hr (420 + 7 * b + 5) (by omega) (by omega) (by omega), hr (420 + 7 * b + 6) (by omega) (by omega) (by omega)]
    exact q5 b b0 b1
  · intro b b0 b1
    rw [hr 7 (by decide) (by decide) (by decide)] at b1
    rw [hr (700 + 3 * b) (by omega) (by omega) (by omega), hr (700 + 3 * b + 1) (by omega) (by omega) (by omega), hr (700 + 3 * b + 2) (by omega) (by omega) (by omega)]
    exact q6 b b0 b1
  · intro b b0 b1
    rw [hr 8 (by decide) (by decide) (by decide)] at b1
    rw [hr (720 + 4 * b) (by omega) (by omega) (by omega), hr (720 + 4 * b + 1) (by omega) (by omega) (by omega), hr (720 + 4 * b + 2) (by omega) (by omega) (by omega), hr (720 + 4 * b + 3) (by omega) (by omega) (by omega)]
    exact q7 b b0 b1
  · intro b b0 b1
    rw [hr 9 (by decide) (by decide) (by decide)] at b1
    rw [hr (770 + 4 * b) (by omega) (by omega) (by omega), hr (770 + 4 * b + 1) (by omega) (by omega) (by omega), hr (770 + 4 * b + 2) (by omega) (by omega) (by omega), hr (770 + 4 * b + 3) (by omega) (by omega) (by omega)]
    exact q8 b b0 b1
  · intro k k0 k1
    rw [hr (810 + k) (by omega) (by omega) (by omega)]
    exact q9 k k0 k1
  · intro k k0 k1
    rw [hr (870 + k) (by omega) (by omega) (by omega)]
    exact q10 k k0 k1
  · rw [hr 10 (by decide) (by decide) (by decide), hr 11 (by decide) (by decide) (by decide), hr 12 (by decide) (by decide) (by decide)]
    exact q11

theorem RowOk.upd_boats {r r2 : Int → Int} (hr : ∀ i : Int, 0 ≤ i → i < 1800 → ¬ (i = 0 ∨ (200 ≤ i ∧ i < 248)) → r2 i = r i) (hb : 0 ≤ r 0 ∧ r 0 ≤ 12 ∧ r 1 ≤ 12 ∧ r 3 ≤ 12 ∧ r 4 ≤ 20 ∧ r 5 ≤ 40 ∧ r 7 ≤ 6 ∧ r 8 ≤ 12 ∧ r 9 ≤ 10) (h : RowOk r) (hnew : (∀ b, 0 ≤ b → b < r2 0 → (0 ≤ r2 (200 + 4 * b + 1) ∧ r2 (200 + 4 * b + 1) ≤ 1) ∧ (0 ≤ r2 (200 + 4 * b + 2) ∧ r2 (200 + 4 * b + 2) ≤ 1439) ∧ 1 ≤ r2 (200 + 4 * b + 3) ∧ r2 (200 + 4 * b + 3) ≤ 24)) : RowOk r2 := by
  obtain ⟨q0, q1, q2, q3, q4, q5, q6, q7, q8, q9, q10, q11⟩ := h
  refine ⟨?_, hnew, ?_, ?_, ?_, ?_, ?_, ?_, ?_, ?_, ?_, ?_⟩
  · intro k k0 k1
    rw [hr (20 + k) (by omega) (by omega) (by omega)]
    exact q0 k k0 k1
  · intro b b0 b1
    rw [hr 1 (by decide) (by decide) (by decide)] at b1
    rw [hr (250 + 4 * b + 1) (by omega) (by omega) (by omega)]
    exact q2 b b0 b1
  · intro b b0 b1
    rw [hr 3 (by decide) (by decide) (by decide)] at b1
    rw [hr (330 + b) (by omega) (by omega) (by omega)]
    exact q3 b b0 b1
  · intro b b0 b1
    rw [hr 4 (by decide) (by decide) (by decide)] at b1
    rw [hr (350 + 3 * b + 1) (by omega) (by omega) (by omega), hr (350 + 3 * b + 2) (by omega) (by omega) (by omega)]
    exact q4 b b0 b1
  · intro b b0 b1
    rw [hr 5 (by decide) (by decide) (by decide)] at b1
    rw [hr (420 + 7 * b) (by omega) (by omega) (by omega), hr (420 + 7 * b + 1) (by omega) (by omega) (by omega), hr (420 + 7 * b + 2) (by omega) (by omega) (by omega), hr (420 + 7 * b + 4) (by omega) (by omega) (by omega), hr (420 + 7 * b + 5) (by omega) (by omega) (by omega), hr (420 + 7 * b + 6) (by omega) (by omega) (by omega)]
    exact q5 b b0 b1
  · intro b b0 b1
    rw [hr 7 (by decide) (by decide) (by decide)] at b1
    rw [hr (700 + 3 * b) (by omega) (by omega) (by omega), hr (700 + 3 * b + 1) (by omega) (by omega) (by omega), hr (700 + 3 * b + 2) (by omega) (by omega) (by omega)]
    exact q6 b b0 b1
  · intro b b0 b1
    rw [hr 8 (by decide) (by decide) (by decide)] at b1
    rw [hr (720 + 4 * b) (by omega) (by omega) (by omega), hr (720 + 4 * b + 1) (by omega) (by omega) (by omega), hr (720 + 4 * b + 2) (by omega) (by omega) (by omega), hr (720 + 4 * b + 3) (by omega) (by omega) (by omega)]
    exact q7 b b0 b1
  · intro b b0 b1
    rw [hr 9 (by decide) (by decide) (by decide)] at b1
    rw [hr (770 + 4 * b) (by omega) (by omega) (by omega), hr (770 + 4 * b + 1) (by omega) (by omega) (by omega), hr (770 + 4 * b + 2) (by omega) (by omega) (by omega), hr (770 + 4 * b + 3) (by omega) (by omega) (by omega)]
    exact q8 b b0 b1
  · intro k k0 k1
    rw [hr (810 + k) (by omega) (by omega) (by omega)]
    exact q9 k k0 k1
  · intro k k0 k1
    rw [hr (870 + k) (by omega) (by omega) (by omega)]
    exact q10 k k0 k1
  · rw [hr 10 (by decide) (by decide) (by decide), hr 11 (by decide) (by decide) (by decide), hr 12 (by decide) (by decide) (by decide)]
    exact q11

theorem RowOk.upd_beasts {r r2 : Int → Int} (hr : ∀ i : Int, 0 ≤ i → i < 1800 → ¬ (i = 1 ∨ (250 ≤ i ∧ i < 298)) → r2 i = r i) (hb : 0 ≤ r 0 ∧ r 0 ≤ 12 ∧ r 1 ≤ 12 ∧ r 3 ≤ 12 ∧ r 4 ≤ 20 ∧ r 5 ≤ 40 ∧ r 7 ≤ 6 ∧ r 8 ≤ 12 ∧ r 9 ≤ 10) (h : RowOk r) (hnew : (∀ b, 0 ≤ b → b < r2 1 → 0 ≤ r2 (250 + 4 * b + 1) ∧ r2 (250 + 4 * b + 1) ≤ 23)) : RowOk r2 := by
  obtain ⟨q0, q1, q2, q3, q4, q5, q6, q7, q8, q9, q10, q11⟩ := h
  refine ⟨?_, ?_, hnew, ?_, ?_, ?_, ?_, ?_, ?_, ?_, ?_, ?_⟩
  · intro k k0 k1
    rw [hr (20 + k) (by omega) (by omega) (by omega)]
    exact q0 k k0 k1
  · intro b b0 b1
    rw [hr 0 (by decide) (by decide) (by decide)] at b1
    rw [hr (200 + 4 * b + 1) (by omega) (by omega) (by omega), hr (200 + 4 * b + 2) (by omega) (by omega) (by omega), hr (200 + 4 * b + 3) (by omega) (by omega) (by omega)]
    exact q1 b b0 b1
  · intro b b0 b1
    rw [hr 3 (by decide) (by decide) (by decide)] at b1
    rw [hr (330 + b) (by omega) (by omega) (by omega)]
    exact q3 b b0 b1
  · intro b b0 b1
    rw [hr 4 (by decide) (by decide) (by decide)] at b1
    rw [hr (350 + 3 * b + 1) (by omega) (by omega) (by omega), hr (350 + 3 * b + 2) (by omega) (by omega) (by omega)]
    exact q4 b b0 b1
  · intro b b0 b1
    rw [hr 5 (by decide) (by decide) (by decide)] at b1
    rw [hr (420 + 7 * b) (by omega) (by omega) (by omega), hr (420 + 7 * b + 1) (by omega) (by omega) (by omega), hr (420 + 7 * b + 2) (by omega) (by omega) (by omega), hr (420 + 7 * b + 4) (by omega) (by omega) (by omega), hr (420 + 7 * b + 5) (by omega) (by omega) (by omega), hr (420 + 7 * b + 6) (by omega) (by omega) (by omega)]
    exact q5 b b0 b1
  · intro b b0 b1
    rw [hr 7 (by decide) (by decide) (by decide)] at b1
    rw [hr (700 + 3 * b) (by omega) (by omega) (by omega), hr (700 + 3 * b + 1) (by omega) (by omega) (by omega), hr (700 + 3 * b + 2) (by omega) (by omega) (by omega)]
    exact q6 b b0 b1
  · intro b b0 b1
    rw [hr 8 (by decide) (by decide) (by decide)] at b1
    rw [hr (720 + 4 * b) (by omega) (by omega) (by omega), hr (720 + 4 * b + 1) (by omega) (by omega) (by omega), hr (720 + 4 * b + 2) (by omega) (by omega) (by omega), hr (720 + 4 * b + 3) (by omega) (by omega) (by omega)]
    exact q7 b b0 b1
  · intro b b0 b1
    rw [hr 9 (by decide) (by decide) (by decide)] at b1
    rw [hr (770 + 4 * b) (by omega) (by omega) (by omega), hr (770 + 4 * b + 1) (by omega) (by omega) (by omega), hr (770 + 4 * b + 2) (by omega) (by omega) (by omega), hr (770 + 4 * b + 3) (by omega) (by omega) (by omega)]
    exact q8 b b0 b1
  · intro k k0 k1
    rw [hr (810 + k) (by omega) (by omega) (by omega)]
    exact q9 k k0 k1
  · intro k k0 k1
    rw [hr (870 + k) (by omega) (by omega) (by omega)]
    exact q10 k k0 k1
  · rw [hr 10 (by decide) (by decide) (by decide), hr 11 (by decide) (by decide) (by decide), hr 12 (by decide) (by decide) (by decide)]
    exact q11

theorem RowOk.upd_logs {r r2 : Int → Int} (hr : ∀ i : Int, 0 ≤ i → i < 1800 → ¬ (i = 2 ∨ (300 ≤ i ∧ i < 324)) → r2 i = r i) (hb : 0 ≤ r 0 ∧ r 0 ≤ 12 ∧ r 1 ≤ 12 ∧ r 3 ≤ 12 ∧ r 4 ≤ 20 ∧ r 5 ≤ 40 ∧ r 7 ≤ 6 ∧ r 8 ≤ 12 ∧ r 9 ≤ 10) (h : RowOk r) : RowOk r2 := by
  obtain ⟨q0, q1, q2, q3, q4, q5, q6, q7, q8, q9, q10, q11⟩ := h
  refine ⟨?_, ?_, ?_, ?_, ?_, ?_, ?_, ?_, ?_, ?_, ?_, ?_⟩
  · intro k k0 k1
    rw [hr (20 + k) (by omega) (by omega) (by omega)]
    exact q0 k k0 k1
  · intro b b0 b1
    rw [hr 0 (by decide) (by decide) (by decide)] at b1
    rw [hr (200 + 4 * b + 1) (by omega) (by omega) (by omega), hr (200 + 4 * b + 2) (by omega) (by omega) (by omega), hr (200 + 4 * b + 3) (by omega) (by omega) (by omega)]
    exact q1 b b0 b1
  · intro b b0 b1
    rw [hr 1 (by decide) (by decide) (by decide)] at b1
    rw [hr (250 + 4 * b + 1) (by omega) (by omega) (by omega)]
    exact q2 b b0 b1
  · intro b b0 b1
    rw [hr 3 (by decide) (by decide) (by decide)] at b1
    rw [hr (330 + b) (by omega) (by omega) (by omega)]
    exact q3 b b0 b1
  · intro b b0 b1
    rw [hr 4 (by decide) (by decide) (by decide)] at b1
    rw [hr (350 + 3 * b + 1) (by omega) (by omega) (by omega), hr (350 + 3 * b + 2) (by omega) (by omega) (by omega)]
    exact q4 b b0 b1
  · intro b b0 b1
    rw [hr 5 (by decide) (by decide) (by decide)] at b1
    rw [hr (420 + 7 * b) (by omega) (by omega) (by omega), hr (420 + 7 * b + 1) (by omega) (by omega) (by omega), hr (420 + 7 * b + 2) (by omega) (by omega) (by omega), hr (420 + 7 * b + 4) (by omega) (by omega) (by omega), hr (420 + 7 * b + 5) (by omega) (by omega) (by omega), hr (420 + 7 * b + 6) (by omega) (by omega) (by omega)]
    exact q5 b b0 b1
  · intro b b0 b1
    rw [hr 7 (by decide) (by decide) (by decide)] at b1
    rw [hr (700 + 3 * b) (by omega) (by omega) (by omega), hr (700 + 3 * b + 1) (by omega) (by omega) (by omega), hr (700 + 3 * b + 2) (by omega) (by omega) (by omega)]
    exact q6 b b0 b1
  · intro b b0 b1
    rw [hr 8 (by decide) (by decide) (by decide)] at b1
    rw [hr (720 + 4 * b) (by omega) (by omega) (by omega), hr (720 + 4 * b + 1) (by omega) (by omega) (by omega), hr (720 + 4 * b + 2) (by omega) (by omega) (by omega), hr (720 + 4 * b + 3) (by omega) (by omega) (by omega)]
    exact q7 b b0 b1
  · intro b b0 b1
    rw [hr 9 (by decide) (by decide) (by decide)] at b1
    rw [hr (770 + 4 * b) (by omega) (by omega) (by omega), hr (770 + 4 * b + 1) (by omega) (by omega) (by omega), hr (770 + 4 * b + 2) (by omega) (by omega) (by omega), hr (770 + 4 * b + 3) (by omega) (by omega) (by omega)]
    exact q8 b b0 b1
  · intro k k0 k1
    rw [hr (810 + k) (by omega) (by omega) (by omega)]
    exact q9 k k0 k1
  · intro k k0 k1
    rw [hr (870 + k) (by omega) (by omega) (by omega)]
    exact q10 k k0 k1
  · rw [hr 10 (by decide) (by decide) (by decide), hr 11 (by decide) (by decide) (by decide), hr 12 (by decide) (by decide) (by decide)]
    exact q11

theorem RowOk.upd_watchers {r r2 : Int → Int} (hr : ∀ i : Int, 0 ≤ i → i < 1800 → ¬ (i = 3 ∨ (330 ≤ i ∧ i < 342)) → r2 i = r i) (hb : 0 ≤ r 0 ∧ r 0 ≤ 12 ∧ r 1 ≤ 12 ∧ r 3 ≤ 12 ∧ r 4 ≤ 20 ∧ r 5 ≤ 40 ∧ r 7 ≤ 6 ∧ r 8 ≤ 12 ∧ r 9 ≤ 10) (h : RowOk r) (hnew : (∀ b, 0 ≤ b → b < r2 3 → 0 ≤ r2 (330 + b) ∧ r2 (330 + b) ≤ 100)) : RowOk r2 := by
  obtain ⟨q0, q1, q2, q3, q4, q5, q6, q7, q8, q9, q10, q11⟩ := h
  refine ⟨?_, ?_, ?_, hnew, ?_, ?_, ?_, ?_, ?_, ?_, ?_, ?_⟩
  · intro k k0 k1
    rw [hr (20 + k) (by omega) (by omega) (by omega)]
    exact q0 k k0 k1
  · intro b b0 b1
    rw [hr 0 (by decide) (by decide) (by decide)] at b1
    rw [hr (200 + 4 * b + 1) (by omega) (by omega) (by omega), hr (200 + 4 * b + 2) (by omega) (by omega) (by omega), hr (200 + 4 * b + 3) (by omega) (by omega) (by omega)]
    exact q1 b b0 b1
  · intro b b0 b1
    rw [hr 1 (by decide) (by decide) (by decide)] at b1
    rw [hr (250 + 4 * b + 1) (by omega) (by omega) (by omega)]
    exact q2 b b0 b1
  · intro b b0 b1
    rw [hr 4 (by decide) (by decide) (by decide)] at b1
    rw [hr (350 + 3 * b + 1) (by omega) (by omega) (by omega), hr (350 + 3 * b + 2) (by omega) (by omega) (by omega)]
    exact q4 b b0 b1
  · intro b b0 b1
    rw [hr 5 (by decide) (by decide) (by decide)] at b1
    rw [hr (420 + 7 * b) (by omega) (by omega) (by omega), hr (420 + 7 * b + 1) (by omega) (by omega) (by omega), hr (420 + 7 * b + 2) (by omega) (by omega) (by omega), hr (420 + 7 * b + 4) (by omega) (by omega) (by omega), hr (420 + 7 * b + 5) (by omega) (by omega) (by omega), hr (420 + 7 * b + 6) (by omega) (by omega) (by omega)]
    exact q5 b b0 b1
  · intro b b0 b1
    rw [hr 7 (by decide) (by decide) (by decide)] at b1
    rw [hr (700 + 3 * b) (by omega) (by omega) (by omega), hr (700 + 3 * b + 1) (by omega) (by omega) (by omega), hr (700 + 3 * b + 2) (by omega) (by omega) (by omega)]
    exact q6 b b0 b1
  · intro b b0 b1
    rw [hr 8 (by decide) (by decide) (by decide)] at b1
    rw [hr (720 + 4 * b) (by omega) (by omega) (by omega), hr (720 + 4 * b + 1) (by omega) (by omega) (by omega), hr (720 + 4 * b + 2) (by omega) (by omega) (by omega), hr (720 + 4 * b + 3) (by omega) (by omega) (by omega)]
    exact q7 b b0 b1
  · intro b b0 b1
    rw [hr 9 (by decide) (by decide) (by decide)] at b1
    rw [hr (770 + 4 * b) (by omega) (by omega) (by omega), hr (770 + 4 * b + 1) (by omega) (by omega) (by omega), hr (770 + 4 * b + 2) (by omega) (by omega) (by omega), hr (770 + 4 * b + 3) (by omega) (by omega) (by omega)]
    exact q8 b b0 b1
  · intro k k0 k1
    rw [hr (810 + k) (by omega) (by omega) (by omega)]
    exact q9 k k0 k1
  · intro k k0 k1
    rw [hr (870 + k) (by omega) (by omega) (by omega)]
    exact q10 k k0 k1
  · rw [hr 10 (by decide) (by decide) (by decide), hr 11 (by decide) (by decide) (by decide), hr 12 (by decide) (by decide) (by decide)]
    exact q11

theorem RowOk.upd_poles {r r2 : Int → Int} (hr : ∀ i : Int, 0 ≤ i → i < 1800 → ¬ (i = 4 ∨ (350 ≤ i ∧ i < 410)) → r2 i = r i) (hb : 0 ≤ r 0 ∧ r 0 ≤ 12 ∧ r 1 ≤ 12 ∧ r 3 ≤ 12 ∧ r 4 ≤ 20 ∧ r 5 ≤ 40 ∧ r 7 ≤ 6 ∧ r 8 ≤ 12 ∧ r 9 ≤ 10) (h : RowOk r) (hnew : (∀ b, 0 ≤ b → b < r2 4 → (1 ≤ r2 (350 + 3 * b + 1) ∧ r2 (350 + 3 * b + 1) ≤ 99) ∧ 1 ≤ r2 (350 + 3 * b + 2) ∧ r2 (350 + 3 * b + 2) ≤ 200)) : RowOk r2 := by
  obtain ⟨q0, q1, q2, q3, q4, q5, q6, q7, q8, q9, q10, q11⟩ := h
  refine ⟨?_, ?_, ?_, ?_, hnew, ?_, ?_, ?_, ?_, ?_, ?_, ?_⟩
  · intro k k0 k1
    rw [hr (20 + k) (by omega) (by omega) (by omega)]
    exact q0 k k0 k1
  · intro b b0 b1
    rw [hr 0 (by decide) (by decide) (by decide)] at b1
    rw [hr (200 + 4 * b + 1) (by omega) (by omega) (by omega), hr (200 + 4 * b + 2) (by omega) (by omega) (by omega), hr (200 + 4 * b + 3) (by omega) (by omega) (by omega)]
    exact q1 b b0 b1
  · intro b b0 b1
    rw [hr 1 (by decide) (by decide) (by decide)] at b1
    rw [hr (250 + 4 * b + 1) (by omega) (by omega) (by omega)]
    exact q2 b b0 b1
  · intro b b0 b1
    rw [hr 3 (by decide) (by decide) (by decide)] at b1
    rw [hr (330 + b) (by omega) (by omega) (by omega)]
    exact q3 b b0 b1
  · intro b b0 b1
    rw [hr 5 (by decide) (by decide) (by decide)] at b1
    rw [hr (420 + 7 * b) (by omega) (by omega) (by omega), hr (420 + 7 * b + 1) (by omega) (by omega) (by omega), hr (420 + 7 * b + 2) (by omega) (by omega) (by omega), hr (420 + 7 * b + 4) (by omega) (by omega) (by omega), hr (420 + 7 * b + 5) (by omega) (by omega) (by omega), hr (420 + 7 * b + 6) (by omega) (by omega) (by omega)]
    exact q5 b b0 b1
  · intro b b0 b1
    rw [hr 7 (by decide) (by decide) (by decide)] at b1
    rw [hr (700 + 3 * b) (by omega) (by omega) (by omega), hr (700 + 3 * b + 1) (by omega) (by omega) (by omega), hr (700 + 3 * b + 2) (by omega) (by omega) (by omega)]
    exact q6 b b0 b1
  · intro b b0 b1
    rw [hr 8 (by decide) (by decide) (by decide)] at b1
    rw [hr (720 + 4 * b) (by omega) (by omega) (by omega), hr (720 + 4 * b + 1) (by omega) (by omega) (by omega), hr (720 + 4 * b + 2) (by omega) (by omega) (by omega), hr (720 + 4 * b + 3) (by omega) (by omega) (by omega)]
    exact q7 b b0 b1
  · intro b b0 b1
    rw [hr 9 (by decide) (by decide) (by decide)] at b1
    rw [hr (770 + 4 * b) (by omega) (by omega) (by omega), hr (770 + 4 * b + 1) (by omega) (by omega) (by omega), hr (770 + 4 * b + 2) (by omega) (by omega) (by omega), hr (770 + 4 * b + 3) (by omega) (by omega) (by omega)]
    exact q8 b b0 b1
  · intro k k0 k1
    rw [hr (810 + k) (by omega) (by omega) (by omega)]
    exact q9 k k0 k1
  · intro k k0 k1
    rw [hr (870 + k) (by omega) (by omega) (by omega)]
    exact q10 k k0 k1
  · rw [hr 10 (by decide) (by decide) (by decide), hr 11 (by decide) (by decide) (by decide), hr 12 (by decide) (by decide) (by decide)]
    exact q11

theorem RowOk.upd_sights {r r2 : Int → Int} (hr : ∀ i : Int, 0 ≤ i → i < 1800 → ¬ (i = 5 ∨ (420 ≤ i ∧ i < 700)) → r2 i = r i) (hb : 0 ≤ r 0 ∧ r 0 ≤ 12 ∧ r 1 ≤ 12 ∧ r 3 ≤ 12 ∧ r 4 ≤ 20 ∧ r 5 ≤ 40 ∧ r 7 ≤ 6 ∧ r 8 ≤ 12 ∧ r 9 ≤ 10) (h : RowOk r) (hnew : (∀ b, 0 ≤ b → b < r2 5 → (0 ≤ r2 (420 + 7 * b) ∧ r2 (420 + 7 * b) ≤ 59) ∧ (0 ≤ r2 (420 + 7 * b + 1) ∧ r2 (420 + 7 * b + 1) ≤ 1439) ∧ (0 ≤ r2 (420 + 7 * b + 2) ∧ r2 (420 + 7 * b + 2) ≤ 23) ∧ (0 ≤ r2 (420 + 7 * b + 4) ∧ r2 (420 + 7 * b + 4) ≤ 9) ∧ (1 ≤ r2 (420 + 7 * b + 5) ∧ r2 (420 + 7 * b + 5) ≤ 200) ∧ 0 ≤ r2 (420 + 7 * b + 6) ∧ r2 (420 + 7 * b + 6) ≤ 59)) : RowOk r2 := by
  obtain ⟨q0, q1, q2, q3, q4, q5, q6, q7, q8, q9, q10, q11⟩ := h
  refine ⟨?_, ?_, ?_, ?_, ?_, hnew, ?_, ?_, ?_, ?_, ?_, ?_⟩
  · intro k k0 k1
    rw [hr (20 + k) (by omega) (by omega) (by omega)]
    exact q0 k k0 k1
  · intro b b0 b1
    rw [hr 0 (by decide) (by decide) (by decide)] at b1
    rw [hr (200 + 4 * b + 1) (by omega) (by omega) (by omega), hr (200 + 4 * b + 2) (by omega) (by omega) (by omega), hr (200 + 4 * b + 3) (by omega) (by omega) (by omega)]
    exact q1 b b0 b1
  · intro b b0 b1
    rw [hr 1 (by decide) (by decide) (by decide)] at b1
    rw [hr (250 + 4 * b + 1) (by omega) (by omega) (by omega)]
    exact q2 b b0 b1
  · intro b b0 b1
    rw [hr 3 (by decide) (by decide) (by decide)] at b1
    rw [hr (330 + b) (by omega) (by omega) (by omega)]
    exact q3 b b0 b1
  · intro b b0 b1
    rw [hr 4 (by decide) (by decide) (by decide)] at b1
    rw [hr (350 + 3 * b + 1) (by omega) (by omega) (by omega), hr (350 + 3 * b + 2) (by omega) (by omega) (by omega)]
    exact q4 b b0 b1
  · intro b b0 b1
    rw [hr 7 (by decide) (by decide) (by decide)] at b1
    rw [hr (700 + 3 * b) (by omega) (by omega) (by omega), hr (700 + 3 * b + 1) (by omega) (by omega) (by omega), hr (700 + 3 * b + 2) (by omega) (by omega) (by omega)]
    exact q6 b b0 b1
  · intro b b0 b1
    rw [hr 8 (by decide) (by decide) (by decide)] at b1
    rw [hr (720 + 4 * b) (by omega) (by omega) (by omega), hr (720 + 4 * b + 1) (by omega) (by omega) (by omega), hr (720 + 4 * b + 2) (by omega) (by omega) (by omega), hr (720 + 4 * b + 3) (by omega) (by omega) (by omega)]
    exact q7 b b0 b1
  · intro b b0 b1
    rw [hr 9 (by decide) (by decide) (by decide)] at b1
    rw [hr (770 + 4 * b) (by omega) (by omega) (by omega), hr (770 + 4 * b + 1) (by omega) (by omega) (by omega), hr (770 + 4 * b + 2) (by omega) (by omega) (by omega), hr (770 + 4 * b + 3) (by omega) (by omega) (by omega)]
    exact q8 b b0 b1
  · intro k k0 k1
    rw [hr (810 + k) (by omega) (by omega) (by omega)]
    exact q9 k k0 k1
  · intro k k0 k1
    rw [hr (870 + k) (by omega) (by omega) (by omega)]
    exact q10 k k0 k1
  · rw [hr 10 (by decide) (by decide) (by decide), hr 11 (by decide) (by decide) (by decide), hr 12 (by decide) (by decide) (by decide)]
    exact q11

theorem RowOk.upd_law {r r2 : Int → Int} (hr : ∀ i : Int, 0 ≤ i → i < 1800 → ¬ 901 ≤ i → r2 i = r i) (hb : 0 ≤ r 0 ∧ r 0 ≤ 12 ∧ r 1 ≤ 12 ∧ r 3 ≤ 12 ∧ r 4 ≤ 20 ∧ r 5 ≤ 40 ∧ r 7 ≤ 6 ∧ r 8 ≤ 12 ∧ r 9 ≤ 10) (h : RowOk r) : RowOk r2 := by
  obtain ⟨q0, q1, q2, q3, q4, q5, q6, q7, q8, q9, q10, q11⟩ := h
  refine ⟨?_, ?_, ?_, ?_, ?_, ?_, ?_, ?_, ?_, ?_, ?_, ?_⟩
  · intro k k0 k1
    rw [hr (20 + k) (by omega) (by omega) (by omega)]
    exact q0 k k0 k1
  · intro b b0 b1
    rw [hr 0 (by decide) (by decide) (by decide)] at b1
    rw [hr (200 + 4 * b + 1) (by omega) (by omega) (by omega), hr (200 + 4 * b + 2) (by omega) (by omega) (by omega), hr (200 + 4 * b + 3) (by omega) (by omega) (by omega)]
    exact q1 b b0 b1
  · intro b b0 b1
    rw [hr 1 (by decide) (by decide) (by decide)] at b1
    rw [hr (250 + 4 * b + 1) (by omega) (by omega) (by omega)]
    exact q2 b b0 b1
  · intro b b0 b1
    rw [hr 3 (by decide) (by decide) (by decide)] at b1
    rw [hr (330 + b) (by omega) (by omega) (by omega)]
    exact q3 b b0 b1
  · intro b b0 b1
    rw [hr 4 (by decide) (by decide) (by decide)] at b1
    rw [hr (350 + 3 * b + 1) (by omega) (by omega) (by omega), hr (350 + 3 * b + 2) (by omega) (by omega) (by omega)]
    exact q4 b b0 b1
  · intro b b0 b1
    rw [hr 5 (by decide) (by decide) (by decide)] at b1
    rw [hr (420 + 7 * b) (by omega) (by omega) (by omega), hr (420 + 7 * b + 1) (by omega) (by omega) (by omega), hr (420 + 7 * b + 2) (by omega) (by omega) (by omega), hr (420 + 7 * b + 4) (by omega) (by omega) (by omega), hr (420 + 7 * b + 5) (by omega) (by omega) (by omega), hr (420 + 7 * b + 6) (by omega) (by omega) (by omega)]
    exact q5 b b0 b1
  · intro b b0 b1
    rw [hr 7 (by decide) (by decide) (by decide)] at b1
    rw [hr (700 + 3 * b) (by omega) (by omega) (by omega), hr (700 + 3 * b + 1) (by omega) (by omega) (by omega), hr (700 + 3 * b + 2) (by omega) (by omega) (by omega)]
    exact q6 b b0 b1
  · intro b b0 b1
    rw [hr 8 (by decide) (by decide) (by decide)] at b1
    rw [hr (720 + 4 * b) (by omega) (by omega) (by omega), hr (720 + 4 * b + 1) (by omega) (by omega) (by omega), hr (720 + 4 * b + 2) (by omega) (by omega) (by omega), hr (720 + 4 * b + 3) (by omega) (by omega) (by omega)]
    exact q7 b b0 b1
  · intro b b0 b1
    rw [hr 9 (by decide) (by decide) (by decide)] at b1
    rw [hr (770 + 4 * b) (by omega) (by omega) (by omega), hr (770 + 4 * b + 1) (by omega) (by omega) (by omega), hr (770 + 4 * b + 2) (by omega) (by omega) (by omega), hr (770 + 4 * b + 3) (by omega) (by omega) (by omega)]
    exact q8 b b0 b1
  · intro k k0 k1
    rw [hr (810 + k) (by omega) (by omega) (by omega)]
    exact q9 k k0 k1
  · intro k k0 k1
    rw [hr (870 + k) (by omega) (by omega) (by omega)]
    exact q10 k k0 k1
  · rw [hr 10 (by decide) (by decide) (by decide), hr 11 (by decide) (by decide) (by decide), hr 12 (by decide) (by decide) (by decide)]
    exact q11

theorem RowOk.upd_stories {r r2 : Int → Int} (hr : ∀ i : Int, 0 ≤ i → i < 1800 → ¬ (i = 7 ∨ (700 ≤ i ∧ i < 718)) → r2 i = r i) (hb : 0 ≤ r 0 ∧ r 0 ≤ 12 ∧ r 1 ≤ 12 ∧ r 3 ≤ 12 ∧ r 4 ≤ 20 ∧ r 5 ≤ 40 ∧ r 7 ≤ 6 ∧ r 8 ≤ 12 ∧ r 9 ≤ 10) (h : RowOk r) (hnew : (∀ b, 0 ≤ b → b < r2 7 → (0 ≤ r2 (700 + 3 * b) ∧ r2 (700 + 3 * b) ≤ 100) ∧ (0 ≤ r2 (700 + 3 * b + 1) ∧ r2 (700 + 3 * b + 1) ≤ 20) ∧ 1 ≤ r2 (700 + 3 * b + 2) ∧ r2 (700 + 3 * b + 2) ≤ 60)) : RowOk r2 := by
  obtain ⟨q0, q1, q2, q3, q4, q5, q6, q7, q8, q9, q10, q11⟩ := h
  refine ⟨?_, ?_, ?_, ?_, ?_, ?_, hnew, ?_, ?_, ?_, ?_, ?_⟩
  · intro k k0 k1
    rw [hr (20 + k) (by omega) (by omega) (by omega)]
    exact q0 k k0 k1
  · intro b b0 b1
    rw [hr 0 (by decide) (by decide) (by decide)] at b1
    rw [hr (200 + 4 * b + 1) (by omega) (by omega) (by omega), hr (200 + 4 * b + 2) (by omega) (by omega) (by omega), hr (200 + 4 * b + 3) (by omega) (by omega) (by omega)]
    exact q1 b b0 b1
  · intro b b0 b1
    rw [hr 1 (by decide) (by decide) (by decide)] at b1
    rw [hr (250 + 4 * b + 1) (by omega) (by omega) (by omega)]
    exact q2 b b0 b1
  · intro b b0 b1
    rw [hr 3 (by decide) (by decide) (by decide)] at b1
    rw [hr (330 + b) (by omega) (by omega) (by omega)]
    exact q3 b b0 b1
  · intro b b0 b1
    rw [hr 4 (by decide) (by decide) (by decide)] at b1
    rw [hr (350 + 3 * b + 1) (by omega) (by omega) (by omega), hr (350 + 3 * b + 2) (by omega) (by omega) (by omega)]
    exact q4 b b0 b1
  · intro b b0 b1
    rw [hr 5 (by decide) (by decide) (by decide)] at b1
    rw [hr (420 + 7 * b) (by omega) (by omega) (by omega), hr (420 + 7 * b + 1) (by omega) (by omega) (by omega), hr (420 + 7 * b + 2) (by omega) (by omega) (by omega), hr (420 + 7 * b + 4) (by omega) (by omega) (by omega), hr (420 + 7 * b + 5) (by omega) (by omega) (by omega), hr (420 + 7 * b + 6) (by omega) (by omega) (by omega)]
    exact q5 b b0 b1
  · intro b b0 b1
    rw [hr 8 (by decide) (by decide) (by decide)] at b1
    rw [hr (720 + 4 * b) (by omega) (by omega) (by omega), hr (720 + 4 * b + 1) (by omega) (by omega) (by omega), hr (720 + 4 * b + 2) (by omega) (by omega) (by omega), hr (720 + 4 * b + 3) (by omega) (by omega) (by omega)]
    exact q7 b b0 b1
  · intro b b0 b1
    rw [hr 9 (by decide) (by decide) (by decide)] at b1
    rw [hr (770 + 4 * b) (by omega) (by omega) (by omega), hr (770 + 4 * b + 1) (by omega) (by omega) (by omega), hr (770 + 4 * b + 2) (by omega) (by omega) (by omega), hr (770 + 4 * b + 3) (by omega) (by omega) (by omega)]
    exact q8 b b0 b1
  · intro k k0 k1
    rw [hr (810 + k) (by omega) (by omega) (by omega)]
    exact q9 k k0 k1
  · intro k k0 k1
    rw [hr (870 + k) (by omega) (by omega) (by omega)]
    exact q10 k k0 k1
  · rw [hr 10 (by decide) (by decide) (by decide), hr 11 (by decide) (by decide) (by decide), hr 12 (by decide) (by decide) (by decide)]
    exact q11

theorem RowOk.upd_sweeps {r r2 : Int → Int} (hr : ∀ i : Int, 0 ≤ i → i < 1800 → ¬ (i = 8 ∨ (720 ≤ i ∧ i < 768)) → r2 i = r i) (hb : 0 ≤ r 0 ∧ r 0 ≤ 12 ∧ r 1 ≤ 12 ∧ r 3 ≤ 12 ∧ r 4 ≤ 20 ∧ r 5 ≤ 40 ∧ r 7 ≤ 6 ∧ r 8 ≤ 12 ∧ r 9 ≤ 10) (h : RowOk r) (hnew : (∀ b, 0 ≤ b → b < r2 8 → (0 ≤ r2 (720 + 4 * b) ∧ r2 (720 + 4 * b) ≤ 100) ∧ (1 ≤ r2 (720 + 4 * b + 1) ∧ r2 (720 + 4 * b + 1) ≤ 60) ∧ (0 ≤ r2 (720 + 4 * b + 2) ∧ r2 (720 + 4 * b + 2) ≤ 99) ∧ 0 ≤ r2 (720 + 4 * b + 3) ∧ r2 (720 + 4 * b + 3) ≤ 1)) : RowOk r2 := by
  obtain ⟨q0, q1, q2, q3, q4, q5, q6, q7, q8, q9, q10, q11⟩ := h
  refine ⟨?_, ?_, ?_, ?_, ?_, ?_, ?_, hnew, ?_, ?_, ?_, ?_⟩
  · intro k k0 k1
    rw [hr (20 + k) (by omega) (by omega) (by omega)]
    exact q0 k k0 k1
  · intro b b0 b1
    rw [hr 0 (by decide) (by decide) (by decide)] at b1
    rw [hr (200 + 4 * b + 1) (by omega) (by omega) (by omega), hr (200 + 4 * b + 2) (by omega) (by omega) (by omega), hr (200 + 4 * b + 3) (by omega) (by omega) (by omega)]
    exact q1 b b0 b1
  · intro b b0 b1
    rw [hr 1 (by decide) (by decide) (by decide)] at b1
    rw [hr (250 + 4 * b + 1) (by omega) (by omega) (by omega)]
    exact q2 b b0 b1
  · intro b b0 b1
    rw [hr 3 (by decide) (by decide) (by decide)] at b1
    rw [hr (330 + b) (by omega) (by omega) (by omega)]
    exact q3 b b0 b1
  · intro b b0 b1
    rw [hr 4 (by decide) (by decide) (by decide)] at b1
    rw [hr (350 + 3 * b + 1) (by omega) (by omega) (by omega), hr (350 + 3 * b + 2) (by omega) (by omega) (by omega)]
    exact q4 b b0 b1
  · intro b b0 b1
    rw [hr 5 (by decide) (by decide) (by decide)] at b1
    rw [hr (420 + 7 * b) (by omega) (by omega) (by omega), hr (420 + 7 * b + 1) (by omega) (by omega) (by omega), hr (420 + 7 * b + 2) (by omega) (by omega) (by omega), hr (420 + 7 * b + 4) (by omega) (by omega) (by omega), hr (420 + 7 * b + 5) (by omega) (by omega) (by omega), hr (420 + 7 * b + 6) (by omega) (by omega) (by omega)]
    exact q5 b b0 b1
  · intro b b0 b1
    rw [hr 7 (by decide) (by decide) (by decide)] at b1
    rw [hr (700 + 3 * b) (by omega) (by omega) (by omega), hr (700 + 3 * b + 1) (by omega) (by omega) (by omega), hr (700 + 3 * b + 2) (by omega) (by omega) (by omega)]
    exact q6 b b0 b1
  · intro b b0 b1
    rw [hr 9 (by decide) (by decide) (by decide)] at b1
    rw [hr (770 + 4 * b) (by omega) (by omega) (by omega), hr (770 + 4 * b + 1) (by omega) (by omega) (by omega), hr (770 + 4 * b + 2) (by omega) (by omega) (by omega), hr (770 + 4 * b + 3) (by omega) (by omega) (by omega)]
    exact q8 b b0 b1
  · intro k k0 k1
    rw [hr (810 + k) (by omega) (by omega) (by omega)]
    exact q9 k k0 k1
  · intro k k0 k1
    rw [hr (870 + k) (by omega) (by omega) (by omega)]
    exact q10 k k0 k1
  · rw [hr 10 (by decide) (by decide) (by decide), hr 11 (by decide) (by decide) (by decide), hr 12 (by decide) (by decide) (by decide)]
    exact q11

theorem RowOk.upd_offers {r r2 : Int → Int} (hr : ∀ i : Int, 0 ≤ i → i < 1800 → ¬ (i = 9 ∨ (770 ≤ i ∧ i < 810)) → r2 i = r i) (hb : 0 ≤ r 0 ∧ r 0 ≤ 12 ∧ r 1 ≤ 12 ∧ r 3 ≤ 12 ∧ r 4 ≤ 20 ∧ r 5 ≤ 40 ∧ r 7 ≤ 6 ∧ r 8 ≤ 12 ∧ r 9 ≤ 10) (h : RowOk r) (hnew : (∀ b, 0 ≤ b → b < r2 9 → (0 ≤ r2 (770 + 4 * b) ∧ r2 (770 + 4 * b) ≤ 100) ∧ (1 ≤ r2 (770 + 4 * b + 1) ∧ r2 (770 + 4 * b + 1) ≤ 60) ∧ (0 ≤ r2 (770 + 4 * b + 2) ∧ r2 (770 + 4 * b + 2) ≤ 99) ∧ 1 ≤ r2 (770 + 4 * b + 3) ∧ r2 (770 + 4 * b + 3) ≤ 100)) : RowOk r2 := by
  obtain ⟨q0, q1, q2, q3, q4, q5, q6, q7, q8, q9, q10, q11⟩ := h
  refine ⟨?_, ?_, ?_, ?_, ?_, ?_, ?_, ?_, hnew, ?_, ?_, ?_⟩
  · intro k k0 k1
    rw [hr (20 + k) (by omega) (by omega) (by omega)]
    exact q0 k k0 k1
  · intro b b0 b1
    rw [hr 0 (by decide) (by decide) (by decide)] at b1
    rw [hr (200 + 4 * b + 1) (by omega) (by omega) (by omega), hr (200 + 4 * b + 2) (by omega) (by omega) (by omega), hr (200 + 4 * b + 3) (by omega) (by omega) (by omega)]
    exact q1 b b0 b1
  · intro b b0 b1
    rw [hr 1 (by decide) (by decide) (by decide)] at b1
    rw [hr (250 + 4 * b + 1) (by omega) (by omega) (by omega)]
    exact q2 b b0 b1
  · intro b b0 b1
    rw [hr 3 (by decide) (by decide) (by decide)] at b1
    rw [hr (330 + b) (by omega) (by omega) (by omega)]
    exact q3 b b0 b1
  · intro b b0 b1
    rw [hr 4 (by decide) (by decide) (by decide)] at b1
    rw [hr (350 + 3 * b + 1) (by omega) (by omega) (by omega), hr (350 + 3 * b + 2) (by omega) (by omega) (by omega)]
    exact q4 b b0 b1
  · intro b b0 b1
    rw [hr 5 (by decide) (by decide) (by decide)] at b1
    rw [hr (420 + 7 * b) (by omega) (by omega) (by omega), hr (420 + 7 * b + 1) (by omega) (by omega) (by omega), hr (420 + 7 * b + 2) (by omega) (by omega) (by omega), hr (420 + 7 * b + 4) (by omega) (by omega) (by omega), hr (420 + 7 * b + 5) (by omega) (by omega) (by omega), hr (420 + 7 * b + 6) (by omega) (by omega) (by omega)]
    exact q5 b b0 b1
  · intro b b0 b1
    rw [hr 7 (by decide) (by decide) (by decide)] at b1
    rw [hr (700 + 3 * b) (by omega) (by omega) (by omega), hr (700 + 3 * b + 1) (by omega) (by omega) (by omega), hr (700 + 3 * b + 2) (by omega) (by omega) (by omega)]
    exact q6 b b0 b1
  · intro b b0 b1
    rw [hr 8 (by decide) (by decide) (by decide)] at b1
    rw [hr (720 + 4 * b) (by omega) (by omega) (by omega), hr (720 + 4 * b + 1) (by omega) (by omega) (by omega), hr (720 + 4 * b + 2) (by omega) (by omega) (by omega), hr (720 + 4 * b + 3) (by omega) (by omega) (by omega)]
    exact q7 b b0 b1
  · intro k k0 k1
    rw [hr (810 + k) (by omega) (by omega) (by omega)]
    exact q9 k k0 k1
  · intro k k0 k1
    rw [hr (870 + k) (by omega) (by omega) (by omega)]
    exact q10 k k0 k1
  · rw [hr 10 (by decide) (by decide) (by decide), hr 11 (by decide) (by decide) (by decide), hr 12 (by decide) (by decide) (by decide)]
    exact q11

theorem RowOk.upd_years {r r2 : Int → Int} (hr : ∀ i : Int, 0 ≤ i → i < 1800 → ¬ (810 ≤ i ∧ i < 870) → r2 i = r i) (hb : 0 ≤ r 0 ∧ r 0 ≤ 12 ∧ r 1 ≤ 12 ∧ r 3 ≤ 12 ∧ r 4 ≤ 20 ∧ r 5 ≤ 40 ∧ r 7 ≤ 6 ∧ r 8 ≤ 12 ∧ r 9 ≤ 10) (h : RowOk r) (hnew : (∀ k, 0 ≤ k → k < 60 → 0 ≤ r2 (810 + k) ∧ r2 (810 + k) ≤ 1000)) : RowOk r2 := by
  obtain ⟨q0, q1, q2, q3, q4, q5, q6, q7, q8, q9, q10, q11⟩ := h
  refine ⟨?_, ?_, ?_, ?_, ?_, ?_, ?_, ?_, ?_, hnew, ?_, ?_⟩
  · intro k k0 k1
    rw [hr (20 + k) (by omega) (by omega) (by omega)]
    exact q0 k k0 k1
  · intro b b0 b1
    rw [hr 0 (by decide) (by decide) (by decide)] at b1
    rw [hr (200 + 4 * b + 1) (by omega) (by omega) (by omega), hr (200 + 4 * b + 2) (by omega) (by omega) (by omega), hr (200 + 4 * b + 3) (by omega) (by omega) (by omega)]
    exact q1 b b0 b1
  · intro b b0 b1
    rw [hr 1 (by decide) (by decide) (by decide)] at b1
    rw [hr (250 + 4 * b + 1) (by omega) (by omega) (by omega)]
    exact q2 b b0 b1
  · intro b b0 b1
    rw [hr 3 (by decide) (by decide) (by decide)] at b1
    rw [hr (330 + b) (by omega) (by omega) (by omega)]
    exact q3 b b0 b1
  · intro b b0 b1
    rw [hr 4 (by decide) (by decide) (by decide)] at b1
    rw [hr (350 + 3 * b + 1) (by omega) (by omega) (by omega), hr (350 + 3 * b + 2) (by omega) (by omega) (by omega)]
    exact q4 b b0 b1
  · intro b b0 b1
    rw [hr 5 (by decide) (by decide) (by decide)] at b1
    rw [hr (420 + 7 * b) (by omega) (by omega) (by omega), hr (420 + 7 * b + 1) (by omega) (by omega) (by omega), hr (420 + 7 * b + 2) (by omega) (by omega) (by omega), hr (420 + 7 * b + 4) (by omega) (by omega) (by omega), hr (420 + 7 * b + 5) (by omega) (by omega) (by omega), hr (420 + 7 * b + 6) (by omega) (by omega) (by omega)]
    exact q5 b b0 b1
  · intro b b0 b1
    rw [hr 7 (by decide) (by decide) (by decide)] at b1
    rw [hr (700 + 3 * b) (by omega) (by omega) (by omega), hr (700 + 3 * b + 1) (by omega) (by omega) (by omega), hr (700 + 3 * b + 2) (by omega) (by omega) (by omega)]
    exact q6 b b0 b1
  · intro b b0 b1
    rw [hr 8 (by decide) (by decide) (by decide)] at b1
    rw [hr (720 + 4 * b) (by omega) (by omega) (by omega), hr (720 + 4 * b + 1) (by omega) (by omega) (by omega), hr (720 + 4 * b + 2) (by omega) (by omega) (by omega), hr (720 + 4 * b + 3) (by omega) (by omega) (by omega)]
    exact q7 b b0 b1
  · intro b b0 b1
    rw [hr 9 (by decide) (by decide) (by decide)] at b1
    rw [hr (770 + 4 * b) (by omega) (by omega) (by omega), hr (770 + 4 * b + 1) (by omega) (by omega) (by omega), hr (770 + 4 * b + 2) (by omega) (by omega) (by omega), hr (770 + 4 * b + 3) (by omega) (by omega) (by omega)]
    exact q8 b b0 b1
  · intro k k0 k1
    rw [hr (870 + k) (by omega) (by omega) (by omega)]
    exact q10 k k0 k1
  · rw [hr 10 (by decide) (by decide) (by decide), hr 11 (by decide) (by decide) (by decide), hr 12 (by decide) (by decide) (by decide)]
    exact q11

theorem RowOk.upd_ripples {r r2 : Int → Int} (hr : ∀ i : Int, 0 ≤ i → i < 1800 → ¬ (870 ≤ i ∧ i < 890) → r2 i = r i) (hb : 0 ≤ r 0 ∧ r 0 ≤ 12 ∧ r 1 ≤ 12 ∧ r 3 ≤ 12 ∧ r 4 ≤ 20 ∧ r 5 ≤ 40 ∧ r 7 ≤ 6 ∧ r 8 ≤ 12 ∧ r 9 ≤ 10) (h : RowOk r) (hnew : (∀ k, 0 ≤ k → k < 20 → 1 ≤ r2 (870 + k) ∧ r2 (870 + k) ≤ 99)) : RowOk r2 := by
  obtain ⟨q0, q1, q2, q3, q4, q5, q6, q7, q8, q9, q10, q11⟩ := h
  refine ⟨?_, ?_, ?_, ?_, ?_, ?_, ?_, ?_, ?_, ?_, hnew, ?_⟩
  · intro k k0 k1
    rw [hr (20 + k) (by omega) (by omega) (by omega)]
    exact q0 k k0 k1
  · intro b b0 b1
    rw [hr 0 (by decide) (by decide) (by decide)] at b1
    rw [hr (200 + 4 * b + 1) (by omega) (by omega) (by omega), hr (200 + 4 * b + 2) (by omega) (by omega) (by omega), hr (200 + 4 * b + 3) (by omega) (by omega) (by omega)]
    exact q1 b b0 b1
  · intro b b0 b1
    rw [hr 1 (by decide) (by decide) (by decide)] at b1
    rw [hr (250 + 4 * b + 1) (by omega) (by omega) (by omega)]
    exact q2 b b0 b1
  · intro b b0 b1
    rw [hr 3 (by decide) (by decide) (by decide)] at b1
    rw [hr (330 + b) (by omega) (by omega) (by omega)]
    exact q3 b b0 b1
  · intro b b0 b1
    rw [hr 4 (by decide) (by decide) (by decide)] at b1
    rw [hr (350 + 3 * b + 1) (by omega) (by omega) (by omega), hr (350 + 3 * b + 2) (by omega) (by omega) (by omega)]
    exact q4 b b0 b1
  · intro b b0 b1
    rw [hr 5 (by decide) (by decide) (by decide)] at b1
    rw [hr (420 + 7 * b) (by omega) (by omega) (by omega), hr (420 + 7 * b + 1) (by omega) (by omega) (by omega), hr (420 + 7 * b + 2) (by omega) (by omega) (by omega), hr (420 + 7 * b + 4) (by omega) (by omega) (by omega), hr (420 + 7 * b + 5) (by omega) (by omega) (by omega), hr (420 + 7 * b + 6) (by omega) (by omega) (by omega)]
    exact q5 b b0 b1
  · intro b b0 b1
    rw [hr 7 (by decide) (by decide) (by decide)] at b1
    rw [hr (700 + 3 * b) (by omega) (by omega) (by omega), hr (700 + 3 * b + 1) (by omega) (by omega) (by omega), hr (700 + 3 * b + 2) (by omega) (by omega) (by omega)]
    exact q6 b b0 b1
  · intro b b0 b1
    rw [hr 8 (by decide) (by decide) (by decide)] at b1
    rw [hr (720 + 4 * b) (by omega) (by omega) (by omega), hr (720 + 4 * b + 1) (by omega) (by omega) (by omega), hr (720 + 4 * b + 2) (by omega) (by omega) (by omega), hr (720 + 4 * b + 3) (by omega) (by omega) (by omega)]
    exact q7 b b0 b1
  · intro b b0 b1
    rw [hr 9 (by decide) (by decide) (by decide)] at b1
    rw [hr (770 + 4 * b) (by omega) (by omega) (by omega), hr (770 + 4 * b + 1) (by omega) (by omega) (by omega), hr (770 + 4 * b + 2) (by omega) (by omega) (by omega), hr (770 + 4 * b + 3) (by omega) (by omega) (by omega)]
    exact q8 b b0 b1
  · intro k k0 k1
    rw [hr (810 + k) (by omega) (by omega) (by omega)]
    exact q9 k k0 k1
  · rw [hr 10 (by decide) (by decide) (by decide), hr 11 (by decide) (by decide) (by decide), hr 12 (by decide) (by decide) (by decide)]
    exact q11

theorem RowOk.upd_kin {r r2 : Int → Int} (hr : ∀ i : Int, 0 ≤ i → i < 1800 → ¬ (10 ≤ i ∧ i < 13) → r2 i = r i) (hb : 0 ≤ r 0 ∧ r 0 ≤ 12 ∧ r 1 ≤ 12 ∧ r 3 ≤ 12 ∧ r 4 ≤ 20 ∧ r 5 ≤ 40 ∧ r 7 ≤ 6 ∧ r 8 ≤ 12 ∧ r 9 ≤ 10) (h : RowOk r) (hnew : ((0 ≤ r2 10 ∧ r2 10 ≤ 50) ∧ (0 ≤ r2 11 ∧ r2 11 ≤ 10000) ∧ 1 ≤ r2 12 ∧ r2 12 ≤ 100)) : RowOk r2 := by
  obtain ⟨q0, q1, q2, q3, q4, q5, q6, q7, q8, q9, q10, q11⟩ := h
  refine ⟨?_, ?_, ?_, ?_, ?_, ?_, ?_, ?_, ?_, ?_, ?_, hnew⟩
  · intro k k0 k1
    rw [hr (20 + k) (by omega) (by omega) (by omega)]
    exact q0 k k0 k1
  · intro b b0 b1
    rw [hr 0 (by decide) (by decide) (by decide)] at b1
    rw [hr (200 + 4 * b + 1) (by omega) (by omega) (by omega), hr (200 + 4 * b + 2) (by omega) (by omega) (by omega), hr (200 + 4 * b + 3) (by omega) (by omega) (by omega)]
    exact q1 b b0 b1
  · intro b b0 b1
    rw [hr 1 (by decide) (by decide) (by decide)] at b1
    rw [hr (250 + 4 * b + 1) (by omega) (by omega) (by omega)]
    exact q2 b b0 b1
  · intro b b0 b1
    rw [hr 3 (by decide) (by decide) (by decide)] at b1
    rw [hr (330 + b) (by omega) (by omega) (by omega)]
    exact q3 b b0 b1
  · intro b b0 b1
    rw [hr 4 (by decide) (by decide) (by decide)] at b1
    rw [hr (350 + 3 * b + 1) (by omega) (by omega) (by omega), hr (350 + 3 * b + 2) (by omega) (by omega) (by omega)]
    exact q4 b b0 b1
  · intro b b0 b1
    rw [hr 5 (by decide) (by decide) (by decide)] at b1
    rw [hr (420 + 7 * b) (by omega) (by omega) (by omega), hr (420 + 7 * b + 1) (by omega) (by omega) (by omega), hr (420 + 7 * b + 2) (by omega) (by omega) (by omega), hr (420 + 7 * b + 4) (by omega) (by omega) (by omega), hr (420 + 7 * b + 5) (by omega) (by omega) (by omega), hr (420 + 7 * b + 6) (by omega) (by omega) (by omega)]
    exact q5 b b0 b1
  · intro b b0 b1
    rw [hr 7 (by decide) (by decide) (by decide)] at b1
    rw [hr (700 + 3 * b) (by omega) (by omega) (by omega), hr (700 + 3 * b + 1) (by omega) (by omega) (by omega), hr (700 + 3 * b + 2) (by omega) (by omega) (by omega)]
    exact q6 b b0 b1
  · intro b b0 b1
    rw [hr 8 (by decide) (by decide) (by decide)] at b1
    rw [hr (720 + 4 * b) (by omega) (by omega) (by omega), hr (720 + 4 * b + 1) (by omega) (by omega) (by omega), hr (720 + 4 * b + 2) (by omega) (by omega) (by omega), hr (720 + 4 * b + 3) (by omega) (by omega) (by omega)]
    exact q7 b b0 b1
  · intro b b0 b1
    rw [hr 9 (by decide) (by decide) (by decide)] at b1
    rw [hr (770 + 4 * b) (by omega) (by omega) (by omega), hr (770 + 4 * b + 1) (by omega) (by omega) (by omega), hr (770 + 4 * b + 2) (by omega) (by omega) (by omega), hr (770 + 4 * b + 3) (by omega) (by omega) (by omega)]
    exact q8 b b0 b1
  · intro k k0 k1
    rw [hr (810 + k) (by omega) (by omega) (by omega)]
    exact q9 k k0 k1
  · intro k k0 k1
    rw [hr (870 + k) (by omega) (by omega) (by omega)]
    exact q10 k k0 k1
