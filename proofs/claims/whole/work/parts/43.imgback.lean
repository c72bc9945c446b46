section IMGBACK
variable {w : WD} {d : Nat} {n : NM}
theorem LakeRel.few {a : Nat} {r : Int → Int} (h : LakeRel n a r) : 0 ≤ r 0 ∧ r 0 ≤ 12 ∧ r 1 ≤ 12 ∧ r 3 ≤ 12 ∧ r 4 ≤ 20 ∧ r 5 ≤ 40 ∧ r 7 ≤ 6 ∧ r 8 ≤ 12 ∧ r 9 ≤ 10 := by
  obtain ⟨_, p1, p2, p3, p4, p5, p6, _, p8, p9, p10, _⟩ := h
  have q : ∀ {t : Nat} {W R cnt base : Int} {r : Int → Int}, TR n t W R cnt base r → 0 ≤ r cnt ∧ r cnt ≤ R := fun h => by
    rw [← h.2.1]
    exact h.1.2.2
  exact ⟨(q p1).1, (q p1).2, (q p2).2, (q p4).2, (q p5).2, (q p6).2, (q p8).2, (q p9).2, (q p10).2⟩
theorem ImgRel.congr2 {n2 : NM} {a : Nat} {k : Int} (hn : ∀ t : Nat, a < t → t < a + 32 → n2 t = n t) (h1 : n2 34 k = n 34 k) (h3 : n2 149 k = n 149 k) (h2 : ∀ i : Int, 0 ≤ i → i < 1800 → imR n2 k i = imR n k i) (h : ImgRel n a k) : ImgRel n2 a k := by
  obtain ⟨p0, p1, p2⟩ := h
  refine ⟨p0.congr hn, by rw [h1, h3]; exact p1, ?_⟩
  rw [h3]
  rcases p2 with p2 | ⟨q0, q1, q2⟩
  · exact Or.inl p2
  · exact Or.inr ⟨q0, q1.congr hn h2, q2.congr h2 q1.few⟩
theorem imgA_c {x : Int} (x0 : 0 ≤ x) (x1 : x < 2) : (x = 0 ∧ imgA x = 81) ∨ (x = 1 ∧ imgA x = 113) := by
  by_cases c : x = 0
  · subst c
    exact Or.inl ⟨rfl, rfl⟩
  · have : x = 1 := by omega
    subst this
    exact Or.inr ⟨rfl, rfl⟩
theorem s_imgTo {x : Int} (x0 : 0 ≤ x) (x1 : x < 2) (h1 : LakeW n (imgA x)) (h2 : LakeW n 1) : EV w (d + 3) mX1_copyFrom [vr (imgA x), vr 1] B0 n (cpK n (imgA x) 1 32) := by
  rcases imgA_c x0 x1 with ⟨_, e⟩ | ⟨_, e⟩
  · rw [e] at h1 ⊢
    exact s_lakeCopy_81_1 h1 h2
  · rw [e] at h1 ⊢
    exact s_lakeCopy_113_1 h1 h2
theorem s_imgFrom {x : Int} (x0 : 0 ≤ x) (x1 : x < 2) (h1 : LakeW n (imgA x)) (h2 : LakeW n 1) : EV w (d + 3) mX1_copyFrom [vr 1, vr (imgA x)] B0 n (cpK n 1 (imgA x) 32) := by
  rcases imgA_c x0 x1 with ⟨_, e⟩ | ⟨_, e⟩
  · rw [e] at h1 ⊢
    exact s_lakeCopy_1_81 h2 h1
  · rw [e] at h1 ⊢
    exact s_lakeCopy_1_113 h2 h1
theorem Rel.img {k x : Int} (h : Rel k n) (x0 : 0 ≤ x) (x1 : x < 2) : ImgRel n (imgA x) x := by
  rcases imgA_c x0 x1 with ⟨c, e⟩ | ⟨c, e⟩
  · rw [e, c]
    exact h.2.2.1
  · rw [e, c]
    exact h.2.2.2.1
def bimg (n : NM) (x : Int) : NM := mimg (upn (upn (upn (cpK n (imgA x) 1 32) 34 x 1) 0 10 0) 145 0 0) x
theorem bimg_t {x : Int} {t : Nat} (h0 : t ≠ 0) (h1 : t ≠ 34) (h2 : t ≠ 145) (h3 : t ≠ 148) (h4 : t ≠ 149) : bimg n x t = cpK n (imgA x) 1 32 t := by
  unfold bimg mimg
  rw [upn_ne h2, upn_ne h4, wrow_ne h3, upn_ne h2, upn_ne h0, upn_ne h1]
theorem Rel.image {k x : Int} (h : Rel k n) (x0 : 0 ≤ x) (x1 : x < 2) : Rel k (bimg n x) := by
  have hA := imgA_c x0 x1
  have e : ∀ t : Nat, t ≠ 0 → t ≠ 34 → t ≠ 145 → t ≠ 148 → t ≠ 149 → (t ≤ imgA x ∨ imgA x + 32 ≤ t) → bimg n x t = n t := fun t a b c f g q => by
    rw [bimg_t a b c f g, cpK_out q]
  have e147 : bimg n x 147 = n 147 := e 147 (by decide) (by decide) (by decide) (by decide) (by decide) (by omega)
  have X147 : (upn (upn (upn (cpK n (imgA x) 1 32) 34 x 1) 0 10 0) 145 0 0) 147 = n 147 := by
    rw [upn_ne (by decide), upn_ne (by decide), upn_ne (by decide), cpK_out (by omega)]
  have e0 : ∀ j : Int, bimg n x 0 j = if j = 10 then 0 else n 0 j := fun j => by
    unfold bimg mimg
    rw [upn_a (by decide), upn_a (by decide), wrow_a (by decide), upn_a (by decide)]
    by_cases q : j = 10
    · rw [if_pos q, q, upn_self]
    · rw [if_neg q, upn_i q, upn_a (by decide), cpK_out (by omega)]
  have e145 : ∀ j : Int, bimg n x 145 j = if j = 1 then 0 else if j = 0 then 0 else n 145 j := fun j => by
    unfold bimg mimg
    by_cases q : j = 1
    · rw [if_pos q, q, upn_self]
    · rw [if_neg q, upn_i q, upn_a (by decide), wrow_a (by decide)]
      by_cases q2 : j = 0
      · rw [if_pos q2, q2, upn_self]
      · rw [if_neg q2, upn_i q2, upn_a (by decide), upn_a (by decide), cpK_out (by omega)]
  have e34 : ∀ j : Int, bimg n x 34 j = if j = x then 1 else n 34 j := fun j => by
    unfold bimg mimg
    rw [upn_a (by decide), upn_a (by decide), wrow_a (by decide), upn_a (by decide), upn_a (by decide)]
    by_cases q : j = x
    · rw [if_pos q, q, upn_self]
    · rw [if_neg q, upn_i q, cpK_out (by omega)]
  have e149 : ∀ j : Int, bimg n x 149 j = if j = x then 1 else n 149 j := fun j => by
    unfold bimg mimg
    rw [upn_a (by decide)]
    by_cases q : j = x
    · rw [if_pos q, q, upn_self]
    · rw [if_neg q, upn_i q, wrow_a (by decide), upn_a (by decide), upn_a (by decide), upn_a (by decide), cpK_out (by omega)]
  have e148 : ∀ j : Int, bimg n x 148 j = if 1800 * x ≤ j ∧ j < 1800 * x + 1800 then n 147 (j - 1800 * x) else n 148 j := fun j => by
    unfold bimg mimg
    rw [upn_a (by decide), upn_a (by decide), X147]
    by_cases q : 1800 * x ≤ j ∧ j < 1800 * x + 1800
    · rw [if_pos q, wrow_in q.1 q.2]
    · rw [if_neg q, wrow_out (by omega), upn_a (by decide), upn_a (by decide), upn_a (by decide), cpK_out (by omega)]
  have hI := h.img x0 x1
  have new : ImgRel (bimg n x) (imgA x) x := by
    have c := h.1.copy hI.1
    have c2 : LakeRel (bimg n x) (imgA x) (imR (bimg n x) x) := c.congr (fun t a b => bimg_t (by omega) (by omega) (by omega) (by omega) (by omega)) (fun i i0 i1 => by
      show bimg n x 148 (1800 * x + i) = _
      rw [e148, if_pos (by omega), show 1800 * x + i - 1800 * x = i by omega])
    refine ⟨c2.W, by rw [e34, e149, if_pos rfl, if_pos rfl], Or.inr ⟨by rw [e149, if_pos rfl], c2, ?_⟩⟩
    exact h.2.1.congr (fun i i0 i1 => by
      show bimg n x 148 (1800 * x + i) = _
      rw [e148, if_pos (by omega), show 1800 * x + i - 1800 * x = i by omega]) h.1.few
  have old : ∀ (a : Nat) (y : Int), (y = 0 ∧ a = 81) ∨ (y = 1 ∧ a = 113) → y ≠ x → ImgRel n a y → ImgRel (bimg n x) a y := fun a y ha hy p => by
    refine p.congr2 (fun t t0 t1 => e t (by omega) (by omega) (by omega) (by omega) (by omega) (by omega)) (by rw [e34, if_neg hy]) (by rw [e149, if_neg hy]) (fun i i0 i1 => ?_)
    show bimg n x 148 (1800 * y + i) = _
    rw [e148, if_neg (by omega)]
    rfl
  obtain ⟨p0, p1, p2, p3, p4, p5, p6, p7⟩ := h
  refine ⟨?_, ?_, ?_, ?_, p4.congr (e 35 (by decide) (by decide) (by decide) (by decide) (by decide) (by omega)) (e 36 (by decide) (by decide) (by decide) (by decide) (by decide) (by omega)) (e 150 (by decide) (by decide) (by decide) (by decide) (by decide) (by omega)) (by rw [e145]; rfl), ?_, p6.congr (e 77 (by decide) (by decide) (by decide) (by decide) (by decide) (by omega)) (e 78 (by decide) (by decide) (by decide) (by decide) (by decide) (by omega)) (e 79 (by decide) (by decide) (by decide) (by decide) (by decide) (by omega)) (e 164 (by decide) (by decide) (by decide) (by decide) (by decide) (by omega)) (by rw [e145]; rfl), p7.congr (e 45 (by decide) (by decide) (by decide) (by decide) (by decide) (by omega))⟩
  · rw [e147]
    exact p0.congr (fun t a b => e t (by omega) (by omega) (by omega) (by omega) (by omega) (by omega)) (fun _ _ _ => rfl)
  · rw [e147]
    exact p1
  · by_cases c : x = 0
    · subst c
      exact new
    · exact old 81 0 (Or.inl ⟨rfl, rfl⟩) (by omega) p2
  · by_cases c : x = 1
    · subst c
      exact new
    · exact old 113 1 (Or.inr ⟨rfl, rfl⟩) (by omega) p3
  · unfold MiscRel at *
    rw [e145, e145, e145, e0, e0, e0, e 80 (by decide) (by decide) (by decide) (by decide) (by decide) (by omega), e 146 (by decide) (by decide) (by decide) (by decide) (by decide) (by omega)]
    exact ⟨rfl, p5.2⟩
theorem st_image {k : Int} (h : Rel k n) (hk : k ≤ 900) (x : Int) : LStp w (d + 5) k n mX11_image [vi x] mX12_image [vi x] := by
  by_cases c : 0 ≤ x ∧ x ≤ 1
  · have hI := h.img c.1 (by omega)
    have cp := s_imgTo (w := w) (d := d + 1) (x := x) c.1 (by omega) hI.1 h.1.W
    have ml := fun (G : GM) => m_imageL (G := G) (w := w) (d := d + 4) (n := upn (upn (upn (cpK n (imgA x) 1 32) 34 x 1) 0 10 0) 145 0 0) c.1 (show x < 2 by omega) 1800 0 rfl
    exact ⟨0, upn (upn (cpK n (imgA x) 1 32) 34 x 1) 0 10 0, bimg n x,
      EI.of (by decide +kernel) (Nat.le_of_ble_eq_true rfl) rfl (fun _ G => gX11_image_0 (EI.use (s_within _ _ _) (ite10 (fun _ => ⟨c.1, by omega, EV.use cp ⟨c.1, by omega, EI.use (s_accept _) ⟨rfl, rfl⟩⟩⟩) (fun z => absurd c z)))),
      EI.of (by decide +kernel) (Nat.le_of_ble_eq_true rfl) rfl (fun _ G => gX12_image_0 (EI.use (m_in _ _ _) (ite10 (fun _ => by have q := ml G; rw [show ((0 : Nat) : Int) = 0 from rfl, wrow_0] at q; exact q) (fun z => absurd c z)))), (h.image c.1 (by omega)).le (by omega)⟩
  · have r := stp_ref (w := w) (d := d + 4) h hk (v := -1) (by omega)
    exact ⟨_, _, _, EI.of (by decide +kernel) (Nat.le_of_ble_eq_true rfl) rfl (fun _ G => gX11_image_0 (EI.use (s_within _ _ _) (ite10 (fun z => absurd z c) (fun _ => EI.use r.1 ⟨rfl, rfl⟩)))),
      EI.of (by decide +kernel) (Nat.le_of_ble_eq_true rfl) rfl (fun _ G => gX12_image_0 (EI.use (m_in _ _ _) (ite10 (fun z => absurd z c) (fun _ => EI.use r.2.1 ⟨rfl, rfl⟩)))), r.2.2⟩
def bbck (n : NM) (x : Int) : NM := mbck (upn (upn (cpK n 1 (imgA x) 32) 0 10 0) 145 0 0) x
theorem bbck_t {x : Int} {t : Nat} (h0 : t ≠ 0) (h2 : t ≠ 145) (h3 : t ≠ 147) : bbck n x t = cpK n 1 (imgA x) 32 t := by
  unfold bbck mbck
  rw [upn_ne h2, wrow_ne h3, upn_ne h2, upn_ne h0]
theorem Rel.back {k x : Int} (h : Rel k n) (x0 : 0 ≤ x) (x1 : x < 2) (hx : n 149 x = 1) : Rel k (bbck n x) := by
  have hA := imgA_c x0 x1
  have e : ∀ t : Nat, t ≠ 0 → t ≠ 145 → t ≠ 147 → 33 ≤ t → bbck n x t = n t := fun t a b c q => by
    rw [bbck_t a b c, cpK_out (by omega)]
  have X148 : (upn (upn (cpK n 1 (imgA x) 32) 0 10 0) 145 0 0) 148 = n 148 := by
    rw [upn_ne (by decide), upn_ne (by decide), cpK_out (by omega)]
  have e147 : ∀ i : Int, 0 ≤ i → i < 1800 → bbck n x 147 i = imR n x i := fun i i0 i1 => by
    unfold bbck mbck
    rw [upn_a (by decide), wrow_in i0 (by omega), X148, show i - 0 = i by omega]
    rfl
  have e0 : ∀ j : Int, bbck n x 0 j = if j = 10 then 0 else n 0 j := fun j => by
    unfold bbck mbck
    rw [upn_a (by decide), wrow_a (by decide), upn_a (by decide)]
    by_cases q : j = 10
    · rw [if_pos q, q, upn_self]
    · rw [if_neg q, upn_i q, cpK_out (by omega)]
  have e145 : ∀ j : Int, bbck n x 145 j = if j = 1 then 0 else if j = 0 then 0 else n 145 j := fun j => by
    unfold bbck mbck
    by_cases q : j = 1
    · rw [if_pos q, q, upn_self]
    · rw [if_neg q, upn_i q, wrow_a (by decide)]
      by_cases q2 : j = 0
      · rw [if_pos q2, q2, upn_self]
      · rw [if_neg q2, upn_i q2, upn_a (by decide), cpK_out (by omega)]
  obtain ⟨i0, i1, i2⟩ := h.img x0 x1
  have i3 : LakeRel n (imgA x) (imR n x) ∧ RowOk (imR n x) := by
    rcases i2 with z | z
    · rw [hx] at z
      exact absurd z (by decide)
    · exact z.2
  obtain ⟨p0, p1, p2, p3, p4, p5, p6, p7⟩ := h
  have c := i3.1.copy p0.W
  refine ⟨c.congr (fun t a b => bbck_t (by omega) (by omega) (by omega)) e147, i3.2.congr e147 i3.1.few, p2.congr (fun t a b => e t (by omega) (by omega) (by omega) (by omega)) (e 34 (by decide) (by decide) (by decide) (by decide)) (e 148 (by decide) (by decide) (by decide) (by decide)) (e 149 (by decide) (by decide) (by decide) (by decide)), p3.congr (fun t a b => e t (by omega) (by omega) (by omega) (by omega)) (e 34 (by decide) (by decide) (by decide) (by decide)) (e 148 (by decide) (by decide) (by decide) (by decide)) (e 149 (by decide) (by decide) (by decide) (by decide)), p4.congr (e 35 (by decide) (by decide) (by decide) (by decide)) (e 36 (by decide) (by decide) (by decide) (by decide)) (e 150 (by decide) (by decide) (by decide) (by decide)) (by rw [e145]; rfl), ?_, p6.congr (e 77 (by decide) (by decide) (by decide) (by decide)) (e 78 (by decide) (by decide) (by decide) (by decide)) (e 79 (by decide) (by decide) (by decide) (by decide)) (e 164 (by decide) (by decide) (by decide) (by decide)) (by rw [e145]; rfl), p7.congr (e 45 (by decide) (by decide) (by decide) (by decide))⟩
  unfold MiscRel at *
  rw [e145, e145, e145, e0, e0, e0, e 80 (by decide) (by decide) (by decide) (by decide), e 146 (by decide) (by decide) (by decide) (by decide)]
  exact ⟨rfl, p5.2⟩
theorem st_back {k : Int} (h : Rel k n) (hk : k ≤ 900) (x : Int) : LStp w (d + 5) k n mX11_back [vi x] mX12_back [vi x] := by
  by_cases c : 0 ≤ x ∧ x ≤ 1
  · have hI := h.img c.1 (by omega)
    by_cases q : n 149 x = 0
    · have r := stp_ref (w := w) (d := d + 4) h hk (v := -2) (by omega)
      have e149 : (upn (cref n (-2)) 145 0 0) 149 = n 149 := by
        unfold cref
        rw [upn_ne (by decide), upn_ne (by decide), upn_ne (by decide)]
      exact ⟨_, _, _, EI.of (by decide +kernel) (Nat.le_of_ble_eq_true rfl) rfl (fun _ G => gX11_back_0 (EI.use (s_within _ _ _) (ite10 (fun _ => ⟨c.1, by omega, fun z => absurd (hI.2.1.trans q) z, fun _ => EI.use r.1 ⟨rfl, rfl⟩⟩) (fun z => absurd c z)))),
        EI.of (by decide +kernel) (Nat.le_of_ble_eq_true rfl) rfl (fun _ G => gX12_back_0 (EI.use (m_in _ _ _) (ite10 (fun _ => ⟨c.1, by omega, fun z => absurd (by rw [e149]; exact q) z, fun _ => EI.use r.2.1 ⟨rfl, rfl⟩⟩) (fun z => absurd c z)))), r.2.2⟩
    · have q1 : n 149 x = 1 := by
        rcases hI.2.2 with z | z
        · exact absurd z q
        · exact z.1
      have cp := s_imgFrom (w := w) (d := d + 1) (x := x) c.1 (by omega) hI.1 h.1.W
      have hA := imgA_c (x := x) c.1 (by omega)
      have e149 : (upn (upn (cpK n 1 (imgA x) 32) 0 10 0) 145 0 0) 149 = n 149 := by
        rw [upn_ne (by decide), upn_ne (by decide), cpK_out (by omega)]
      have ml := fun (G : GM) => m_backL (G := G) (w := w) (d := d + 4) (n := upn (upn (cpK n 1 (imgA x) 32) 0 10 0) 145 0 0) c.1 (show x < 2 by omega) 1800 0 rfl
      exact ⟨0, upn (cpK n 1 (imgA x) 32) 0 10 0, bbck n x,
        EI.of (by decide +kernel) (Nat.le_of_ble_eq_true rfl) rfl (fun _ G => gX11_back_0 (EI.use (s_within _ _ _) (ite10 (fun _ => ⟨c.1, by omega, fun _ => ⟨c.1, by omega, EV.use cp (EI.use (s_accept _) ⟨rfl, rfl⟩)⟩, fun z => absurd (hI.2.1.symm.trans z) q⟩) (fun z => absurd c z)))),
        EI.of (by decide +kernel) (Nat.le_of_ble_eq_true rfl) rfl (fun _ G => gX12_back_0 (EI.use (m_in _ _ _) (ite10 (fun _ => ⟨c.1, by omega, fun _ => by have q := ml G; rw [show ((0 : Nat) : Int) = 0 from rfl, wrow_0] at q; exact q, fun z => absurd (by rw [← e149]; exact z) q⟩) (fun z => absurd c z)))), (h.back c.1 (by omega) q1).le (by omega)⟩
  · have r := stp_ref (w := w) (d := d + 4) h hk (v := -1) (by omega)
    exact ⟨_, _, _, EI.of (by decide +kernel) (Nat.le_of_ble_eq_true rfl) rfl (fun _ G => gX11_back_0 (EI.use (s_within _ _ _) (ite10 (fun z => absurd z c) (fun _ => EI.use r.1 ⟨rfl, rfl⟩)))),
      EI.of (by decide +kernel) (Nat.le_of_ble_eq_true rfl) rfl (fun _ G => gX12_back_0 (EI.use (m_in _ _ _) (ite10 (fun z => absurd z c) (fun _ => EI.use r.2.1 ⟨rfl, rfl⟩)))), r.2.2⟩
end IMGBACK
