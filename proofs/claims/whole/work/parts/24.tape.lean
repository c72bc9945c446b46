section TAPE
variable {w : WD} {d : Nat} {n : NM} {G : GM} {Q : Option AV → Hp → Prop} {c l : Nat} {li L m : Int} {g : Int → Int}
/-- a tape (cells c, its length in l at li) with m bytes more -/
def tw (n : NM) (c l : Nat) (li L m : Int) (g : Int → Int) : NM := upn (wrow n c L m g) l li (L + m)
theorem tw_len : tw n c l li L m g l li = L + m := upn_self _ _ _ _
theorem tw_0 (h : n l li = L) : tw n c l li L 0 g = n := by
  funext b j
  unfold tw
  simp only [upn, wrow]
  by_cases q : b = l ∧ j = li
  · rw [if_pos q, q.1, q.2, h]
    omega
  · rw [if_neg q, if_neg (by omega)]
theorem tw_step (hcl : c ≠ l) (h0 : 0 ≤ m) {x : Int} (hg : g m = x) : upn (upn (tw n c l li L m g) c (tw n c l li L m g l li) x) l li (tw n c l li L m g l li + 1) = tw n c l li L (m + 1) g := by
  rw [tw_len]
  funext b j
  unfold tw
  simp only [upn, wrow]
  by_cases q : b = l ∧ j = li
  · rw [if_pos q, if_pos q]
    omega
  · rw [if_neg q, if_neg q, if_neg q]
    by_cases q1 : b = c ∧ j = L + m
    · rw [if_pos q1, if_pos (by omega), ← hg]
      congr 1
      omega
    · rw [if_neg q1]
      by_cases q2 : b = c ∧ L ≤ j ∧ j < L + m
      · rw [if_pos q2, if_pos (by omega)]
      · rw [if_neg q2, if_neg (by omega)]
theorem c_byte {v x2 : Int} {kk : Nat} (e : x2 = (kk : Int)) (hk : kk < 32) (h0 : 0 ≤ L) (h1 : 0 ≤ m) (h2 : L + m < 400) (hg : g m = (v / ((2 ^ kk : Nat) : Int)) % 256)
    (next : Rn w mX8_addNumber d G Q 3 [(0, vr 35), (1, vi v), (2, vi (x2 + (-8)))] [] (B0, tw n 36 35 1 L (m + 1) g)) : Rn w mX8_addNumber d G Q 3 [(0, vr 35), (1, vi v), (2, vi x2)] [] (B0, tw n 36 35 1 L m g) := by
  have el : tw n 36 35 1 L m g 35 1 = L + m := tw_len
  refine gX8_addNumber_3 ⟨fun q => absurd q (by omega), fun _ => ⟨fun q => absurd q (by omega), fun _ => ⟨kk, e, hk, by omega, by omega, ⟨by omega, by omega⟩, ⟨by omega, by omega⟩, ?_⟩⟩⟩
  rw [tw_step (by decide) h1 hg]
  exact next
theorem m_byte {v x2 : Int} {kk : Nat} (e : x2 = (kk : Int)) (hk : kk < 32) (h0 : 0 ≤ L) (h1 : 0 ≤ m) (h2 : L + m < 400) (hg : g m = (v / ((2 ^ kk : Nat) : Int)) % 256)
    (next : Rn w mX12_four d G Q 3 [(0, vr 145), (1, vi v), (2, vi (x2 + (-8)))] [] (B0, tw n 150 145 8 L (m + 1) g)) : Rn w mX12_four d G Q 3 [(0, vr 145), (1, vi v), (2, vi x2)] [] (B0, tw n 150 145 8 L m g) := by
  have el : tw n 150 145 8 L m g 145 8 = L + m := tw_len
  refine gX12_four_3 ⟨fun q => absurd q (by omega), fun _ => ⟨kk, e, hk, by omega, by omega, ⟨by omega, by omega⟩, ⟨by omega, by omega⟩, ?_⟩⟩
  rw [tw_step (by decide) h1 hg]
  exact next
/-- the four bytes of a number stand in g from m on -/
def B4 (g : Int → Int) (m v : Int) : Prop := g m = (v / ((2 ^ 24 : Nat) : Int)) % 256 ∧ g (m + 1) = (v / ((2 ^ 16 : Nat) : Int)) % 256 ∧ g (m + 1 + 1) = (v / ((2 ^ 8 : Nat) : Int)) % 256 ∧ g (m + 1 + 1 + 1) = (v / ((2 ^ 0 : Nat) : Int)) % 256
theorem s_addNumber {v : Int} (h0 : 0 ≤ L) (h1 : 0 ≤ m) (h2 : L + m + 4 ≤ 400) (hg : B4 g m v) : EV w d mX8_addNumber [vr 35, vi v] B0 (tw n 36 35 1 L m g) (tw n 36 35 1 L (m + 1 + 1 + 1 + 1) g) :=
  EV.of (by decide +kernel) (Nat.le_of_ble_eq_true rfl) rfl (fun _ G => gX8_addNumber_0 (c_byte (kk := 24) rfl (by decide) h0 h1 (by omega) hg.1 (c_byte (kk := 16) rfl (by decide) h0 (by omega) (by omega) hg.2.1 (c_byte (kk := 8) rfl (by decide) h0 (by omega) (by omega) hg.2.2.1 (c_byte (kk := 0) rfl (by decide) h0 (by omega) (by omega) hg.2.2.2 (gX8_addNumber_3 ⟨fun _ => ⟨rfl, rfl⟩, fun q => absurd q (by decide)⟩))))))
theorem m_four {v : Int} (h0 : 0 ≤ L) (h1 : 0 ≤ m) (h2 : L + m + 4 ≤ 400) (hg : B4 g m v) : EV w d mX12_four [vr 145, vi v] B0 (tw n 150 145 8 L m g) (tw n 150 145 8 L (m + 1 + 1 + 1 + 1) g) :=
  EV.of (by decide +kernel) (Nat.le_of_ble_eq_true rfl) rfl (fun _ G => gX12_four_0 (m_byte (kk := 24) rfl (by decide) h0 h1 (by omega) hg.1 (m_byte (kk := 16) rfl (by decide) h0 (by omega) (by omega) hg.2.1 (m_byte (kk := 8) rfl (by decide) h0 (by omega) (by omega) hg.2.2.1 (m_byte (kk := 0) rfl (by decide) h0 (by omega) (by omega) hg.2.2.2 (gX12_four_3 ⟨fun _ => ⟨rfl, rfl⟩, fun q => absurd q (by decide)⟩))))))
def gB (v j : Int) : Int := if j = 0 then (v / ((2 ^ 24 : Nat) : Int)) % 256 else if j = 1 then (v / ((2 ^ 16 : Nat) : Int)) % 256 else if j = 2 then (v / ((2 ^ 8 : Nat) : Int)) % 256 else (v / ((2 ^ 0 : Nat) : Int)) % 256
def g5 (x1 x2 x3 x4 x5 j : Int) : Int := if j < 4 then gB x1 j else if j < 8 then gB x2 (j - 4) else if j < 12 then gB x3 (j - 8) else if j < 16 then gB x4 (j - 12) else gB x5 (j - 16)
theorem gB_le (v j : Int) : 0 ≤ gB v j ∧ gB v j ≤ 255 := by
  unfold gB
  split
  · omega
  · split
    · omega
    · split
      · omega
      · omega
theorem g5_le (x1 x2 x3 x4 x5 j : Int) : 0 ≤ g5 x1 x2 x3 x4 x5 j ∧ g5 x1 x2 x3 x4 x5 j ≤ 255 := by
  unfold g5
  split
  · exact gB_le _ _
  · split
    · exact gB_le _ _
    · split
      · exact gB_le _ _
      · split
        · exact gB_le _ _
        · exact gB_le _ _
theorem c_feed {x1 x2 x3 x4 x5 : Int} (h0 : 0 ≤ n 35 1) (h1 : n 35 1 + 20 ≤ 400) : EI w (d + 1) mX11_feed [vr 0, vi x1, vi x2, vi x3, vi x4, vi x5] B0 n (n 35 1 + 20) (tw n 36 35 1 (n 35 1) 20 (g5 x1 x2 x3 x4 x5)) := by
  have hasR : EI w d mX8_hasRoomForFiveNumbers [vr 35] B0 n 1 n := EI.of (by decide +kernel) (Nat.le_of_ble_eq_true rfl) rfl (fun _ G => gX8_hasRoomForFiveNumbers_0 ⟨⟨by omega, by omega⟩, fun q => absurd q (by omega), fun _ => ⟨rfl, rfl⟩⟩)
  have e0 : n = tw n 36 35 1 (n 35 1) 0 (g5 x1 x2 x3 x4 x5) := (tw_0 rfl).symm
  have a1 : EV w d mX8_addNumber [vr 35, vi x1] B0 n (tw n 36 35 1 (n 35 1) 4 (g5 x1 x2 x3 x4 x5)) := by
    have := s_addNumber (w := w) (d := d) (n := n) (L := n 35 1) (m := 0) (g := g5 x1 x2 x3 x4 x5) (v := x1) h0 (by decide) (by omega) ⟨rfl, rfl, rfl, rfl⟩
    rw [← e0] at this
    exact this
  refine EI.of (by decide +kernel) (Nat.le_of_ble_eq_true rfl) rfl (fun _ G => gX11_feed_0 (EI.use hasR ⟨fun _ => EV.use a1 (EV.use (s_addNumber (m := 4) h0 (by decide) (by omega) ⟨rfl, rfl, rfl, rfl⟩) (EV.use (s_addNumber (m := 8) h0 (by decide) (by omega) ⟨rfl, rfl, rfl, rfl⟩) (EV.use (s_addNumber (m := 12) h0 (by decide) (by omega) ⟨rfl, rfl, rfl, rfl⟩) (EV.use (s_addNumber (m := 16) h0 (by decide) (by omega) ⟨rfl, rfl, rfl, rfl⟩) (EI.use s_tapeSize ⟨?_, rfl⟩))))), fun q => absurd q (by decide)⟩))
  exact congrArg (fun z => some (vi z)) tw_len
theorem m_feed {x1 x2 x3 x4 x5 : Int} (h0 : 0 ≤ n 145 8) (h1 : n 145 8 + 20 ≤ 400) : EI w (d + 1) mX12_feed [vr 145, vi x1, vi x2, vi x3, vi x4, vi x5] B0 n (n 145 8 + 20) (tw (upn n 145 0 0) 150 145 8 (n 145 8) 20 (g5 x1 x2 x3 x4 x5)) := by
  have e0 : upn n 145 0 0 = tw (upn n 145 0 0) 150 145 8 (n 145 8) 0 (g5 x1 x2 x3 x4 x5) := (tw_0 rfl).symm
  have a1 : EV w d mX12_four [vr 145, vi x1] B0 (upn n 145 0 0) (tw (upn n 145 0 0) 150 145 8 (n 145 8) 4 (g5 x1 x2 x3 x4 x5)) := by
    have := m_four (w := w) (d := d) (n := upn n 145 0 0) (L := n 145 8) (m := 0) (g := g5 x1 x2 x3 x4 x5) (v := x1) h0 (by decide) (by omega) ⟨rfl, rfl, rfl, rfl⟩
    rw [← e0] at this
    exact this
  refine EI.of (by decide +kernel) (Nat.le_of_ble_eq_true rfl) rfl (fun _ G => gX12_feed_0 ⟨⟨by omega, by omega⟩, fun _ => EV.use a1 (EV.use (m_four (m := 4) h0 (by decide) (by omega) ⟨rfl, rfl, rfl, rfl⟩) (EV.use (m_four (m := 8) h0 (by decide) (by omega) ⟨rfl, rfl, rfl, rfl⟩) (EV.use (m_four (m := 12) h0 (by decide) (by omega) ⟨rfl, rfl, rfl, rfl⟩) (EV.use (m_four (m := 16) h0 (by decide) (by omega) ⟨rfl, rfl, rfl, rfl⟩) ⟨?_, rfl⟩)))), fun q => absurd q (by omega)⟩)
  exact congrArg (fun z => some (vi z)) tw_len
/-- nothing but the tape has changed -/
theorem Rel.frameT {k : Int} {n2 : NM} (h : Rel k n) (hn : ∀ t : Nat, t ≠ 35 → t ≠ 36 → t ≠ 145 → t ≠ 150 → n2 t = n t) (h5 : ∀ j, j ≠ 8 → j ≠ 0 → n2 145 j = n 145 j) (ht : TapeRel n2) : Rel k n2 := by
  obtain ⟨p0, p1, p2, p3, p4, p5, p6, p7⟩ := h
  have e : ∀ t : Nat, decide (t ≠ 35 ∧ t ≠ 36 ∧ t ≠ 145 ∧ t ≠ 150) = true → n2 t = n t := fun t c => by
    have c := of_decide_eq_true c
    exact hn t c.1 c.2.1 c.2.2.1 c.2.2.2
  have q147 : n2 147 = n 147 := e _ rfl
  refine ⟨?_, ?_, p2.congr (fun t a b => hn t (by omega) (by omega) (by omega) (by omega)) (e _ rfl) (e _ rfl) (e _ rfl), p3.congr (fun t a b => hn t (by omega) (by omega) (by omega) (by omega)) (e _ rfl) (e _ rfl) (e _ rfl), ht, ?_, p6.congr (e _ rfl) (e _ rfl) (e _ rfl) (e _ rfl) (h5 _ (by decide) (by decide)), p7.congr (e _ rfl)⟩
  · rw [q147]
    exact p0.congr (fun t a b => hn t (by omega) (by omega) (by omega) (by omega)) (fun _ _ _ => rfl)
  · rw [q147]
    exact p1
  · unfold MiscRel at *
    rw [h5 1 (by decide) (by decide), h5 13 (by decide) (by decide), h5 6 (by decide) (by decide), e 0 rfl, e 80 rfl, e 146 rfl]
    exact p5
theorem st_feed {k : Int} (h : Rel k n) (x1 x2 x3 x4 x5 : Int) : LStp w (d + 4) k n mX11_feed [vi x1, vi x2, vi x3, vi x4, vi x5] mX12_feed [vi x1, vi x2, vi x3, vi x4, vi x5] := by
  obtain ⟨t0, t1, t2, t3⟩ := h.2.2.2.2.1
  by_cases q : n 35 1 + 20 ≤ 400
  · have e8 : tw n 36 35 1 (n 35 1) 20 (g5 x1 x2 x3 x4 x5) 145 8 = n 35 1 := by
      rw [← t2]
      rfl
    have hm := m_feed (w := w) (d := d + 3) (n := tw n 36 35 1 (n 35 1) 20 (g5 x1 x2 x3 x4 x5)) (x1 := x1) (x2 := x2) (x3 := x3) (x4 := x4) (x5 := x5) (by rw [e8]; exact t0) (by rw [e8]; exact q)
    rw [e8] at hm
    refine ⟨_, _, _, c_feed t0 q, hm, (h.frameT (fun t a b c d => ?_) (fun j a b => ?_) ?_).le (by omega)⟩
    · unfold tw
      rw [upn_ne c, wrow_ne d, upn_ne c, upn_ne a, wrow_ne b]
    · unfold tw
      simp only [upn, wrow]
      rw [if_neg (by omega), if_neg (by omega), if_neg (by omega), if_neg (by omega), if_neg (by omega)]
    · have f1 : tw (upn (tw n 36 35 1 (n 35 1) 20 (g5 x1 x2 x3 x4 x5)) 145 0 0) 150 145 8 (n 35 1) 20 (g5 x1 x2 x3 x4 x5) 35 1 = n 35 1 + 20 := rfl
      have f2 : tw (upn (tw n 36 35 1 (n 35 1) 20 (g5 x1 x2 x3 x4 x5)) 145 0 0) 150 145 8 (n 35 1) 20 (g5 x1 x2 x3 x4 x5) 145 8 = n 35 1 + 20 := rfl
      have f3 : ∀ j, tw (upn (tw n 36 35 1 (n 35 1) 20 (g5 x1 x2 x3 x4 x5)) 145 0 0) 150 145 8 (n 35 1) 20 (g5 x1 x2 x3 x4 x5) 36 j = if n 35 1 ≤ j ∧ j < n 35 1 + 20 then g5 x1 x2 x3 x4 x5 (j - n 35 1) else n 36 j := fun j => by
        unfold tw
        rw [upn_ne (by decide), wrow_ne (by decide), upn_ne (by decide), upn_ne (by decide)]
        simp only [wrow, true_and]
      have f4 : ∀ j, tw (upn (tw n 36 35 1 (n 35 1) 20 (g5 x1 x2 x3 x4 x5)) 145 0 0) 150 145 8 (n 35 1) 20 (g5 x1 x2 x3 x4 x5) 150 j = if n 35 1 ≤ j ∧ j < n 35 1 + 20 then g5 x1 x2 x3 x4 x5 (j - n 35 1) else n 150 j := fun j => by
        unfold tw
        rw [upn_ne (by decide)]
        simp only [wrow, true_and]
        rw [upn_ne (by decide), upn_ne (by decide)]
        simp only [wrow]
        by_cases q : n 35 1 ≤ j ∧ j < n 35 1 + 20
        · rw [if_pos q, if_pos q]
        · rw [if_neg q, if_neg q, if_neg (by omega)]
      refine ⟨by omega, by omega, by omega, fun i i0 i1 => ?_⟩
      rw [f3, f4]
      by_cases z : n 35 1 ≤ i ∧ i < n 35 1 + 20
      · rw [if_pos z, if_pos z]
        exact ⟨rfl, g5_le _ _ _ _ _ _⟩
      · rw [if_neg z, if_neg z]
        exact t3 i i0 (by omega)
  · have hasR : EI w (d + 3) mX8_hasRoomForFiveNumbers [vr 35] B0 n 0 n := EI.of (by decide +kernel) (Nat.le_of_ble_eq_true rfl) rfl (fun _ G => gX8_hasRoomForFiveNumbers_0 ⟨⟨by omega, by omega⟩, fun _ => ⟨rfl, rfl⟩, fun q2 => absurd q2 q⟩)
    refine ⟨-1, n, upn n 145 0 0, EI.of (by decide +kernel) (Nat.le_of_ble_eq_true rfl) rfl (fun _ G => gX11_feed_0 (EI.use hasR ⟨fun q => absurd rfl q, fun _ => ⟨rfl, rfl⟩⟩)), EI.of (by decide +kernel) (Nat.le_of_ble_eq_true rfl) rfl (fun _ G => gX12_feed_0 ⟨⟨by omega, by omega⟩, fun z => absurd z (by omega), fun _ => ⟨rfl, rfl⟩⟩), h.zero.le (by omega)⟩
theorem st_end {k : Int} (h : Rel k n) (x : Int) : LStp w (d + 4) k n mX11_end [vi x] mX12_end [vi x] := by
  obtain ⟨t0, t1, t2, t3⟩ := h.2.2.2.2.1
  by_cases q : 0 ≤ x ∧ x ≤ n 35 1
  · have hc : EV w (d + 3) mX8_cutTo [vr 35, vi x] B0 n (upn n 35 1 x) := EV.of (by decide +kernel) (Nat.le_of_ble_eq_true rfl) rfl (fun _ G => gX8_cutTo_0 ⟨rfl, by rw [show max 0 (min x (n 35 1)) = x by omega]⟩)
    refine ⟨x, upn n 35 1 x, upn (upn (upn n 35 1 x) 145 0 0) 145 8 x, EI.of (by decide +kernel) (Nat.le_of_ble_eq_true rfl) rfl (fun _ G => gX11_end_0 (EI.use s_tapeSize (EI.use (s_within _ _ _) (ite10 (fun _ => EV.use hc ⟨rfl, rfl⟩) (fun z => absurd q z))))),
      EI.of (by decide +kernel) (Nat.le_of_ble_eq_true rfl) rfl (fun _ G => gX12_end_0 ⟨fun z => absurd z (by omega), fun _ => ⟨fun _ => ⟨rfl, rfl⟩, fun z => absurd (show n 145 8 < x from z) (by omega)⟩⟩), (h.frameT (fun t a b c d => ?_) (fun j a b => ?_) ?_).le (by omega)⟩
    · rw [upn_ne c, upn_ne c, upn_ne a]
    · rw [upn_i a, upn_i b, upn_ne (by decide)]
    · exact ⟨q.1, by show x ≤ 400; omega, rfl, fun i i0 i1 => t3 i i0 (by have : i < x := i1; omega)⟩
  · refine ⟨-1, n, upn n 145 0 0, EI.of (by decide +kernel) (Nat.le_of_ble_eq_true rfl) rfl (fun _ G => gX11_end_0 (EI.use s_tapeSize (EI.use (s_within _ _ _) (ite10 (fun z => absurd z q) (fun _ => ⟨rfl, rfl⟩))))),
      EI.of (by decide +kernel) (Nat.le_of_ble_eq_true rfl) rfl (fun _ G => gX12_end_0 ⟨fun _ => ⟨rfl, rfl⟩, fun z => ⟨fun z2 => absurd (show 0 ≤ x ∧ x ≤ n 35 1 by omega) q, fun _ => ⟨rfl, rfl⟩⟩⟩), h.zero.le (by omega)⟩
end TAPE
