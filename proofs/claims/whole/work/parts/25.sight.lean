section SIGHT
variable {w : WD} {d : Nat} {n : NM}
theorem wrow_0 {c : Nat} {b : Int} {g : Int → Int} : wrow n c b 0 g = n := by
  funext x y
  unfold wrow
  rw [if_neg (by omega)]
theorem wrow_more {c : Nat} {b len p v : Int} {g : Int → Int} (h0 : 0 ≤ len) (hp : p = b + len) (hv : v = g len) : upn (wrow n c b len g) c p v = wrow n c b (len + 1) g := by
  subst hp hv
  funext x y
  simp only [upn, wrow]
  by_cases q : x = c ∧ y = b + len
  · rw [if_pos q, if_pos (by omega)]
    congr 1
    omega
  · rw [if_neg q]
    by_cases q2 : x = c ∧ b ≤ y ∧ y < b + len
    · rw [if_pos q2, if_pos (by omega)]
    · rw [if_neg q2, if_neg (by omega)]
theorem wrow_g {c : Nat} {b len : Int} {g g2 : Int → Int} (h : ∀ j, 0 ≤ j → j < len → g j = g2 j) : wrow n c b len g = wrow n c b len g2 := by
  funext x y
  unfold wrow
  by_cases q : x = c ∧ b ≤ y ∧ y < b + len
  · rw [if_pos q, if_pos q]
    exact h _ (by omega) (by omega)
  · rw [if_neg q, if_neg q]
def sel7 (x1 x2 x3 x4 x5 x6 x7 : Int) (j : Int) : Int := if j = 0 then x1 else if j = 1 then x2 else if j = 2 then x3 else if j = 3 then x4 else if j = 4 then x5 else if j = 5 then x6 else x7
theorem TR.add7 {n3 : NM} {t : Nat} {W R cnt base : Int} {r r3 g : Int → Int} (h : TR n t W R cnt base r) (hf : n t 3 < R) (hW : 1 ≤ W)
    (h1 : n3 t 1 = n t 1) (h2 : n3 t 2 = n t 2) (h3 : n3 t 3 = n t 3 + 1) (hc : n3 (t + 1) = wrow n (t + 1) (n t 3 * W) W g (t + 1))
    (h0 : r3 cnt = r cnt + 1) (hin : ∀ j, 0 ≤ j → j < W → r3 (base + W * r cnt + j) = g j) (hout : ∀ j, base ≤ j → j < base + W * r cnt → r3 j = r j) : TR n3 t W R cnt base r3 := by
  obtain ⟨hT, hq, hv⟩ := h
  refine ⟨⟨by rw [h1]; exact hT.1, by rw [h2]; exact hT.2.1, by rw [h3]; have := hT.2.2.1; omega, by rw [h3]; omega⟩, by rw [h3, h0, hq], fun k k0 k1 => ?_⟩
  rw [h0, Int.add_mul, Int.one_mul] at k1
  rw [hc, hq]
  have hco : W * r cnt = r cnt * W := Int.mul_comm _ _
  by_cases q : k < r cnt * W
  · rw [wrow_out (Or.inl q), hout _ (by omega) (by omega)]
    exact hv k k0 q
  · rw [wrow_in (by omega) (by omega), ← hin _ (by omega) (by omega)]
    congr 1
    omega
/-- the class's lake with a sight more -/
def csg (n : NM) (g : Int → Int) : NM := wrow (upn n 14 3 (n 14 3 + 1)) 15 (n 14 3 * 7) 7 g
def msg (n : NM) (g : Int → Int) : NM := upn (wrow n 147 (420 + 7 * n 147 5) 7 g) 147 5 (n 147 5 + 1)
theorem s_addSight (hT : TW n 14 7 40) (hf : n 14 3 < 40) (x1 x2 x3 x4 x5 x6 x7 : Int) : EI w (d + 3) mX1_addSight [vr 1, vi x1, vi x2, vi x3, vi x4, vi x5, vi x6, vi x7] B0 n (n 14 3) (csg n (sel7 x1 x2 x3 x4 x5 x6 x7)) := by
  have h0 := hT.2.2.1
  have hT1 : TW (upn n 14 3 (n 14 3 + 1)) 14 7 40 := by
    refine ⟨?_, ?_, ?_, ?_⟩
    · rw [upn_i (by decide)]
      exact hT.1
    · rw [upn_i (by decide)]
      exact hT.2.1
    · rw [upn_self]
      omega
    · rw [upn_self]
      omega
  have eW : ∀ (l : Int) (g : Int → Int), wrow (upn n 14 3 (n 14 3 + 1)) 15 (n 14 3 * 7) l g 14 = (upn n 14 3 (n 14 3 + 1)) 14 := fun l g => wrow_ne (by decide)
  have hW : ∀ (l : Int) (g : Int → Int), TW (wrow (upn n 14 3 (n 14 3 + 1)) 15 (n 14 3 * 7) l g) 14 7 40 := fun l g => hT1.congr (eW l g)
  have st : ∀ (l : Int) (v : Int), 0 ≤ l → l < 7 → v = sel7 x1 x2 x3 x4 x5 x6 x7 l → tset (wrow (upn n 14 3 (n 14 3 + 1)) 15 (n 14 3 * 7) l (sel7 x1 x2 x3 x4 x5 x6 x7)) 14 15 (n 14 3) l v = wrow (upn n 14 3 (n 14 3 + 1)) 15 (n 14 3 * 7) (l + 1) (sel7 x1 x2 x3 x4 x5 x6 x7) := fun l v l0 l1 hv => by
    rw [tset_eq (hW l _) h0 (by rw [eW, upn_self]; omega) l0, if_pos l1]
    exact wrow_more l0 rfl hv
  have e4 : tadd n 14 15 7 x1 x2 x3 x4 = wrow (upn n 14 3 (n 14 3 + 1)) 15 (n 14 3 * 7) 4 (sel7 x1 x2 x3 x4 x5 x6 x7) := by
    unfold tadd
    refine wrow_g (fun j j0 j1 => ?_)
    have : j = 0 ∨ j = 1 ∨ j = 2 ∨ j = 3 := by
      have : min (7 : Int) 4 = 4 := rfl
      omega
    rcases this with rfl | rfl | rfl | rfl <;> rfl
  have a0 := s_add (w := w) (d := d) ob_14 (c := 15) rfl ob_15 (by decide) hT (by decide) rfl (by decide) (by decide) hf x1 x2 x3 x4
  rw [e4] at a0
  have a4 := s_set (w := w) (d := d + 1) ob_14 (c := 15) rfl ob_15 (hW 4 (sel7 x1 x2 x3 x4 x5 x6 x7)) rfl (by decide) (n 14 3) 4 x5
  rw [st 4 x5 (by decide) (by decide) rfl] at a4
  have a5 := s_set (w := w) (d := d + 1) ob_14 (c := 15) rfl ob_15 (hW (4 + 1) (sel7 x1 x2 x3 x4 x5 x6 x7)) rfl (by decide) (n 14 3) 5 x6
  have e5 := st (4 + 1) x6 (by decide) (by decide) rfl
  have a6 := s_set (w := w) (d := d + 1) ob_14 (c := 15) rfl ob_15 (hW (4 + 1 + 1) (sel7 x1 x2 x3 x4 x5 x6 x7)) rfl (by decide) (n 14 3) 6 x7
  have e6 := st (4 + 1 + 1) x7 (by decide) (by decide) rfl
  rw [show tset (wrow (upn n 14 3 (n 14 3 + 1)) 15 (n 14 3 * 7) (4 + 1) (sel7 x1 x2 x3 x4 x5 x6 x7)) 14 15 (n 14 3) 5 x6 = wrow (upn n 14 3 (n 14 3 + 1)) 15 (n 14 3 * 7) (4 + 1 + 1) (sel7 x1 x2 x3 x4 x5 x6 x7) from e5] at a5
  rw [show tset (wrow (upn n 14 3 (n 14 3 + 1)) 15 (n 14 3 * 7) (4 + 1 + 1) (sel7 x1 x2 x3 x4 x5 x6 x7)) 14 15 (n 14 3) 6 x7 = csg n (sel7 x1 x2 x3 x4 x5 x6 x7) from e6] at a6
  exact EI.of (by decide +kernel) (Nat.le_of_ble_eq_true rfl) rfl (fun _ G => gX1_addSight_0 (EI.use a0 (EV.use a4 (EV.use a5 (EV.use a6 ⟨rfl, rfl⟩)))))
theorem m_put (h0 : 0 ≤ n 147 5) (h1 : n 147 5 < 40) (x1 x2 x3 x4 x5 x6 x7 : Int) : EV w d mX12_put [vr 145, vi x1, vi x2, vi x3, vi x4, vi x5, vi x6, vi x7] B0 n (msg n (sel7 x1 x2 x3 x4 x5 x6 x7)) := by
  have e : upn (upn (upn (upn (upn (upn (upn n 147 (420 + (7 * (n 147 5))) x1) 147 ((420 + (7 * (n 147 5))) + 1) x2) 147 ((420 + (7 * (n 147 5))) + 2) x3) 147 ((420 + (7 * (n 147 5))) + 3) x4) 147 ((420 + (7 * (n 147 5))) + 4) x5) 147 ((420 + (7 * (n 147 5))) + 5) x6) 147 ((420 + (7 * (n 147 5))) + 6) x7 = wrow n 147 (420 + 7 * n 147 5) 7 (sel7 x1 x2 x3 x4 x5 x6 x7) := by
    have st : ∀ (l : Int) (v : Int), 0 ≤ l → v = sel7 x1 x2 x3 x4 x5 x6 x7 l → upn (wrow n 147 (420 + 7 * n 147 5) l (sel7 x1 x2 x3 x4 x5 x6 x7)) 147 ((420 + (7 * n 147 5)) + l) v = wrow n 147 (420 + 7 * n 147 5) (l + 1) (sel7 x1 x2 x3 x4 x5 x6 x7) := fun l v l0 hv => wrow_more l0 rfl hv
    have q := wrow_more (n := n) (c := 147) (b := 420 + 7 * n 147 5) (len := 0) (p := 420 + 7 * n 147 5) (v := x1) (g := sel7 x1 x2 x3 x4 x5 x6 x7) (by decide) (by omega) rfl
    rw [wrow_0] at q
    rw [q, show (0 + 1 : Int) = 1 from rfl, st 1 x2 (by decide) rfl, show (1 + 1 : Int) = 2 from rfl, st 2 x3 (by decide) rfl, show (2 + 1 : Int) = 3 from rfl, st 3 x4 (by decide) rfl, show (3 + 1 : Int) = 4 from rfl, st 4 x5 (by decide) rfl, show (4 + 1 : Int) = 5 from rfl, st 5 x6 (by decide) rfl, show (5 + 1 : Int) = 6 from rfl, st 6 x7 (by decide) rfl]
    rfl
  have e5 : wrow n 147 (420 + 7 * n 147 5) 7 (sel7 x1 x2 x3 x4 x5 x6 x7) 147 5 = n 147 5 := wrow_out (Or.inl (by omega))
  refine EV.of (by decide +kernel) (Nat.le_of_ble_eq_true rfl) rfl (fun _ G => gX12_put_0 ?_)
  rw [e, e5]
  exact ⟨⟨by omega, by omega⟩, ⟨by omega, by omega⟩, by omega, by omega, ⟨by omega, by omega⟩, by omega, by omega, ⟨by omega, by omega⟩, by omega, by omega, ⟨by omega, by omega⟩, by omega, by omega, ⟨by omega, by omega⟩, by omega, by omega, ⟨by omega, by omega⟩, by omega, by omega, ⟨by omega, by omega⟩, by omega, by omega, ⟨by omega, by omega⟩, rfl, rfl⟩
abbrev sgOk (x1 x2 x3 x5 x6 x7 : Int) : Prop := (0 ≤ x1 ∧ x1 ≤ 59) ∧ (0 ≤ x2 ∧ x2 ≤ 1439) ∧ (0 ≤ x3 ∧ x3 ≤ 23) ∧ (0 ≤ x5 ∧ x5 ≤ 9) ∧ (1 ≤ x6 ∧ x6 ≤ 200) ∧ x1 ≤ x7 ∧ x7 ≤ 59
theorem s_whyNoSight (hT : TW n 14 7 40) (x1 x2 x3 x4 x5 x6 x7 : Int) : EI w (d + 1) mX1_whyNoSight [vr 1, vi x1, vi x2, vi x3, vi x4, vi x5, vi x6, vi x7] B0 n (if sgOk x1 x2 x3 x5 x6 x7 then (if 0 ≤ x4 ∧ x4 < n 10 3 then (if n 14 3 < 40 then 0 else -5) else -2) else -1) n := by
  refine EI.of (by decide +kernel) (Nat.le_of_ble_eq_true rfl) rfl (fun _ G => gX1_whyNoSight_0 (EI.use (s_within _ _ _) (ite01 (fun c1 => ⟨?_, rfl⟩) (fun c1 => EI.use (s_within _ _ _) (ite01 (fun c2 => ⟨?_, rfl⟩) (fun c2 => EI.use (s_within _ _ _) (ite01 (fun c3 => ⟨?_, rfl⟩) (fun c3 => EI.use (s_within _ _ _) (ite01 (fun c5 => ⟨?_, rfl⟩) (fun c5 => EI.use (s_within _ _ _) (ite01 (fun c6 => ⟨?_, rfl⟩) (fun c6 => EI.use (s_within _ _ _) (ite10 (fun c7 => EI.use (s_holds ob_10 (c := 11) rfl ob_11 _) (ite10 (fun c4 => EI.use (s_isFull ob_14 (c := 15) rfl ob_15) (ite01 (fun c8 => ⟨?_, rfl⟩) (fun c8 => ⟨?_, rfl⟩))) (fun c4 => ⟨?_, rfl⟩))) (fun c7 => ⟨?_, rfl⟩))))))))))))))
  · rw [if_neg (by omega)]
  · rw [if_neg (by omega)]
  · rw [if_neg (by omega)]
  · rw [if_neg (by omega)]
  · rw [if_neg (by omega)]
  · rw [if_pos ⟨c1, c2, c3, c5, c6, c7⟩, if_pos c4, if_pos (by have := hT.2.1; omega)]
  · rw [if_pos ⟨c1, c2, c3, c5, c6, c7⟩, if_pos c4, if_neg (by have := hT.2.1; omega)]
  · rw [if_pos ⟨c1, c2, c3, c5, c6, c7⟩, if_neg c4]
  · rw [if_neg (by omega)]
theorem m_canBe (x1 x2 x3 x5 x6 x7 : Int) : EI w (d + 2) mX12_canBe [vi x1, vi x2, vi x3, vi x5, vi x6, vi x7] B0 n (if sgOk x1 x2 x3 x5 x6 x7 then 1 else 0) n := by
  refine EI.of (by decide +kernel) (Nat.le_of_ble_eq_true rfl) rfl (fun _ G => gX12_canBe_0 (EI.use (m_isDay _) (ite01 (fun c1 => ⟨?_, rfl⟩) (fun c1 => EI.use (m_isMinute _) (ite01 (fun c2 => ⟨?_, rfl⟩) (fun c2 => EI.use (m_isPlace _) (ite01 (fun c3 => ⟨?_, rfl⟩) (fun c3 => EI.use (m_in _ _ _) (ite01 (fun c5 => ⟨?_, rfl⟩) (fun c5 => EI.use (m_in _ _ _) (ite01 (fun c6 => ⟨?_, rfl⟩) (fun c6 => EI.use (m_isDay _) (ite01 (fun c7 => ⟨?_, rfl⟩) (fun c7 => ⟨fun c8 => ⟨?_, rfl⟩, fun c8 => ⟨?_, rfl⟩⟩))))))))))))))
  · rw [if_neg (by omega)]
  · rw [if_neg (by omega)]
  · rw [if_neg (by omega)]
  · rw [if_neg (by omega)]
  · rw [if_neg (by omega)]
  · rw [if_neg (by omega)]
  · rw [if_neg (by omega)]
  · rw [if_pos ⟨c1, c2, c3, c5, c6, by omega, by omega⟩]
/-- both have a sight more -/
def bsg (n : NM) (g : Int → Int) : NM := upn (msg (upn (upn (csg n g) 0 10 0) 145 0 0) g) 145 1 0
theorem csg147 {g : Int → Int} : (upn (upn (csg n g) 0 10 0) 145 0 0) 147 = n 147 := by
  unfold csg
  rw [upn_ne (by decide), upn_ne (by decide), wrow_ne (by decide), upn_ne (by decide)]
theorem bsg_t {g : Int → Int} {q : Nat} (h0 : q ≠ 0) (h1 : q ≠ 14) (h2 : q ≠ 15) (h3 : q ≠ 145) (h4 : q ≠ 147) : bsg n g q = n q := by
  unfold bsg msg csg
  rw [upn_ne h3, upn_ne h4, wrow_ne h4, upn_ne h3, upn_ne h0, wrow_ne h2, upn_ne h1]
theorem bsg_14 {g : Int → Int} : bsg n g 14 = upn n 14 3 (n 14 3 + 1) 14 := by
  unfold bsg msg csg
  rw [upn_ne (by decide), upn_ne (by decide), wrow_ne (by decide), upn_ne (by decide), upn_ne (by decide), wrow_ne (by decide)]
theorem bsg_15 {g : Int → Int} : bsg n g 15 = wrow n 15 (n 14 3 * 7) 7 g 15 := by
  unfold bsg msg csg
  rw [upn_ne (by decide), upn_ne (by decide), wrow_ne (by decide), upn_ne (by decide), upn_ne (by decide)]
  funext j
  simp only [wrow]
  rw [upn_ne (by decide)]
theorem bsg_r {g : Int → Int} (j : Int) : bsg n g 147 j = if j = 5 then n 147 5 + 1 else if 420 + 7 * n 147 5 ≤ j ∧ j < 420 + 7 * n 147 5 + 7 then g (j - (420 + 7 * n 147 5)) else n 147 j := by
  have e147 := csg147 (n := n) (g := g)
  unfold bsg msg
  generalize upn (upn (csg n g) 0 10 0) 145 0 0 = X at e147 ⊢
  rw [upn_ne (by decide), e147]
  simp only [upn, wrow]
  by_cases c1 : j = 5
  · rw [if_pos ⟨trivial, c1⟩, if_pos c1]
  · rw [if_neg (by omega), if_neg c1]
    by_cases c2 : 420 + 7 * n 147 5 ≤ j ∧ j < 420 + 7 * n 147 5 + 7
    · rw [if_pos ⟨trivial, c2.1, c2.2⟩, if_pos c2]
    · rw [if_neg (by omega), if_neg c2, e147]
theorem bsg_0 {g : Int → Int} (j : Int) : bsg n g 0 j = if j = 10 then 0 else n 0 j := by
  unfold bsg msg csg
  rw [upn_ne (by decide), upn_ne (by decide), wrow_ne (by decide), upn_ne (by decide)]
  by_cases c1 : j = 10
  · rw [if_pos c1, c1, upn_self]
  · rw [if_neg c1, upn_i c1, wrow_ne (by decide), upn_ne (by decide)]
theorem bsg_145 {g : Int → Int} (j : Int) : bsg n g 145 j = if j = 1 then 0 else if j = 0 then 0 else n 145 j := by
  unfold bsg msg csg
  by_cases c1 : j = 1
  · rw [if_pos c1, c1, upn_self]
  · rw [if_neg c1, upn_i c1, upn_ne (by decide), wrow_ne (by decide)]
    by_cases c2 : j = 0
    · rw [if_pos c2, c2, upn_self]
    · rw [if_neg c2, upn_i c2, upn_ne (by decide), wrow_ne (by decide), upn_ne (by decide)]
theorem Rel.add_sights {k : Int} (h : Rel k n) (hf : n 14 3 < 40) {x1 x2 x3 x4 x5 x6 x7 : Int} (o : sgOk x1 x2 x3 x5 x6 x7) : Rel k (bsg n (sel7 x1 x2 x3 x4 x5 x6 x7)) := by
  have hT : TR n 14 7 40 5 420 (n 147) := h.1.2.2.2.2.2.2.1
  have hc0 : 0 ≤ n 147 5 := by
    rw [← hT.2.1]
    exact hT.1.2.2.1
  have hc1 : n 147 5 < 40 := by
    rw [← hT.2.1]
    exact hf
  have e : ∀ q : Nat, q ≠ 0 → q ≠ 14 → q ≠ 15 → q ≠ 145 → q ≠ 147 → bsg n (sel7 x1 x2 x3 x4 x5 x6 x7) q = n q := fun q a b c d e => bsg_t a b c d e
  have ho : ∀ i : Int, 0 ≤ i → i < 1800 → ¬ (i = 5 ∨ (420 ≤ i ∧ i < 700)) → (bsg n (sel7 x1 x2 x3 x4 x5 x6 x7)) 147 i = n 147 i := fun i i0 i1 i2 => by
    rw [bsg_r, if_neg (by omega), if_neg (by omega)]
  have hin : ∀ j, 0 ≤ j → j < 7 → (bsg n (sel7 x1 x2 x3 x4 x5 x6 x7)) 147 (420 + 7 * n 147 5 + j) = sel7 x1 x2 x3 x4 x5 x6 x7 j := fun j j0 j1 => by
    rw [bsg_r, if_neg (by omega), if_pos (by omega)]
    congr 1
    omega
  have hout : ∀ j, 420 ≤ j → j < 420 + 7 * n 147 5 → (bsg n (sel7 x1 x2 x3 x4 x5 x6 x7)) 147 j = n 147 j := fun j j0 j1 => by
    rw [bsg_r, if_neg (by omega), if_neg (by omega)]
  have hcnt : (bsg n (sel7 x1 x2 x3 x4 x5 x6 x7)) 147 5 = n 147 5 + 1 := by
    rw [bsg_r, if_pos rfl]
  refine h.frame (fun q q0 q1 q2 => e q (by omega) (by omega) (by omega) (by omega) (by omega)) (e _ (by omega) (by omega) (by omega) (by omega) (by omega)) (e _ (by omega) (by omega) (by omega) (by omega) (by omega)) (e _ (by omega) (by omega) (by omega) (by omega) (by omega)) (e _ (by omega) (by omega) (by omega) (by omega) (by omega)) ?_ ?_ ?_ ?_ ?_
  · rw [bsg_145]
    rfl
  · rw [bsg_145]
    rfl
  · refine h.1.upd_sights (fun q q0 q1 q2 q3 => e q (by omega) (by omega) (by omega) (by omega) (by omega)) ho ?_
    refine hT.add7 hf (by decide) ?_ ?_ ?_ bsg_15 hcnt hin hout
    · show bsg n _ 14 1 = n 14 1
      rw [bsg_14, upn_i (by decide)]
    · show bsg n _ 14 2 = n 14 2
      rw [bsg_14, upn_i (by decide)]
    · show bsg n _ 14 3 = n 14 3 + 1
      rw [bsg_14, upn_self]
  · refine h.2.1.upd_sights ho h.cnt ?_
    intro x y0 y1
    rw [hcnt] at y1
    by_cases q : x < n 147 5
    · have := h.2.1.2.2.2.2.2.1 x y0 q
      rw [hout _ (by omega) (by omega), hout _ (by omega) (by omega), hout _ (by omega) (by omega), hout _ (by omega) (by omega), hout _ (by omega) (by omega), hout _ (by omega) (by omega)]
      exact this
    · have hx : x = n 147 5 := by omega
      subst hx
      rw [hin 1 (by decide) (by decide), hin 2 (by decide) (by decide), hin 4 (by decide) (by decide), hin 5 (by decide) (by decide), hin 6 (by decide) (by decide)]
      have z := hin 0 (by decide) (by decide)
      rw [Int.add_zero] at z
      rw [z]
      exact ⟨o.1, o.2.1, o.2.2.1, o.2.2.2.1, o.2.2.2.2.1, show 0 ≤ x7 ∧ x7 ≤ 59 by omega⟩
  · have hm := h.2.2.2.2.2.1
    unfold MiscRel at *
    rw [bsg_145, bsg_145, bsg_145, bsg_0, bsg_0, bsg_0, e 80 (by omega) (by omega) (by omega) (by omega) (by omega), e 146 (by omega) (by omega) (by omega) (by omega) (by omega)]
    exact ⟨rfl, hm.2⟩
theorem st_sight {k : Int} (h : Rel k n) (hk : k ≤ 900) (x1 x2 x3 x4 x5 x6 x7 : Int) : LStp w (d + 4) k n mX11_sight [vi x1, vi x2, vi x3, vi x4, vi x5, vi x6, vi x7] mX12_sight [vi x1, vi x2, vi x3, vi x4, vi x5, vi x6, vi x7] := by
  have hT : TR n 14 7 40 5 420 (n 147) := h.1.2.2.2.2.2.2.1
  have hc3 : n 10 3 = n 147 3 := h.1.2.2.2.2.1.2.1
  have hc0 : 0 ≤ n 10 3 ∧ n 10 3 ≤ 12 := h.1.2.2.2.2.1.1.2.2
  have h5 := hT.1.2.2.1
  have h6 := hT.1.2.2.2
  have why := s_whyNoSight (w := w) (d := d + 2) hT.1 x1 x2 x3 x4 x5 x6 x7
  have e3 : ∀ v : Int, (upn (cref n v) 145 0 0) 147 = n 147 := fun v => by
    unfold cref
    rw [upn_ne (by decide), upn_ne (by decide), upn_ne (by decide)]
  by_cases o : sgOk x1 x2 x3 x5 x6 x7
  · rw [if_pos o] at why
    have can : ∀ n' : NM, EI w (d + 3) mX12_canBe [vi x1, vi x2, vi x3, vi x5, vi x6, vi x7] B0 n' 1 n' := fun n' => by
      have := m_canBe (w := w) (d := d + 1) (n := n') x1 x2 x3 x5 x6 x7
      rw [if_pos o] at this
      exact this
    have is3 : ∀ n' : NM, n' 147 = n 147 → EI w (d + 3) mX12_is [vr 145, vi 3, vi x4] B0 n' (if 0 ≤ x4 ∧ x4 ≤ n 147 3 - 1 then 1 else 0) n' := fun n' e => by
      have := m_is (w := w) (d := d + 2) (n := n') (x := 3) (y := x4) (by decide) (by decide) (by rw [e]; omega)
      rw [e] at this
      exact this
    by_cases held : 0 ≤ x4 ∧ x4 < n 10 3
    · rw [if_pos held] at why
      by_cases hf : n 14 3 < 40
      · rw [if_pos hf] at why
        have hput := m_put (w := w) (d := d + 3) (n := upn (upn (csg n (sel7 x1 x2 x3 x4 x5 x6 x7)) 0 10 0) 145 0 0) (by rw [csg147, ← hT.2.1]; exact h5) (by rw [csg147, ← hT.2.1]; exact hf) x1 x2 x3 x4 x5 x6 x7
        have hp5 : msg (upn (upn (csg n (sel7 x1 x2 x3 x4 x5 x6 x7)) 0 10 0) 145 0 0) (sel7 x1 x2 x3 x4 x5 x6 x7) 147 5 - 1 = n 14 3 := by
          unfold msg
          rw [upn_self, csg147, hT.2.1]
          omega
        refine ⟨n 14 3, upn (csg n (sel7 x1 x2 x3 x4 x5 x6 x7)) 0 10 0, bsg n (sel7 x1 x2 x3 x4 x5 x6 x7), EI.of (by decide +kernel) (Nat.le_of_ble_eq_true rfl) rfl (fun _ G => gX11_sight_0 (EI.use why ⟨fun _ => EI.use (s_addSight hT.1 hf x1 x2 x3 x4 x5 x6 x7) (EI.use (s_accept _) ⟨rfl, rfl⟩), fun q => absurd rfl q⟩)),
          EI.of (by decide +kernel) (Nat.le_of_ble_eq_true rfl) rfl (fun _ G => gX12_sight_0 (EI.use (can _) ⟨fun _ => EI.use (is3 _ csg147) ?_, fun q => absurd q (by decide)⟩)), (h.add_sights hf o).le (by omega)⟩
        rw [if_pos (by omega)]
        refine ⟨fun _ => ⟨fun _ => EV.use hput ⟨?_, ?_⟩, fun q => ?_⟩, fun q => absurd q (by decide)⟩
        · rw [hp5]
          exact ⟨by omega, by omega⟩
        · rw [hp5]
          exact EI.use (m_tell0 h5) ⟨rfl, rfl⟩
        · rw [csg147, ← hT.2.1] at q
          omega
      · rw [if_neg hf] at why
        have r := stp_ref (w := w) (d := d + 3) h hk (v := -5) (by omega)
        refine ⟨_, _, _, EI.of (by decide +kernel) (Nat.le_of_ble_eq_true rfl) rfl (fun _ G => gX11_sight_0 (EI.use why ⟨fun q => absurd q (by decide), fun _ => EI.use r.1 ⟨rfl, rfl⟩⟩)), EI.of (by decide +kernel) (Nat.le_of_ble_eq_true rfl) rfl (fun _ G => gX12_sight_0 (EI.use (can _) ⟨fun _ => EI.use (is3 _ (e3 _)) ?_, fun q => absurd q (by decide)⟩)), r.2.2⟩
        rw [if_pos (by omega)]
        refine ⟨fun _ => ⟨fun q => absurd ?_ q, fun _ => EI.use r.2.1 ⟨rfl, rfl⟩⟩, fun q => absurd q (by decide)⟩
        rw [e3, ← hT.2.1]
        omega
    · rw [if_neg held] at why
      have r := stp_ref (w := w) (d := d + 3) h hk (v := -2) (by omega)
      refine ⟨_, _, _, EI.of (by decide +kernel) (Nat.le_of_ble_eq_true rfl) rfl (fun _ G => gX11_sight_0 (EI.use why ⟨fun q => absurd q (by decide), fun _ => EI.use r.1 ⟨rfl, rfl⟩⟩)), EI.of (by decide +kernel) (Nat.le_of_ble_eq_true rfl) rfl (fun _ G => gX12_sight_0 (EI.use (can _) ⟨fun _ => EI.use (is3 _ (e3 _)) ?_, fun q => absurd q (by decide)⟩)), r.2.2⟩
      rw [if_neg (by omega)]
      exact ⟨fun q => absurd rfl q, fun _ => EI.use r.2.1 ⟨rfl, rfl⟩⟩
  · rw [if_neg o] at why
    have r := stp_ref (w := w) (d := d + 3) h hk (v := -1) (by omega)
    have can := m_canBe (w := w) (d := d + 1) (n := upn (cref n (-1)) 145 0 0) x1 x2 x3 x5 x6 x7
    rw [if_neg o] at can
    exact ⟨_, _, _, EI.of (by decide +kernel) (Nat.le_of_ble_eq_true rfl) rfl (fun _ G => gX11_sight_0 (EI.use why ⟨fun q => absurd q (by decide), fun _ => EI.use r.1 ⟨rfl, rfl⟩⟩)), EI.of (by decide +kernel) (Nat.le_of_ble_eq_true rfl) rfl (fun _ G => gX12_sight_0 (EI.use can ⟨fun q => absurd rfl q, fun _ => EI.use r.2.1 ⟨rfl, rfl⟩⟩)), r.2.2⟩
end SIGHT
