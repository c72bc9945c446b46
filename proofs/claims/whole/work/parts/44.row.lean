section ROWS
variable {w : WD} {d : Nat} {n : NM}
/-- the i-th sight of a tape T with L bytes, where c sights and u watchers are -/
abbrev rgd (T : Int → Int) (L u c : Int) (i : Nat) : Prop := 7 * (i : Int) + 7 ≤ L ∧ c < 40 ∧ (0 ≤ T (7 * (i : Int) + 3) ∧ T (7 * (i : Int) + 3) < u) ∧ sgOk (T (7 * (i : Int))) (T (7 * (i : Int) + 1) * 10) (T (7 * (i : Int) + 2)) (T (7 * (i : Int) + 4)) (T (7 * (i : Int) + 5)) (T (7 * (i : Int)) + T (7 * (i : Int) + 6))
def rgs (T : Int → Int) (i : Nat) : Int → Int := sel7 (T (7 * (i : Int))) (T (7 * (i : Int) + 1) * 10) (T (7 * (i : Int) + 2)) (T (7 * (i : Int) + 3)) (T (7 * (i : Int) + 4)) (T (7 * (i : Int) + 5)) (T (7 * (i : Int)) + T (7 * (i : Int) + 6))
def rwC (T : Int → Int) (L u c : Int) : Nat → Int
  | 0 => 0
  | i + 1 => if rgd T L u (c + rwC T L u c i) i then rwC T L u c i + 1 else rwC T L u c i
def rwN (st : NM → (Int → Int) → NM) (T : Int → Int) (L u c : Int) (n : NM) : Nat → NM
  | 0 => n
  | i + 1 => if rgd T L u (c + rwC T L u c i) i then st (rwN st T L u c n i) (rgs T i) else rwN st T L u c n i
theorem rwC_le {T : Int → Int} {L u c : Int} : ∀ i : Nat, 0 ≤ rwC T L u c i ∧ rwC T L u c i ≤ i
  | 0 => ⟨Int.le_refl _, Int.le_refl _⟩
  | i + 1 => by
    have ih := rwC_le (T := T) (L := L) (u := u) (c := c) i
    have e : rwC T L u c (i + 1) = if rgd T L u (c + rwC T L u c i) i then rwC T L u c i + 1 else rwC T L u c i := rfl
    rw [e]
    split <;> omega
theorem rwC_40 {T : Int → Int} {L u c : Int} (hc : c ≤ 40) : ∀ i : Nat, c + rwC T L u c i ≤ 40
  | 0 => by
    show c + 0 ≤ 40
    omega
  | i + 1 => by
    have ih := rwC_40 (T := T) (L := L) (u := u) (c := c) hc i
    have e : rwC T L u c (i + 1) = if rgd T L u (c + rwC T L u c i) i then rwC T L u c i + 1 else rwC T L u c i := rfl
    rw [e]
    split
    · rename_i h
      have := h.2.1
      omega
    · exact ih
theorem rwN_ind {st : NM → (Int → Int) → NM} {T : Int → Int} {L u c : Int} {P : NM → Int → Prop} (h0 : P n 0) (hs : ∀ (N : NM) (a : Int) (i : Nat), P N a → rgd T L u (c + a) i → P (st N (rgs T i)) (a + 1)) : ∀ i : Nat, P (rwN st T L u c n i) (rwC T L u c i)
  | 0 => h0
  | i + 1 => by
    have ih := rwN_ind (st := st) (T := T) (L := L) (u := u) (c := c) (P := P) h0 hs i
    have e1 : rwC T L u c (i + 1) = if rgd T L u (c + rwC T L u c i) i then rwC T L u c i + 1 else rwC T L u c i := rfl
    have e2 : rwN st T L u c n (i + 1) = if rgd T L u (c + rwC T L u c i) i then st (rwN st T L u c n i) (rgs T i) else rwN st T L u c n i := rfl
    rw [e1, e2]
    by_cases q : rgd T L u (c + rwC T L u c i) i
    · rw [if_pos q, if_pos q]
      exact hs _ _ _ ih q
    · rw [if_neg q, if_neg q]
      exact ih
theorem csg_t {g : Int → Int} {t : Nat} (h0 : t ≠ 14) (h1 : t ≠ 15) : csg n g t = n t := by
  unfold csg
  rw [wrow_ne h1, upn_ne h0]
theorem csg_14 {g : Int → Int} : csg n g 14 = upn n 14 3 (n 14 3 + 1) 14 := by
  unfold csg
  rw [wrow_ne (by decide)]
theorem csg_15 {g : Int → Int} : csg n g 15 = wrow n 15 (n 14 3 * 7) 7 g 15 := by
  unfold csg
  funext j
  simp only [wrow]
  rw [upn_ne (by decide)]
theorem msg_t {g : Int → Int} {t : Nat} (h0 : t ≠ 147) : msg n g t = n t := by
  unfold msg
  rw [upn_ne h0, wrow_ne h0]
theorem msg_r {g : Int → Int} (j : Int) : msg n g 147 j = if j = 5 then n 147 5 + 1 else if 420 + 7 * n 147 5 ≤ j ∧ j < 420 + 7 * n 147 5 + 7 then g (j - (420 + 7 * n 147 5)) else n 147 j := by
  unfold msg
  by_cases q : j = 5
  · rw [if_pos q, q, upn_self]
  · rw [if_neg q, upn_i q]
    by_cases q2 : 420 + 7 * n 147 5 ≤ j ∧ j < 420 + 7 * n 147 5 + 7
    · rw [if_pos q2, wrow_in q2.1 q2.2]
    · rw [if_neg q2, wrow_out (by omega)]
theorem upn_congr {n1 n2 : NM} {a b : Nat} {i v : Int} (h : n1 b = n2 b) : upn n1 a i v b = upn n2 a i v b := by
  funext j
  unfold upn
  rw [h]
theorem wrow_congr {n1 n2 : NM} {a b : Nat} {p l : Int} {g : Int → Int} (h : n1 b = n2 b) : wrow n1 a p l g b = wrow n2 a p l g b := by
  funext j
  unfold wrow
  rw [h]
section RC
variable {T : Int → Int} {L u : Int} {k : Int}
theorem rwC_inv (h14 : n 14 3 = n 147 5) (hT : TW n 14 7 40) (i : Nat) : (∀ t : Nat, t ≠ 14 → t ≠ 15 → rwN csg T L u (n 147 5) n i t = n t) ∧ rwN csg T L u (n 147 5) n i 14 3 = n 147 5 + rwC T L u (n 147 5) i ∧ TW (rwN csg T L u (n 147 5) n i) 14 7 40 :=
  rwN_ind (P := fun N a => (∀ t : Nat, t ≠ 14 → t ≠ 15 → N t = n t) ∧ N 14 3 = n 147 5 + a ∧ TW N 14 7 40) ⟨fun _ _ _ => rfl, by rw [h14]; omega, hT⟩ (fun N a i ih q => by
    have h3 : csg N (rgs T i) 14 3 = N 14 3 + 1 := by rw [csg_14, upn_self]
    refine ⟨fun t t0 t1 => (csg_t t0 t1).trans (ih.1 t t0 t1), by rw [h3, ih.2.1]; omega, ?_, ?_, ?_, ?_⟩
    · rw [csg_14, upn_i (by decide)]
      exact ih.2.2.1
    · rw [csg_14, upn_i (by decide)]
      exact ih.2.2.2.1
    · rw [h3]
      have := ih.2.2.2.2.1
      omega
    · rw [h3, ih.2.1]
      have := q.2.1
      omega) i
theorem rwM_inv {X : NM} (h5 : 0 ≤ n 147 5) (h : X 147 = n 147) (i : Nat) : (∀ t : Nat, t ≠ 147 → rwN msg T L u (n 147 5) X i t = X t) ∧ rwN msg T L u (n 147 5) X i 147 5 = n 147 5 + rwC T L u (n 147 5) i ∧ rwN msg T L u (n 147 5) X i 147 3 = n 147 3 :=
  (rwN_ind (P := fun N a => ((∀ t : Nat, t ≠ 147 → N t = X t) ∧ N 147 5 = n 147 5 + a ∧ N 147 3 = n 147 3) ∧ 0 ≤ a) ⟨⟨fun _ _ => rfl, by rw [h]; omega, by rw [h]⟩, by decide⟩ (fun N a i ih q => by
    have i2 := ih.2
    refine ⟨⟨fun t t0 => (msg_t t0).trans (ih.1.1 t t0), ?_, ?_⟩, by omega⟩
    · rw [msg_r, if_pos rfl, ih.1.2.1]
      omega
    · rw [msg_r, if_neg (by decide), if_neg (by rw [ih.1.2.1]; omega)]
      exact ih.1.2.2) i).1
theorem rwB_inv (h : Rel k n) (i : Nat) : Rel k (rwN bsg T L u (n 147 5) n i) ∧ (∀ t : Nat, t ≠ 0 → t ≠ 14 → t ≠ 15 → t ≠ 145 → t ≠ 147 → rwN bsg T L u (n 147 5) n i t = n t) ∧ (∀ j : Int, j ≠ 10 → rwN bsg T L u (n 147 5) n i 0 j = n 0 j) ∧ (∀ j : Int, j ≠ 0 → j ≠ 1 → rwN bsg T L u (n 147 5) n i 145 j = n 145 j) :=
  (rwN_ind (P := fun N a => (Rel k N ∧ N 147 5 = n 147 5 + a) ∧ (∀ t : Nat, t ≠ 0 → t ≠ 14 → t ≠ 15 → t ≠ 145 → t ≠ 147 → N t = n t) ∧ (∀ j : Int, j ≠ 10 → N 0 j = n 0 j) ∧ (∀ j : Int, j ≠ 0 → j ≠ 1 → N 145 j = n 145 j)) ⟨⟨h, by omega⟩, fun _ _ _ _ _ _ => rfl, fun _ _ => rfl, fun _ _ _ => rfl⟩ (fun N a i ih q => by
    have e : N 14 3 = N 147 5 := ih.1.1.1.2.2.2.2.2.2.1.2.1
    have i2 := ih.1.2
    have q2 := q.2.1
    refine ⟨⟨ih.1.1.add_sights (by omega) q.2.2.2, ?_⟩, fun t a b c f g => (bsg_t a b c f g).trans (ih.2.1 t a b c f g), fun j hj => ?_, fun j j0 j1 => ?_⟩
    · rw [bsg_r, if_pos rfl]
      omega
    · rw [bsg_0, if_neg hj]
      exact ih.2.2.1 j hj
    · rw [bsg_145, if_neg j1, if_neg j0]
      exact ih.2.2.2 j j0 j1) i).imp (fun z => z.1) id
theorem rwCB : ∀ i : Nat, rwN csg T L u (n 147 5) n i 14 = rwN bsg T L u (n 147 5) n i 14 ∧ rwN csg T L u (n 147 5) n i 15 = rwN bsg T L u (n 147 5) n i 15
  | 0 => ⟨rfl, rfl⟩
  | i + 1 => by
    have ih := rwCB i
    have e2 : ∀ st, rwN st T L u (n 147 5) n (i + 1) = if rgd T L u (n 147 5 + rwC T L u (n 147 5) i) i then st (rwN st T L u (n 147 5) n i) (rgs T i) else rwN st T L u (n 147 5) n i := fun _ => rfl
    rw [e2, e2]
    by_cases q : rgd T L u (n 147 5 + rwC T L u (n 147 5) i) i
    · rw [if_pos q, if_pos q]
      refine ⟨?_, ?_⟩
      · rw [csg_14, bsg_14, ih.1]
        exact upn_congr ih.1
      · rw [csg_15, bsg_15, ih.1]
        exact wrow_congr ih.2
    · rw [if_neg q, if_neg q]
      exact ih
theorem rwMB {X : NM} (h : X 147 = n 147) : ∀ i : Nat, rwN msg T L u (n 147 5) X i 147 = rwN bsg T L u (n 147 5) n i 147
  | 0 => h
  | i + 1 => by
    have ih := rwMB h i
    have e2 : ∀ st Y, rwN st T L u (n 147 5) Y (i + 1) = if rgd T L u (n 147 5 + rwC T L u (n 147 5) i) i then st (rwN st T L u (n 147 5) Y i) (rgs T i) else rwN st T L u (n 147 5) Y i := fun _ _ => rfl
    rw [e2, e2]
    by_cases q : rgd T L u (n 147 5 + rwC T L u (n 147 5) i) i
    · rw [if_pos q, if_pos q]
      funext j
      rw [msg_r, bsg_r, ih]
    · rw [if_neg q, if_neg q]
      exact ih
end RC
theorem s_at {p : Int} (h1 : n 35 1 ≤ 400) (p0 : 0 ≤ p) (p1 : p < n 35 1) : EI w d mX8_at [vr 35, vi p] B0 n (n 36 p) n :=
  EI.of (by decide +kernel) (Nat.le_of_ble_eq_true rfl) rfl (fun _ G => gX8_at_0 ⟨fun z => absurd z (by omega), fun _ => ⟨fun z => absurd z (by omega), fun _ => ⟨fun z => absurd z (by omega), fun _ => ⟨p0, by omega, rfl, rfl⟩⟩⟩⟩)
theorem s_cameFrom {T : Int → Int} {L u c : Int} {i : Nat} (hL : L ≤ 400) (eL : n 35 1 = L) (eT : n 36 = T) (eu : n 10 3 = u) (ec : n 14 3 = c) (hb : ∀ j, 0 ≤ j → j < L → 0 ≤ T j ∧ T j ≤ 255) (hT : TW n 14 7 40) (hi : 7 * (i : Int) < L) : EI w (d + 4) mX11_sightCameFrom [vr 0, vi (7 * (i : Int))] B0 n (if rgd T L u c i then 1 else 0) (if rgd T L u c i then csg n (rgs T i) else n) := by
  subst eL eT eu ec
  refine EI.of (by decide +kernel) (Nat.le_of_ble_eq_true rfl) rfl (fun _ G => gX11_sightCameFrom_0 (EI.use s_tapeSize ⟨⟨by omega, by omega⟩, fun c7 => ?_, fun c7 => ⟨?_, ?_⟩⟩))
  · have b0 := hb (7 * (i : Int)) (by omega) (by omega)
    have b1 := hb (7 * (i : Int) + 1) (by omega) (by omega)
    have b6 := hb (7 * (i : Int) + 6) (by omega) (by omega)
    refine EI.use (s_at hL (by omega) (by omega)) ⟨⟨by omega, by omega⟩, EI.use (s_at hL (by omega) (by omega)) ⟨⟨by omega, by omega⟩, ⟨by omega, by omega⟩, EI.use (s_at hL (by omega) (by omega)) ⟨⟨by omega, by omega⟩, EI.use (s_at hL (by omega) (by omega)) ⟨⟨by omega, by omega⟩, EI.use (s_at hL (by omega) (by omega)) ⟨⟨by omega, by omega⟩, EI.use (s_at hL (by omega) (by omega)) ⟨⟨by omega, by omega⟩, EI.use (s_at hL (by omega) (by omega)) ⟨⟨by omega, by omega⟩, EI.use (s_whyNoSight hT _ _ _ _ _ _ _) ?_⟩⟩⟩⟩⟩⟩⟩
    by_cases o : sgOk (n 36 (7 * (i : Int))) (n 36 (7 * (i : Int) + 1) * 10) (n 36 (7 * (i : Int) + 2)) (n 36 (7 * (i : Int) + 4)) (n 36 (7 * (i : Int) + 5)) (n 36 (7 * (i : Int)) + n 36 (7 * (i : Int) + 6))
    · rw [if_pos o]
      by_cases held : 0 ≤ n 36 (7 * (i : Int) + 3) ∧ n 36 (7 * (i : Int) + 3) < n 10 3
      · rw [if_pos held]
        by_cases hf : n 14 3 < 40
        · rw [if_pos hf]
          have g : rgd (n 36) (n 35 1) (n 10 3) (n 14 3) i := ⟨by omega, hf, held, o⟩
          rw [if_pos g, if_pos g]
          exact ⟨fun _ => EI.use (s_addSight hT hf _ _ _ _ _ _ _) ⟨rfl, rfl⟩, fun z => absurd rfl z⟩
        · rw [if_neg hf]
          have g : ¬ rgd (n 36) (n 35 1) (n 10 3) (n 14 3) i := fun z => hf z.2.1
          rw [if_neg g, if_neg g]
          exact ⟨fun z => absurd z (by decide), fun _ => ⟨rfl, rfl⟩⟩
      · rw [if_neg held]
        have g : ¬ rgd (n 36) (n 35 1) (n 10 3) (n 14 3) i := fun z => held z.2.2.1
        rw [if_neg g, if_neg g]
        exact ⟨fun z => absurd z (by decide), fun _ => ⟨rfl, rfl⟩⟩
    · rw [if_neg o]
      have g : ¬ rgd (n 36) (n 35 1) (n 10 3) (n 14 3) i := fun z => o z.2.2.2
      rw [if_neg g, if_neg g]
      exact ⟨fun z => absurd z (by decide), fun _ => ⟨rfl, rfl⟩⟩
  · rw [if_neg (fun z => by have := z.1; omega)]
  · rw [if_neg (fun z => by have := z.1; omega)]
abbrev rwK (L : Int) : Nat := ((L + 6) / 7).toNat
def crow (n : NM) : NM := upn (upn (upn (rwN csg (n 36) (n 35 1) (n 147 3) (n 147 5) n (rwK (n 35 1))) 35 1 0) 0 12 ((rwK (n 35 1) : Int) - rwC (n 36) (n 35 1) (n 147 3) (n 147 5) (rwK (n 35 1)))) 0 10 0
theorem s_rowL {G : GM} {k : Int} (h : Rel k n) : ∀ (m i : Nat), i + m = rwK (n 35 1) → Rn w mX11_row (d + 5) G (fun r h' => r = some (vi (rwC (n 36) (n 35 1) (n 147 3) (n 147 5) (rwK (n 35 1)))) ∧ h' = (B0, crow n)) 23 [(0, vr 0), (1, vi (rwC (n 36) (n 35 1) (n 147 3) (n 147 5) i)), (2, vi ((i : Int) - rwC (n 36) (n 35 1) (n 147 3) (n 147 5) i)), (3, vi (7 * (i : Int)))] [] (B0, rwN csg (n 36) (n 35 1) (n 147 3) (n 147 5) n i)
  | 0, i, hi => by
    have hT : TR n 14 7 40 5 420 (n 147) := h.1.2.2.2.2.2.2.1
    obtain ⟨t0, t1, t2, t3⟩ := h.2.2.2.2.1
    have iv := rwC_inv (T := n 36) (L := n 35 1) (u := n 147 3) hT.2.1 hT.1 i
    have e35 : rwN csg (n 36) (n 35 1) (n 147 3) (n 147 5) n i 35 1 = n 35 1 := by rw [iv.1 35 (by decide) (by decide)]
    have ei : rwK (n 35 1) = i := by omega
    have hc : EV w (d + 4) mX8_cutTo [vr 35, vi 0] B0 (rwN csg (n 36) (n 35 1) (n 147 3) (n 147 5) n i) (upn (rwN csg (n 36) (n 35 1) (n 147 3) (n 147 5) n i) 35 1 0) := EV.of (by decide +kernel) (Nat.le_of_ble_eq_true rfl) rfl (fun _ G => gX8_cutTo_0 ⟨rfl, by rw [e35, show max 0 (min 0 (n 35 1)) = 0 by omega]⟩)
    refine gX11_row_23 (EI.use s_tapeSize ⟨fun _ => EV.use hc (EI.use (s_accept _) ⟨?_, ?_⟩), fun z => absurd z (by rw [e35]; unfold rwK at hi; omega)⟩)
    · rw [ei]
    · unfold crow
      rw [ei]
  | m + 1, i, hi => by
    have nxt := s_rowL (G := G) h m (i + 1) (by omega)
    have hT : TR n 14 7 40 5 420 (n 147) := h.1.2.2.2.2.2.2.1
    have h10 : n 10 3 = n 147 3 := h.1.2.2.2.2.1.2.1
    obtain ⟨t0, t1, t2, t3⟩ := h.2.2.2.2.1
    have iv := rwC_inv (T := n 36) (L := n 35 1) (u := n 147 3) hT.2.1 hT.1 i
    have e35 : rwN csg (n 36) (n 35 1) (n 147 3) (n 147 5) n i 35 1 = n 35 1 := by rw [iv.1 35 (by decide) (by decide)]
    have hl : 7 * (i : Int) < n 35 1 := by
      unfold rwK at hi
      omega
    have cf := s_cameFrom (w := w) (d := d) (n := rwN csg (n 36) (n 35 1) (n 147 3) (n 147 5) n i) (T := n 36) (L := n 35 1) (u := n 147 3) (c := n 147 5 + rwC (n 36) (n 35 1) (n 147 3) (n 147 5) i) (i := i) t1 e35 (iv.1 36 (by decide) (by decide)) (by rw [iv.1 10 (by decide) (by decide)]; exact h10) iv.2.1 (fun j j0 j1 => (t3 j j0 j1).2) iv.2.2 hl
    have cl := rwC_le (T := n 36) (L := n 35 1) (u := n 147 3) (c := n 147 5) i
    refine gX11_row_23 (EI.use s_tapeSize ⟨fun z => absurd z (by rw [e35]; omega), fun _ => EI.use cf ⟨fun _ => ⟨by omega, by omega⟩, fun _ => ⟨by omega, by omega⟩, fun z1 z2 e1 e2 => ⟨⟨by omega, by omega⟩, ?_⟩⟩⟩)
    have f1 : rwC (n 36) (n 35 1) (n 147 3) (n 147 5) (i + 1) = if rgd (n 36) (n 35 1) (n 147 3) (n 147 5 + rwC (n 36) (n 35 1) (n 147 3) (n 147 5) i) i then rwC (n 36) (n 35 1) (n 147 3) (n 147 5) i + 1 else rwC (n 36) (n 35 1) (n 147 3) (n 147 5) i := rfl
    have f2 : rwN csg (n 36) (n 35 1) (n 147 3) (n 147 5) n (i + 1) = if rgd (n 36) (n 35 1) (n 147 3) (n 147 5 + rwC (n 36) (n 35 1) (n 147 3) (n 147 5) i) i then csg (rwN csg (n 36) (n 35 1) (n 147 3) (n 147 5) n i) (rgs (n 36) i) else rwN csg (n 36) (n 35 1) (n 147 3) (n 147 5) n i := rfl
    by_cases q : rgd (n 36) (n 35 1) (n 147 3) (n 147 5 + rwC (n 36) (n 35 1) (n 147 3) (n 147 5) i) i
    · rw [if_pos q] at f1 f2 e1 e2 ⊢
      rw [if_neg (by decide)] at e1 e2
      rw [f1, f2] at nxt
      rw [e1, e2, show 7 * (i : Int) + 7 = 7 * ((i + 1 : Nat) : Int) by omega, show (i : Int) - rwC (n 36) (n 35 1) (n 147 3) (n 147 5) i = ((i + 1 : Nat) : Int) - (rwC (n 36) (n 35 1) (n 147 3) (n 147 5) i + 1) by omega]
      exact nxt
    · rw [if_neg q] at f1 f2 e1 e2 ⊢
      rw [if_pos rfl] at e1 e2
      rw [f1, f2] at nxt
      rw [e1, e2, show 7 * (i : Int) + 7 = 7 * ((i + 1 : Nat) : Int) by omega, show (i : Int) - rwC (n 36) (n 35 1) (n 147 3) (n 147 5) i + 1 = ((i + 1 : Nat) : Int) - rwC (n 36) (n 35 1) (n 147 3) (n 147 5) i by omega]
      exact nxt
def mrow (n X : NM) : NM := upn (upn (rwN msg (n 36) (n 35 1) (n 147 3) (n 147 5) X (rwK (n 35 1))) 145 6 ((rwK (n 35 1) : Int) - rwC (n 36) (n 35 1) (n 147 3) (n 147 5) (rwK (n 35 1)))) 145 1 0
theorem m_rowL {G : GM} {k : Int} {X : NM} (h : Rel k n) (e147 : X 147 = n 147) (e150 : X 150 = n 150) : ∀ (m i : Nat), i + m = rwK (n 35 1) → Rn w mX12_row (d + 5) G (fun r h' => r = some (vi (rwC (n 36) (n 35 1) (n 147 3) (n 147 5) (rwK (n 35 1)))) ∧ h' = (B0, mrow n X)) 33 [(0, vr 145), (1, vi (n 35 1)), (2, vi (rwC (n 36) (n 35 1) (n 147 3) (n 147 5) i)), (3, vi ((i : Int) - rwC (n 36) (n 35 1) (n 147 3) (n 147 5) i)), (4, vi (7 * (i : Int)))] [] (B0, rwN msg (n 36) (n 35 1) (n 147 3) (n 147 5) X i)
  | 0, i, hi => by
    obtain ⟨t0, t1, t2, t3⟩ := h.2.2.2.2.1
    have ei : rwK (n 35 1) = i := by omega
    have cl := rwC_le (T := n 36) (L := n 35 1) (u := n 147 3) (c := n 147 5) i
    refine gX12_row_33 ⟨fun _ => EI.use (m_tell0 cl.1) ⟨?_, ?_⟩, fun z => absurd z (by unfold rwK at hi; omega)⟩
    · rw [ei]
    · unfold mrow
      rw [ei]
  | m + 1, i, hi => by
    have nxt := m_rowL (G := G) h e147 e150 m (i + 1) (by omega)
    obtain ⟨t0, t1, t2, t3⟩ := h.2.2.2.2.1
    have hn := h.numsOk
    have hn5 := hn.2.2.2.2.2.1
    have hn3 := hn.2.2.2.1
    have iv := rwM_inv (T := n 36) (L := n 35 1) (u := n 147 3) hn5.1 e147 i
    have cl := rwC_le (T := n 36) (L := n 35 1) (u := n 147 3) (c := n 147 5) i
    have cl4 := rwC_40 (T := n 36) (L := n 35 1) (u := n 147 3) (c := n 147 5) hn5.2 i
    have hl : 7 * (i : Int) < n 35 1 := by
      unfold rwK at hi
      omega
    have i400 : (i : Int) ≤ 400 := by omega
    have f1 : rwC (n 36) (n 35 1) (n 147 3) (n 147 5) (i + 1) = if rgd (n 36) (n 35 1) (n 147 3) (n 147 5 + rwC (n 36) (n 35 1) (n 147 3) (n 147 5) i) i then rwC (n 36) (n 35 1) (n 147 3) (n 147 5) i + 1 else rwC (n 36) (n 35 1) (n 147 3) (n 147 5) i := rfl
    have f2 : rwN msg (n 36) (n 35 1) (n 147 3) (n 147 5) X (i + 1) = if rgd (n 36) (n 35 1) (n 147 3) (n 147 5 + rwC (n 36) (n 35 1) (n 147 3) (n 147 5) i) i then msg (rwN msg (n 36) (n 35 1) (n 147 3) (n 147 5) X i) (rgs (n 36) i) else rwN msg (n 36) (n 35 1) (n 147 3) (n 147 5) X i := rfl
    have no : ¬ rgd (n 36) (n 35 1) (n 147 3) (n 147 5 + rwC (n 36) (n 35 1) (n 147 3) (n 147 5) i) i → Rn w mX12_row (d + 5) G (fun r h' => r = some (vi (rwC (n 36) (n 35 1) (n 147 3) (n 147 5) (rwK (n 35 1)))) ∧ h' = (B0, mrow n X)) 33 [(0, vr 145), (1, vi (n 35 1)), (2, vi (rwC (n 36) (n 35 1) (n 147 3) (n 147 5) i)), (3, vi ((i : Int) - rwC (n 36) (n 35 1) (n 147 3) (n 147 5) i + 1)), (4, vi (7 * (i : Int) + 7))] [] (B0, rwN msg (n 36) (n 35 1) (n 147 3) (n 147 5) X i) := fun q => by
      rw [if_neg q] at f1 f2
      rw [f1, f2] at nxt
      rw [show 7 * (i : Int) + 7 = 7 * ((i + 1 : Nat) : Int) by omega, show (i : Int) - rwC (n 36) (n 35 1) (n 147 3) (n 147 5) i + 1 = ((i + 1 : Nat) : Int) - rwC (n 36) (n 35 1) (n 147 3) (n 147 5) i by omega]
      exact nxt
    have no2 : ¬ rgd (n 36) (n 35 1) (n 147 3) (n 147 5 + rwC (n 36) (n 35 1) (n 147 3) (n 147 5) i) i → Rn w mX12_row (d + 5) G (fun r h' => r = some (vi (rwC (n 36) (n 35 1) (n 147 3) (n 147 5) (rwK (n 35 1)))) ∧ h' = (B0, mrow n X)) 150 [(0, vr 145), (1, vi (n 35 1)), (2, vi (rwC (n 36) (n 35 1) (n 147 3) (n 147 5) i)), (3, vi ((i : Int) - rwC (n 36) (n 35 1) (n 147 3) (n 147 5) i)), (4, vi (7 * (i : Int)))] [] (B0, rwN msg (n 36) (n 35 1) (n 147 3) (n 147 5) X i) := fun q => gX12_row_150 (gX12_row_151 ⟨fun _ => ⟨⟨by omega, by omega⟩, ⟨by omega, by omega⟩, no q⟩, fun z => absurd rfl z⟩)
    refine gX12_row_33 ⟨fun z => absurd z (by omega), fun _ => ⟨⟨by omega, by omega⟩, fun c7 => no2 (fun z => by have := z.1; omega), fun c7 => ⟨fun c40 => no2 (fun z => by have := z.2.1; have := iv.2.1; omega), fun c40 => ?_⟩⟩⟩
    have eT : ∀ j, 0 ≤ j → j < n 35 1 → rwN msg (n 36) (n 35 1) (n 147 3) (n 147 5) X i 150 j = n 36 j := fun j j0 j1 => by
      rw [iv.1 150 (by decide), e150]
      exact (t3 j j0 j1).1
    have b0 := (t3 (7 * (i : Int)) (by omega) (by omega)).2
    have b1 := (t3 (7 * (i : Int) + 1) (by omega) (by omega)).2
    have b6 := (t3 (7 * (i : Int) + 6) (by omega) (by omega)).2
    rw [eT (7 * (i : Int) + 3) (by omega) (by omega)]
    refine ⟨⟨by omega, by omega⟩, by omega, by omega, EI.use (m_is (by decide) (by decide) (by rw [iv.2.2]; omega)) ?_⟩
    rw [iv.2.2]
    refine ite01 (fun c3 => no2 (fun z => c3 (by have := z.2.2.1; omega))) (fun c3 => ?_)
    rw [eT (7 * (i : Int)) (by omega) (by omega), eT (7 * (i : Int) + 1) (by omega) (by omega), eT (7 * (i : Int) + 2) (by omega) (by omega), eT (7 * (i : Int) + 4) (by omega) (by omega), eT (7 * (i : Int) + 5) (by omega) (by omega), eT (7 * (i : Int) + 6) (by omega) (by omega)]
    refine ⟨by omega, by omega, ⟨by omega, by omega⟩, by omega, by omega, ⟨by omega, by omega⟩, ⟨by omega, by omega⟩, by omega, by omega, ⟨by omega, by omega⟩, by omega, by omega, ⟨by omega, by omega⟩, by omega, by omega, by omega, by omega, ⟨by omega, by omega⟩, by omega, by omega, ⟨by omega, by omega⟩, EI.use (m_canBe _ _ _ _ _ _) (fun z ez => ?_)⟩
    rw [Int.mul_comm 10] at ez ⊢
    by_cases o : sgOk (n 36 (7 * (i : Int))) (n 36 (7 * (i : Int) + 1) * 10) (n 36 (7 * (i : Int) + 2)) (n 36 (7 * (i : Int) + 4)) (n 36 (7 * (i : Int) + 5)) (n 36 (7 * (i : Int)) + n 36 (7 * (i : Int) + 6))
    · rw [if_pos o, if_neg (by decide)] at ez
      have g : rgd (n 36) (n 35 1) (n 147 3) (n 147 5 + rwC (n 36) (n 35 1) (n 147 3) (n 147 5) i) i := ⟨by omega, by have := iv.2.1; omega, by omega, o⟩
      refine ⟨fun z0 => absurd z0 (by omega), fun _ => ?_⟩
      rw [eT (7 * (i : Int)) (by omega) (by omega), eT (7 * (i : Int) + 1) (by omega) (by omega), eT (7 * (i : Int) + 2) (by omega) (by omega), eT (7 * (i : Int) + 3) (by omega) (by omega), eT (7 * (i : Int) + 4) (by omega) (by omega), eT (7 * (i : Int) + 5) (by omega) (by omega), eT (7 * (i : Int) + 6) (by omega) (by omega)]
      refine ⟨by omega, by omega, ⟨by omega, by omega⟩, by omega, by omega, ⟨by omega, by omega⟩, ⟨by omega, by omega⟩, by omega, by omega, ⟨by omega, by omega⟩, by omega, by omega, ⟨by omega, by omega⟩, by omega, by omega, ⟨by omega, by omega⟩, by omega, by omega, by omega, by omega, ⟨by omega, by omega⟩, by omega, by omega, ⟨by omega, by omega⟩, EV.use (m_put (by rw [iv.2.1]; omega) (by rw [iv.2.1]; have := g.2.1; omega) _ _ _ _ _ _ _) ⟨⟨by omega, by omega⟩, ⟨by omega, by omega⟩, ?_⟩⟩
      rw [if_pos g] at f1 f2
      rw [f1, f2] at nxt
      rw [show 7 * (i : Int) + 7 = 7 * ((i + 1 : Nat) : Int) by omega, show (i : Int) - rwC (n 36) (n 35 1) (n 147 3) (n 147 5) i = ((i + 1 : Nat) : Int) - (rwC (n 36) (n 35 1) (n 147 3) (n 147 5) i + 1) by omega]
      exact nxt
    · rw [if_neg o, if_pos rfl] at ez
      exact ⟨fun _ => ⟨⟨by omega, by omega⟩, ⟨by omega, by omega⟩, no (fun z => o z.2.2.2)⟩, fun z0 => absurd ez z0⟩
def brow (n : NM) : NM := mrow n (upn (upn (crow n) 145 0 0) 145 8 0)
theorem Rel.row {k : Int} (h : Rel k n) : Rel k (brow n) := by
  have hT : TR n 14 7 40 5 420 (n 147) := h.1.2.2.2.2.2.2.1
  have ic := rwC_inv (T := n 36) (L := n 35 1) (u := n 147 3) hT.2.1 hT.1 (rwK (n 35 1))
  have ib := rwB_inv (T := n 36) (L := n 35 1) (u := n 147 3) h (rwK (n 35 1))
  have cb := rwCB (T := n 36) (L := n 35 1) (u := n 147 3) (n := n) (rwK (n 35 1))
  have c147 : (upn (upn (crow n) 145 0 0) 145 8 0) 147 = n 147 := by
    unfold crow
    rw [upn_ne (by decide), upn_ne (by decide), upn_ne (by decide), upn_ne (by decide), upn_ne (by decide), ic.1 147 (by decide) (by decide)]
  have im := rwM_inv (T := n 36) (L := n 35 1) (u := n 147 3) h.numsOk.2.2.2.2.2.1.1 c147 (rwK (n 35 1))
  have mb := rwMB (T := n 36) (L := n 35 1) (u := n 147 3) c147 (rwK (n 35 1))
  have m0 : ∀ t : Nat, t ≠ 145 → t ≠ 147 → brow n t = crow n t := fun t a b => by
    unfold brow mrow
    rw [upn_ne a, upn_ne a, im.1 t b, upn_ne a, upn_ne a]
  have c0 : ∀ t : Nat, t ≠ 0 → t ≠ 35 → crow n t = rwN csg (n 36) (n 35 1) (n 147 3) (n 147 5) n (rwK (n 35 1)) t := fun t a b => by
    unfold crow
    rw [upn_ne a, upn_ne a, upn_ne b]
  generalize hB : rwN bsg (n 36) (n 35 1) (n 147 3) (n 147 5) n (rwK (n 35 1)) = B at ib cb mb
  have e : ∀ t : Nat, t ≠ 0 → t ≠ 35 → t ≠ 145 → brow n t = B t := fun t a b c => by
    by_cases q7 : t = 147
    · subst q7
      unfold brow mrow
      rw [upn_ne (by decide), upn_ne (by decide)]
      exact mb
    · rw [m0 t c q7, c0 t a b]
      by_cases q4 : t = 14
      · subst q4
        exact cb.1
      · by_cases q5 : t = 15
        · subst q5
          exact cb.2
        · rw [ic.1 t q4 q5, ib.2.1 t a q4 q5 c q7]
  have e0 : ∀ j : Int, brow n 0 j = if j = 10 then 0 else if j = 12 then (rwK (n 35 1) : Int) - rwC (n 36) (n 35 1) (n 147 3) (n 147 5) (rwK (n 35 1)) else n 0 j := fun j => by
    rw [m0 0 (by decide) (by decide)]
    unfold crow
    by_cases q : j = 10
    · rw [if_pos q, q, upn_self]
    · rw [if_neg q, upn_i q]
      by_cases q2 : j = 12
      · rw [if_pos q2, q2, upn_self]
      · rw [if_neg q2, upn_i q2, upn_a (by decide), ic.1 0 (by decide) (by decide)]
  have e145 : ∀ j : Int, brow n 145 j = if j = 1 then 0 else if j = 6 then (rwK (n 35 1) : Int) - rwC (n 36) (n 35 1) (n 147 3) (n 147 5) (rwK (n 35 1)) else if j = 8 then 0 else if j = 0 then 0 else n 145 j := fun j => by
    unfold brow mrow
    by_cases q : j = 1
    · rw [if_pos q, q, upn_self]
    · rw [if_neg q, upn_i q]
      by_cases q2 : j = 6
      · rw [if_pos q2, q2, upn_self]
      · rw [if_neg q2, upn_i q2, im.1 145 (by decide)]
        by_cases q3 : j = 8
        · rw [if_pos q3, q3, upn_self]
        · rw [if_neg q3, upn_i q3]
          by_cases q4 : j = 0
          · rw [if_pos q4, q4, upn_self]
          · rw [if_neg q4, upn_i q4]
            unfold crow
            rw [upn_a (by decide), upn_a (by decide), upn_a (by decide), ic.1 145 (by decide) (by decide)]
  have e35 : brow n 35 1 = 0 := by
    rw [m0 35 (by decide) (by decide)]
    unfold crow
    rw [upn_a (by decide), upn_a (by decide), upn_self]
  have hm := h.2.2.2.2.2.1
  obtain ⟨p0, p1, p2, p3, p4, p5, p6, p7⟩ := ib.1
  refine ⟨?_, ?_, p2.congr (fun t a b => e t (by omega) (by omega) (by omega)) (e _ (by decide) (by decide) (by decide)) (e _ (by decide) (by decide) (by decide)) (e _ (by decide) (by decide) (by decide)), p3.congr (fun t a b => e t (by omega) (by omega) (by omega)) (e _ (by decide) (by decide) (by decide)) (e _ (by decide) (by decide) (by decide)) (e _ (by decide) (by decide) (by decide)), ⟨?_, ?_, ?_, ?_⟩, ?_, p6.congr (e _ (by decide) (by decide) (by decide)) (e _ (by decide) (by decide) (by decide)) (e _ (by decide) (by decide) (by decide)) (e _ (by decide) (by decide) (by decide)) ?_, p7.congr (e _ (by decide) (by decide) (by decide))⟩
  · rw [e 147 (by decide) (by decide) (by decide)]
    exact p0.congr (fun t a b => e t (by omega) (by omega) (by omega)) (fun _ _ _ => rfl)
  · rw [e 147 (by decide) (by decide) (by decide)]
    exact p1
  · rw [e35]
    decide
  · rw [e35]
    decide
  · rw [e145, e35]
    rfl
  · intro i i0 i1
    rw [e35] at i1
    omega
  · unfold MiscRel at *
    rw [e145, e145, e145, e0, e0, e0, e 80 (by decide) (by decide) (by decide), e 146 (by decide) (by decide) (by decide), ib.2.1 80 (by decide) (by decide) (by decide) (by decide) (by decide), ib.2.1 146 (by decide) (by decide) (by decide) (by decide) (by decide)]
    exact ⟨rfl, hm.2.1, rfl, hm.2.2.2⟩
  · rw [e145, ib.2.2.2 37 (by decide) (by decide)]
    rfl
theorem st_row {k : Int} (h : Rel k n) (hk : k ≤ 900) : LStp w (d + 5) k n mX11_row [] mX12_row [] := by
  obtain ⟨t0, t1, t2, t3⟩ := h.2.2.2.2.1
  by_cases c : n 35 1 = 0
  · have r := stp_ref (w := w) (d := d + 4) h hk (v := -6) (by omega)
    have e8 : (upn (cref n (-6)) 145 0 0) 145 8 = 0 := by
      unfold cref
      rw [upn_i (by decide), upn_a (by decide), upn_a (by decide), t2, c]
    have e88 : upn (upn (cref n (-6)) 145 0 0) 145 8 0 = upn (cref n (-6)) 145 0 0 := by
      funext q j
      unfold upn at e8 ⊢
      by_cases z : q = 145 ∧ j = 8
      · rw [if_pos z, z.1, z.2]
        exact e8.symm
      · rw [if_neg z]
    exact ⟨_, _, _, EI.of (by decide +kernel) (Nat.le_of_ble_eq_true rfl) rfl (fun _ G => gX11_row_0 (EI.use s_tapeSize ⟨fun z => absurd c z, fun _ => EI.use r.1 ⟨rfl, rfl⟩⟩)),
      EI.of (by decide +kernel) (Nat.le_of_ble_eq_true rfl) rfl (fun _ G => gX12_row_0 ⟨fun z => absurd (by unfold cref; rw [upn_a (by decide), upn_a (by decide), t2, c]) z, fun _ => by rw [e88]; exact EI.use r.2.1 ⟨rfl, rfl⟩⟩), r.2.2⟩
  · have hT : TR n 14 7 40 5 420 (n 147) := h.1.2.2.2.2.2.2.1
    have ic := rwC_inv (T := n 36) (L := n 35 1) (u := n 147 3) hT.2.1 hT.1 (rwK (n 35 1))
    have e : ∀ t : Nat, t ≠ 0 → t ≠ 14 → t ≠ 15 → t ≠ 35 → crow n t = n t := fun t a b c f => by
      unfold crow
      rw [upn_ne a, upn_ne a, upn_ne f, ic.1 t b c]
    have e8 : crow n 145 8 = n 35 1 := by
      rw [e 145 (by decide) (by decide) (by decide) (by decide), t2]
    have sl := fun (G : GM) => s_rowL (w := w) (d := d) (G := G) h (rwK (n 35 1)) 0 (by omega)
    have ml := fun (G : GM) => m_rowL (w := w) (d := d) (G := G) (X := upn (upn (crow n) 145 0 0) 145 8 0) h (by rw [upn_ne (by decide), upn_ne (by decide)]; exact e 147 (by decide) (by decide) (by decide) (by decide)) (by rw [upn_ne (by decide), upn_ne (by decide)]; exact e 150 (by decide) (by decide) (by decide) (by decide)) (rwK (n 35 1)) 0 (by omega)
    refine ⟨_, crow n, brow n, EI.of (by decide +kernel) (Nat.le_of_ble_eq_true rfl) rfl (fun _ G => gX11_row_0 (EI.use s_tapeSize ⟨fun _ => sl G, fun z => absurd z c⟩)), EI.of (by decide +kernel) (Nat.le_of_ble_eq_true rfl) rfl (fun _ G => gX12_row_0 ⟨fun _ => ?_, fun z => absurd (by rw [← e8]; exact z) c⟩), h.row.le (by omega)⟩
    rw [e8]
    exact ml G
end ROWS
