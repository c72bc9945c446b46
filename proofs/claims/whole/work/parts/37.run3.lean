section RUN3
variable {w : WD} {d : Nat} {n : NM} {G : GM} {Q : Option AV → Hp → Prop}
theorem s_fillL {B : HB} {a L : Nat} {x : Int} (oa : Obj B a 100 L) (hL : (L : Int) ≤ 100000) : ∀ (m j : Nat), j + m = L → Rn w mJ7_fill_53178 d G (fun r h' => r = none ∧ h' = (B, wrow n a 0 (L : Int) (fun _ => x))) 5 [(0, vr a), (1, vi x), (2, vi (j : Int)), (3, vi (L : Int))] [] (B, wrow n a 0 (j : Int) (fun _ => x))
  | 0, j, hj => by
    have ej : j = L := by omega
    subst ej
    exact gJ7_fill_53178_5 oa ⟨fun _ => ⟨rfl, rfl⟩, fun c => absurd c (by omega)⟩
  | m + 1, j, hj => by
    have nxt := s_fillL (x := x) oa hL m (j + 1) (by omega)
    refine gJ7_fill_53178_5 oa ⟨fun c => absurd c (by omega), fun _ => ⟨by omega, by omega, ⟨by omega, by omega⟩, ?_⟩⟩
    rw [wrow_more (by omega) (by omega) rfl]
    exact nxt
/-- the class's numbers -/
def csR (n : NM) (z : RS) : NM := upn (wrow n 79 0 36 z.2.2) 77 2 z.2.1
theorem csR_t {z : RS} {t : Nat} (h : t ≠ 77) (h2 : t ≠ 79) : csR n z t = n t := by
  unfold csR
  rw [upn_ne h, wrow_ne h2]
theorem csR_s {z : RS} : csR n z 77 2 = z.2.1 := upn_self _ _ _ _
theorem csR_f {z : RS} {i : Int} (i0 : 0 ≤ i) (i1 : i < 36) : csR n z 79 i = z.2.2 i := by
  unfold csR
  rw [upn_ne (by decide), wrow_in (by omega) (by omega), Int.sub_zero]
theorem csR_up {z : RS} {s c : Int} : upn (csR n z) 77 2 s = csR n (c, s, z.2.2) := upn_upn
theorem csR_put {z : RS} {p v : Int} (p0 : 0 ≤ p) (p1 : p < 36) (hv : v = z.2.2 p + 1) : upn (csR n z) 79 p v = csR n (z.1, z.2.1, fun i => if i = p then z.2.2 i + 1 else z.2.2 i) := by
  subst hv
  funext a j
  by_cases c : a = 79
  · subst c
    by_cases c2 : j = p
    · subst c2
      rw [upn_self, csR_f p0 p1]
      exact (if_pos rfl).symm
    · rw [upn_i c2]
      by_cases c3 : 0 ≤ j ∧ j < 36
      · rw [csR_f c3.1 c3.2, csR_f c3.1 c3.2]
        exact (if_neg c2).symm
      · unfold csR
        rw [upn_ne (by decide), upn_ne (by decide), wrow_out (by omega), wrow_out (by omega)]
  · rw [upn_a c]
    unfold csR
    by_cases c2 : a = 77 ∧ j = 2
    · rw [c2.1, c2.2, upn_self, upn_self]
    · rw [upn_ap, upn_ap, if_neg c2, if_neg c2, wrow_a c, wrow_a c]
theorem s_dayL {x days : Int} {D : Nat} {z : RS} (hL : LakeRel n 1 (n 147)) (hr : RowOk (n 147)) (hn : NumsOk (n 147)) (hT : TW n 78 3 12) (hN : n 78 3 = n 147 3) (x0 : 0 ≤ x) (x1 : x < n 147 7) (hD : D ≤ 59) (hz : InvR D 0 z)
    (K : Rn w mX10_make (d + 4) G Q 32 [(0, vr 77), (1, vr 1), (2, vi x), (3, vi days), (5, vi (dayR (n 147) x (D : Int) (n 147 3).toNat z).1), (6, vi ((D : Int) + 1))] [] (B0, csR n (dayR (n 147) x (D : Int) (n 147 3).toNat z))) :
    ∀ (m j : Nat), (j : Int) + m = n 147 3 → Rn w mX10_make (d + 4) G Q 41 [(0, vr 77), (1, vr 1), (2, vi x), (3, vi days), (5, vi (dayR (n 147) x (D : Int) j z).1), (6, vi (D : Int)), (7, vi (j : Int))] [] (B0, csR n (dayR (n 147) x (D : Int) j z))
  | 0, j, hj => by
    have ej : (n 147 3).toNat = j := by omega
    have hs : n 10 3 = n 147 3 := hL.2.2.2.2.1.2.1
    rw [ej] at K
    exact gX10_make_41 (EI.use (s_size ob_10 (c := 11) rfl ob_11) ⟨fun _ => ⟨⟨by omega, by omega⟩, K⟩, fun c => absurd c (by rw [csR_t (by decide) (by decide)]; omega)⟩)
  | m + 1, j, hj => by
    have nxt := s_dayL hL hr hn hT hN x0 x1 hD hz K m (j + 1) (by omega)
    have hs : n 10 3 = n 147 3 := hL.2.2.2.2.1.2.1
    have h3 := hn.2.2.2.1
    have iv := dayR_inv (r := n 147) (x := x) (day := (D : Int)) hz j
    have e : dayR (n 147) x (D : Int) (j + 1) z = stepR (n 147) x (D : Int) j (dayR (n 147) x (D : Int) j z) := rfl
    rw [e] at nxt
    generalize dayR (n 147) x (D : Int) j z = y at iv nxt ⊢
    obtain ⟨i1, i2, i3⟩ := iv
    have dl := drS_le (s := y.2.1)
    have eR : ∀ y : RS, csR n y 147 = n 147 := fun y => csR_t (by decide) (by decide)
    have hLy : ∀ y : RS, LakeRel (csR n y) 1 (csR n y 147) := fun y => by
      rw [eR]
      exact hL.congr (fun t a b => csR_t (by omega) (by omega)) (fun _ _ _ => rfl)
    have hTy : ∀ y : RS, TW (csR n y) 78 3 12 := fun y => hT.congr (csR_t (by decide) (by decide))
    have hNy : ∀ y : RS, csR n y 78 3 = n 147 3 := fun y => by
      rw [csR_t (by decide) (by decide)]
      exact hN
    have dr := s_draw (w := w) (d := d + 3) (n := csR n y) (m := 100) (by rw [csR_s]; exact i1.1) (by rw [csR_s]; exact i1.2) (by decide)
    rw [csR_s, csR_up (c := y.1)] at dr
    have lk := s_look (w := w) (d := d) (n := csR n (y.1, drS y.2.1, y.2.2)) (x := x) (day := (D : Int)) (hLy _) (by rw [eR]; exact hr) x0 (by rw [eR]; exact x1) (by omega) (by omega) (by rw [csR_s]; exact dl.1) (by rw [csR_s]; exact dl.2)
    rw [csR_s, eR, csR_up (c := y.1 + 1)] at lk
    dsimp only at lk
    have b1 := hr.2.2.2.1 j (by omega) (by omega)
    have b2 := dy_le hr (p := 20 + 3 * (D : Int) + 2) (by omega) (by omega)
    have lq := lookQ_le (r := n 147) (x := x) (day := (D : Int)) (s := drS y.2.1)
    have g1 := s_tr (w := w) (d := d + 2) (n := csR n y) (i := (j : Int)) (j := 0) (p := 330 + (j : Int)) ob_10 rfl ob_11 (hLy y).2.2.2.2.1 rfl (by decide) (by omega) (by rw [eR]; omega) (by decide) (by decide) (by omega)
    have g2 := s_fr (w := w) (d := d + 2) (n := csR n (y.1, drS y.2.1, y.2.2)) (i := (D : Int)) (j := 2) (p := 20 + 3 * (D : Int) + 2) ob_2 rfl ob_3 (hLy _).1 rfl (by decide) (by omega) (by omega) (by decide) (by decide) rfl
    rw [eR] at g1 g2
    refine gX10_make_41 (EI.use (s_size ob_10 (c := 11) rfl ob_11) ⟨fun c => absurd c (by rw [csR_t (by decide) (by decide)]; omega), fun _ => EI.use g1 (EI.use dr (EI.use g2 ⟨⟨by omega, by omega⟩, fun c => ⟨⟨by omega, by omega⟩, ?_⟩, fun c => ⟨⟨by omega, by omega⟩, EI.use lk ?_⟩⟩))⟩)
    · rw [show stepR (n 147) x (D : Int) j y = (y.1, drS y.2.1, y.2.2) from if_pos c] at nxt
      exact nxt
    · have q := i3 (3 * (j : Int) + lookQ (n 147) x (D : Int) (drS y.2.1)) (by omega) (by omega)
      rw [if_neg (by omega)] at q
      have ep : (j : Int) * 3 + lookQ (n 147) x (D : Int) (drS y.2.1) = 3 * (j : Int) + lookQ (n 147) x (D : Int) (drS y.2.1) := by omega
      have g3 := s_get (w := w) (d := d + 2) (n := csR n (y.1 + 1, lookS (n 147) x (D : Int) (drS y.2.1), y.2.2)) ob_78 (c := 79) rfl ob_79 (hTy _) rfl (by decide) (j : Int) (lookQ (n 147) x (D : Int) (drS y.2.1))
      rw [tg_in (hTy _) (by omega) (by rw [hNy]; omega) lq.1 (by omega), ep, csR_f (by omega) (by omega)] at g3
      dsimp only at g3
      have g4 := s_set (w := w) (d := d + 2) (n := csR n (y.1 + 1, lookS (n 147) x (D : Int) (drS y.2.1), y.2.2)) ob_78 (c := 79) rfl ob_79 (hTy _) rfl (by decide) (j : Int) (lookQ (n 147) x (D : Int) (drS y.2.1)) (y.2.2 (3 * (j : Int) + lookQ (n 147) x (D : Int) (drS y.2.1)) + 1)
      rw [tset_eq (hTy _) (by omega) (by rw [hNy]; omega) lq.1, if_pos (by omega), ep, csR_put (by omega) (by omega) rfl] at g4
      rw [show stepR (n 147) x (D : Int) j y = (y.1 + 1, lookS (n 147) x (D : Int) (drS y.2.1), fun i => if i = 3 * (j : Int) + lookQ (n 147) x (D : Int) (drS y.2.1) then y.2.2 i + 1 else y.2.2 i) from if_neg (by omega)] at nxt
      exact EI.use g3 ⟨⟨by omega, by omega⟩, EV.use g4 ⟨⟨by omega, by omega⟩, nxt⟩⟩
end RUN3
