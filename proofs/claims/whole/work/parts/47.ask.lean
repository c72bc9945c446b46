section ASKC
variable {w : WD} {d : Nat} {n : NM}
def RunTo (stp : Int → List Int → Option (Option (Int × List Int))) (p q : Int) (o : Option Int) : Prop := ∃ f : Nat, vmz stp f p q [] = some (o.map (fun x => (q, [x])))
/-- what clause c tells, by both machines -/
def ClEv (K V C R W : Int → Int) (c : Int) (o : Option Int) : Prop :=
  ∃ s : Option Int, RunTo (cstep K V W) (C (4 * c + 1)) (C (4 * c + 2)) s ∧ RunTo (mstep R W) (R (902 + 8 * c + 3)) (R (902 + 8 * c + 4)) s ∧
    ((C (4 * c + 2) = C (4 * c + 3) ∧ R (902 + 8 * c + 5) = R (902 + 8 * c + 6) ∧ o = s) ∨
     (C (4 * c + 2) < C (4 * c + 3) ∧ R (902 + 8 * c + 5) < R (902 + 8 * c + 6) ∧ ∃ t : Option Int, RunTo (cstep K V W) (C (4 * c + 2)) (C (4 * c + 3)) t ∧ RunTo (mstep R W) (R (902 + 8 * c + 5)) (R (902 + 8 * c + 6)) t ∧ o = (match t with
      | none => none
      | some v => if v = 0 then none else s)))
theorem Den.run {stp : (Int → Int) → Int → List Int → Option (Option (Int × List Int))} {p q : Int} {F : DEN} (h : Den stp p q F) (W : Int → Int) : RunTo (stp W) p q (F W) := h.2 W []
theorem ClauseRel.ev {K V C R W : Int → Int} {NC NR c : Int} (h : ClauseRel K V C R NC NR c) : ∃ o, ClEv K V C R W c o := by
  obtain ⟨_, _, _, _, _, _, _, _, _, _, _, _, ⟨F, f1, f2⟩, h2⟩ := h
  rcases h2 with ⟨a, b⟩ | ⟨a, b, F2, _, g1, g2⟩
  · exact ⟨F W, F W, f1.run W, f2.run W, Or.inl ⟨a, b, rfl⟩⟩
  · exact ⟨_, F W, f1.run W, f2.run W, Or.inr ⟨a, b, F2 W, g1.run W, g2.run W, rfl⟩⟩
theorem s_work {K V W : Int → Int} {NS p q : Int} {o : Option Int} (hC : CodeC K V NS) (hI : InC n K V W NS) (p0 : 0 ≤ p) (p1 : p ≤ NS) (q1 : q ≤ NS) (hr : RunTo (cstep K V W) p q o) : Ev w (d + 4) 0 0 mX0_work [vr 47, vr 16, vi p, vi q] (B0, n) (fun r h' => ∃ (x1 : Int) (n1 : NM), r = some (vi x1) ∧ h' = (B0, n1) ∧ FrW n1 n ∧ match o with
    | some v => n1 47 2 = 0 ∧ x1 = v
    | none => n1 47 2 = 1) := by
  obtain ⟨f, hf⟩ := hr
  have f1 : FrW (upn (upn n 47 1 0) 47 2 0) n := (FrW.h (by decide)).tr (FrW.h (by decide))
  refine Ev.mono (EI.ofP (P := WkP n (o.map (fun x => (q, [x])))) (by decide +kernel) (Nat.le_of_ble_eq_true rfl) rfl (fun _ G => gX0_work_0 (s_workL hC q1 f _ p [] (hI.fr f1) ⟨?_, trivial, fun x hx => by cases hx⟩ (upn_self _ _ _ _) ?_ p0 p1 f1 hf))) (fun r h' z => ?_)
  · rw [upn_i (by decide), upn_self]
    rfl
  · have := pushN_mono (K := K) (a := 0) (b := p.toNat) (by omega)
    exact this
  · obtain ⟨x1, n1, a, b, c⟩ := z
    refine ⟨x1, n1, a, b, c.1, ?_⟩
    have c2 := c.2
    cases o with
    | none => exact c2
    | some v => exact ⟨c2.1, c2.2 v [] rfl⟩
def clH (h v : Int) : Int := max (if h = 5 then 1 else 0) (min v 1000)
/-- behind clause c -/
def HrP (n : NM) (h : Int) (o : Option Int) (n1 : NM) : Prop := (∀ t : Nat, t ≠ 47 → t ≠ 48 → t ≠ 50 → n1 t = n t) ∧ n1 47 5 = n 47 5 ∧ ∀ j, n1 50 j = if j = h then (match o with | some v => clH h v | none => n 50 j) else n 50 j
theorem s_clG {c j : Int} (hT : TW n 19 4 12) (c0 : 0 ≤ c) (c1 : c < n 19 3) (j0 : 0 ≤ j) (j1 : j < 4) : EI w (d + 1) mX7_get [vr 19, vi c, vi j] B0 n (cutF (n 20) 48 (4 * c + j)) n := by
  have q := s_get (w := w) (d := d) (n := n) ob_19 (c := 20) rfl ob_20 hT (by decide) (by decide) c j
  have h4 := hT.2.2.2
  rw [tg_in hT c0 c1 j0 j1, show c * 4 + j = 4 * c + j by omega, show n 20 (4 * c + j) = cutF (n 20) 48 (4 * c + j) from (if_pos (by omega)).symm] at q
  exact q
theorem s_head {c : Int} (hT : TW n 19 4 12) (c0 : 0 ≤ c) (c1 : c < n 19 3) : EI w (d + 2) mX2_headOf [vr 16, vi c] B0 n (cutF (n 20) 48 (4 * c)) n := by
  have q := s_clG (w := w) (d := d) hT c0 c1 (j := 0) (by decide) (by decide)
  rw [show 4 * c + 0 = 4 * c by omega] at q
  exact EI.of (by decide +kernel) (Nat.le_of_ble_eq_true rfl) rfl (fun _ G => gX2_headOf_0 ob_16 (k := 17) (v := 18) (t := 19) rfl rfl rfl ob_17 ob_18 ob_19 (EI.use q ⟨rfl, rfl⟩))
theorem s_sumOf {c : Int} (hT : TW n 19 4 12) (c0 : 0 ≤ c) (c1 : c < n 19 3) : EI w (d + 2) mX2_sumOf [vr 16, vi c] B0 n (cutF (n 20) 48 (4 * c + 1)) n :=
  EI.of (by decide +kernel) (Nat.le_of_ble_eq_true rfl) rfl (fun _ G => gX2_sumOf_0 ob_16 (k := 17) (v := 18) (t := 19) rfl rfl rfl ob_17 ob_18 ob_19 (EI.use (s_clG (w := w) (d := d) hT c0 c1 (j := 1) (by decide) (by decide)) ⟨rfl, rfl⟩))
theorem s_testOf {c : Int} (hT : TW n 19 4 12) (c0 : 0 ≤ c) (c1 : c < n 19 3) : EI w (d + 2) mX2_testOf [vr 16, vi c] B0 n (cutF (n 20) 48 (4 * c + 2)) n :=
  EI.of (by decide +kernel) (Nat.le_of_ble_eq_true rfl) rfl (fun _ G => gX2_testOf_0 ob_16 (k := 17) (v := 18) (t := 19) rfl rfl rfl ob_17 ob_18 ob_19 (EI.use (s_clG (w := w) (d := d) hT c0 c1 (j := 2) (by decide) (by decide)) ⟨rfl, rfl⟩))
theorem s_endOf {c : Int} (hT : TW n 19 4 12) (c0 : 0 ≤ c) (c1 : c < n 19 3) : EI w (d + 2) mX2_endOf [vr 16, vi c] B0 n (cutF (n 20) 48 (4 * c + 3)) n :=
  EI.of (by decide +kernel) (Nat.le_of_ble_eq_true rfl) rfl (fun _ G => gX2_endOf_0 ob_16 (k := 17) (v := 18) (t := 19) rfl rfl rfl ob_17 ob_18 ob_19 (EI.use (s_clG (w := w) (d := d) hT c0 c1 (j := 3) (by decide) (by decide)) ⟨rfl, rfl⟩))
theorem s_hear {K V C R W : Int → Int} {NS NR c : Int} {o : Option Int} (hC : CodeC K V NS) (hI : InC n K V W NS) (hT : TW n 19 4 12) (eC : cutF (n 20) 48 = C) (c0 : 0 ≤ c) (c1 : c < n 19 3) (hR : ClauseRel K V C R NS NR c) (ho : ClEv K V C R W c o) : Ev w (d + 5) 0 0 mX0_hear [vr 47, vr 16, vi c] (B0, n) (fun r h' => ∃ n1 : NM, r = none ∧ h' = (B0, n1) ∧ HrP n (C (4 * c)) o n1) := by
  subst eC
  obtain ⟨s, r1, _, ho⟩ := ho
  obtain ⟨_, h0, h5, b0, b1, b2, b3, _⟩ := hR
  have hs : ∀ (N : NM) (G : GM), FrW N n → (o = s) → Rn w mX0_hear (d + 5) G (fun r h' => ∃ n1 : NM, r = none ∧ h' = (B0, n1) ∧ HrP n (cutF (n 20) 48 (4 * c)) o n1) 67 [(0, vr 47), (1, vr 16), (2, vi c), (3, vi (cutF (n 20) 48 (4 * c)))] [] (B0, N) := by
    intro N G f e
    subst e
    have e19 := f.1 19 (by decide) (by decide)
    have e20 := f.1 20 (by decide) (by decide)
    have a1 := s_sumOf (w := w) (d := d + 2) (hT.congr e19) c0 (by rw [e19]; exact c1)
    have a2 := s_testOf (w := w) (d := d + 2) (hT.congr e19) c0 (by rw [e19]; exact c1)
    rw [e20] at a1 a2
    refine gX0_hear_67 (EI.use a1 (EI.use a2 (EI.usP (s_work hC (hI.fr f) b0 (by omega) (by omega) r1) (fun x1 n1 z => ⟨fun q => ?_, fun q => fun z29 ez => ⟨by omega, by omega, _, rfl, rfl, ?_⟩⟩))))
    · refine ⟨_, rfl, rfl, fun t t0 t1 t2 => (z.1.1 t t0 t1).trans (f.1 t t0 t1), z.1.2.trans f.2, fun j => ?_⟩
      have z2 := z.2
      cases o with
      | none =>
        rw [z.1.1 50 (by decide) (by decide), f.1 50 (by decide) (by decide)]
        split <;> rfl
      | some v => exact absurd z2.1 q
    · refine ⟨fun t t0 t1 t2 => (upn_ne t2).trans ((z.1.1 t t0 t1).trans (f.1 t t0 t1)), by rw [upn_a (by decide)]; exact z.1.2.trans f.2, fun j => ?_⟩
      have z2 := z.2
      cases o with
      | none =>
        rw [show n1 47 2 = 1 from z2] at q
        cases q
      | some v =>
        have z3 : x1 = v := z2.2
        by_cases k : j = cutF (n 20) 48 (4 * c)
        · rw [if_pos k, k, upn_self, ez, z3]
          unfold clH
          by_cases k5 : cutF (n 20) 48 (4 * c) = 5
          · rw [if_neg (not_not_intro k5), if_pos k5]
          · rw [if_pos k5, if_neg k5]
        · rw [if_neg k, upn_i k, z.1.1 50 (by decide) (by decide), f.1 50 (by decide) (by decide)]
  refine EV.ofP (by decide +kernel) (Nat.le_of_ble_eq_true rfl) rfl (fun _ G => gX0_hear_0 (EI.use (s_head (d := d + 2) hT c0 c1) (EI.use (s_testOf (d := d + 2) hT c0 c1) (EI.use (s_endOf (d := d + 2) hT c0 c1) (fun z ez => ⟨fun k => absurd k (by omega), fun _ => ⟨fun _ => ⟨fun k => ?_, fun k => EI.use (s_testOf (d := d + 2) hT c0 c1) (EI.use (s_endOf (d := d + 2) hT c0 c1) ?_)⟩, fun k => absurd k (by omega)⟩⟩)))))
  · rcases ho with ho | ho
    · exact hs n G FrW.rf ho.2.2
    · rw [if_neg (by omega)] at ez
      exact absurd k (by omega)
  · rcases ho with ho | ho
    · rw [if_pos (by omega)] at ez
      exact absurd ez k
    · obtain ⟨_, _, t, t1, _, et⟩ := ho
      refine EI.usP (s_work hC hI (by omega) (by omega) (by omega) t1) (fun x1 n1 z => ?_)
      have z2 := z.2
      have same : HrP n (cutF (n 20) 48 (4 * c)) none n1 := ⟨fun t t0 t1 t2 => z.1.1 t t0 t1, z.1.2, fun j => by
        rw [z.1.1 50 (by decide) (by decide)]
        split <;> rfl⟩
      cases t with
      | none =>
        have e2 : o = none := et
        subst e2
        have z3 : n1 47 2 = 1 := z2
        exact ⟨fun q => ⟨_, rfl, rfl, same⟩, fun q => ⟨fun k2 => absurd k2 (by omega), fun k2 => ⟨_, rfl, rfl, same⟩⟩⟩
      | some v =>
        have z3 : n1 47 2 = 0 ∧ x1 = v := z2
        have e2 : o = if v = 0 then none else s := et
        by_cases k0 : v = 0
        · rw [if_pos k0] at e2
          subst e2
          exact ⟨fun q => ⟨_, rfl, rfl, same⟩, fun q => absurd (z3.2.trans k0) q⟩
        · rw [if_neg k0] at e2
          exact ⟨fun q => absurd (z3.2.symm.trans q) k0, fun q => ⟨fun k2 => hs n1 G z.1 e2, fun k2 => absurd z3.1 k2⟩⟩
/-- what an asker knows of the sight at s -/
def wdS (r : Int → Int) (s : Int) (i : Int) : Int := if i = 0 then r (s + 4) else if i = 1 then r (s + 5) else if i = 2 then r (20 + 3 * r s) else if i = 3 then r (20 + 3 * r s + 1) else if i = 4 then r (20 + 3 * r s + 2) else if i = 5 then goneV r s else if i = 6 then r (s + 2) else if i = 7 then r (s + 1) else r (s + 6) - r s
theorem gone_le {r : Int → Int} {s : Int} (h0 : 0 ≤ r (s + 1)) : 0 ≤ goneV r s ∧ goneV r s ≤ r (s + 1) + 1 := by
  have h := goneF_le (r := r) (s := s) h0 (r 0).toNat
  unfold goneV
  split <;> omega
theorem wdS_le {r : Int → Int} (hr : RowOk r) {x : Int} (x0 : 0 ≤ x) (x1 : x < r 5) : ∀ i, inZ (wdS r (420 + 7 * x) i) := by
  intro i
  have q := hr.2.2.2.2.2.1 x x0 x1
  have g := gone_le (r := r) (s := 420 + 7 * x) q.2.1.1
  have d0 := dy_le hr (p := 20 + 3 * r (420 + 7 * x)) (by omega) (by omega)
  have d1 := dy_le hr (p := 20 + 3 * r (420 + 7 * x) + 1) (by omega) (by omega)
  have d2 := dy_le hr (p := 20 + 3 * r (420 + 7 * x) + 2) (by omega) (by omega)
  unfold wdS
  repeat' split
  all_goals exact ⟨by omega, by omega⟩
theorem s_setWords {x : Int} (hL : LakeRel n 1 (n 147)) (hr : RowOk (n 147)) (x0 : 0 ≤ x) (x1 : x < n 147 5) : Ev w (d + 4) 0 0 mX0_setWords [vr 47, vr 1, vi x] (B0, n) (fun r h' => ∃ n1 : NM, r = none ∧ h' = (B0, n1) ∧ (∀ t : Nat, t ≠ 49 → n1 t = n t) ∧ ∀ i, 0 ≤ i → i < 9 → n1 49 i = wdS (n 147) (420 + 7 * x) i) := by
  have q := hr.2.2.2.2.2.1 x x0 x1
  have gS : ∀ (N : NM) (j p : Int), (∀ t : Nat, t ≠ 49 → N t = n t) → 0 ≤ j → j < 7 → p = 420 + 7 * x + j → EI w (d + 3) mX7_get [vr 14, vi x, vi j] B0 N (n 147 p) N := fun N j p hN j0 j1 hp => by
    have hL2 : LakeRel N 1 (N 147) := by
      rw [hN 147 (by decide)]
      exact hL.congr (fun t a b => hN t (by omega)) (fun _ _ _ => rfl)
    have := s_tr (w := w) (d := d + 2) (n := N) ob_14 rfl ob_15 (hL2.2.2.2.2.2.2.1 : TR N 14 7 40 5 420 (N 147)) (by decide) (by decide) x0 (by rw [hN 147 (by decide)]; exact x1) j0 j1 hp
    rw [hN 147 (by decide)] at this
    exact this
  have gD : ∀ (N : NM) (j p : Int), (∀ t : Nat, t ≠ 49 → N t = n t) → 0 ≤ j → j < 3 → p = 20 + 3 * n 147 (420 + 7 * x) + j → EI w (d + 3) mX7_get [vr 2, vi (n 147 (420 + 7 * x)), vi j] B0 N (n 147 p) N := fun N j p hN j0 j1 hp => by
    have hL2 : LakeRel N 1 (N 147) := by
      rw [hN 147 (by decide)]
      exact hL.congr (fun t a b => hN t (by omega)) (fun _ _ _ => rfl)
    have := s_fr (w := w) (d := d + 2) (n := N) ob_2 rfl ob_3 (hL2.1 : FR N 2 3 60 20 (N 147)) (by decide) (by decide) (i := n 147 (420 + 7 * x)) (by omega) (by omega) j0 j1 hp
    rw [hN 147 (by decide)] at this
    exact this
  have gG : ∀ (N : NM), (∀ t : Nat, t ≠ 49 → N t = n t) → EI w (d + 3) mX1_goneAtSight [vr 1, vi x] B0 N (goneV (n 147) (420 + 7 * x)) N := fun N hN => by
    have e := hN 147 (by decide)
    have := s_gone (w := w) (d := d) (n := N) (x := x) (by rw [e]; exact hL.congr (fun t a b => hN t (by omega)) (fun _ _ _ => rfl)) (by rw [e]; exact hr) x0 (by rw [e]; exact x1)
    rw [e] at this
    exact this
  have U : ∀ (N : NM) (i v : Int), (∀ t : Nat, t ≠ 49 → N t = n t) → ∀ t : Nat, t ≠ 49 → upn N 49 i v t = n t := fun N i v h t ht => (upn_ne ht).trans (h t ht)
  have r0 : ∀ t : Nat, t ≠ 49 → n t = n t := fun _ _ => rfl
  refine EV.ofP (by decide +kernel) (Nat.le_of_ble_eq_true rfl) rfl (fun _ G => gX0_setWords_0 (EI.use (gS _ 0 _ r0 (by decide) (by decide) (Int.add_zero _).symm) (EI.use (gS _ 4 _ r0 (by decide) (by decide) rfl) (EI.use (gS _ 5 _ (U _ _ _ r0) (by decide) (by decide) rfl) (EI.use (gD _ 0 _ (U _ _ _ (U _ _ _ r0)) (by decide) (by decide) (Int.add_zero _).symm) (EI.use (gD _ 1 _ (U _ _ _ (U _ _ _ (U _ _ _ r0))) (by decide) (by decide) rfl) (EI.use (gD _ 2 _ (U _ _ _ (U _ _ _ (U _ _ _ (U _ _ _ r0)))) (by decide) (by decide) rfl) (EI.use (gG _ (U _ _ _ (U _ _ _ (U _ _ _ (U _ _ _ (U _ _ _ r0)))))) (EI.use (gS _ 2 _ (U _ _ _ (U _ _ _ (U _ _ _ (U _ _ _ (U _ _ _ (U _ _ _ r0)))))) (by decide) (by decide) rfl) (EI.use (gS _ 1 _ (U _ _ _ (U _ _ _ (U _ _ _ (U _ _ _ (U _ _ _ (U _ _ _ (U _ _ _ r0))))))) (by decide) (by decide) rfl) (EI.use (gS _ 6 _ (U _ _ _ (U _ _ _ (U _ _ _ (U _ _ _ (U _ _ _ (U _ _ _ (U _ _ _ (U _ _ _ r0)))))))) (by decide) (by decide) rfl) ⟨⟨by omega, by omega⟩, _, rfl, rfl, U _ _ _ (U _ _ _ (U _ _ _ (U _ _ _ (U _ _ _ (U _ _ _ (U _ _ _ (U _ _ _ (U _ _ _ r0)))))))), fun i i0 i1 => ?_⟩)))))))))))
  unfold wdS
  by_cases c0 : i = 0
  · rw [if_pos c0, c0, upn_i (by decide), upn_i (by decide), upn_i (by decide), upn_i (by decide), upn_i (by decide), upn_i (by decide), upn_i (by decide), upn_i (by decide), upn_self]
  rw [if_neg c0]
  by_cases c1 : i = 1
  · rw [if_pos c1, c1, upn_i (by decide), upn_i (by decide), upn_i (by decide), upn_i (by decide), upn_i (by decide), upn_i (by decide), upn_i (by decide), upn_self]
  rw [if_neg c1]
  by_cases c2 : i = 2
  · rw [if_pos c2, c2, upn_i (by decide), upn_i (by decide), upn_i (by decide), upn_i (by decide), upn_i (by decide), upn_i (by decide), upn_self]
  rw [if_neg c2]
  by_cases c3 : i = 3
  · rw [if_pos c3, c3, upn_i (by decide), upn_i (by decide), upn_i (by decide), upn_i (by decide), upn_i (by decide), upn_self]
  rw [if_neg c3]
  by_cases c4 : i = 4
  · rw [if_pos c4, c4, upn_i (by decide), upn_i (by decide), upn_i (by decide), upn_i (by decide), upn_self]
  rw [if_neg c4]
  by_cases c5 : i = 5
  · rw [if_pos c5, c5, upn_i (by decide), upn_i (by decide), upn_i (by decide), upn_self]
  rw [if_neg c5]
  by_cases c6 : i = 6
  · rw [if_pos c6, c6, upn_i (by decide), upn_i (by decide), upn_self]
  rw [if_neg c6]
  by_cases c7 : i = 7
  · rw [if_pos c7, c7, upn_i (by decide), upn_self]
  rw [if_neg c7, show i = 8 by omega, upn_self]
/-- what the clauses up to k tell of a head, wd without one -/
def tellA (T : Int → Option Int) (H : Int → Int) (h wd : Int) : Nat → Int
  | 0 => wd
  | k + 1 => if H (k : Int) = h then (match T (k : Int) with
    | some v => v
    | none => tellA T H h wd k) else tellA T H h wd k
/-- an asker behind k clauses -/
def AkP (n : NM) (T : Int → Option Int) (H : Int → Int) (k : Nat) (n1 : NM) : Prop := (∀ t : Nat, t ≠ 47 → t ≠ 48 → t ≠ 50 → n1 t = n t) ∧ n1 47 5 = n 47 5 ∧ ∀ j, 0 ≤ j → j < 6 → n1 50 j = clH j (tellA T H j (if j = 5 then 100 else 0) k)
theorem s_askL {G : GM} {K V C R W : Int → Int} {NS NR : Int} {T : Int → Option Int} {n0 : NM} (hC : CodeC K V NS) (hI : InC n0 K V W NS) (hT : TW n0 19 4 12) (eC : cutF (n0 20) 48 = C) (hR : ∀ c, 0 ≤ c → c < n0 19 3 → ClauseRel K V C R NS NR c) (ho : ∀ c, 0 ≤ c → c < n0 19 3 → ClEv K V C R W c (T c)) : ∀ (m k : Nat) (n : NM), (k : Int) + m = n0 19 3 → AkP n0 T (fun c => C (4 * c)) k n →
    Rn w mX0_ask (d + 6) G (fun r h' => ∃ n1 : NM, r = none ∧ h' = (B0, n1) ∧ AkP n0 T (fun c => C (4 * c)) (n0 19 3).toNat n1) 33 [(0, vr 47), (1, vr 1), (3, vi (k : Int))] [] (B0, n)
  | 0, k, n, hk, hA => by
    have e19 : n 19 = n0 19 := hA.1 19 (by decide) (by decide) (by decide)
    refine gX0_ask_33 (EI.use (s_lawSize ob_16 (k := 17) (v := 18) (t := 19) rfl rfl rfl ob_17 ob_18 ob_19 (c := 20) rfl ob_20) ⟨fun _ => ⟨_, rfl, rfl, ?_⟩, fun z => absurd z (by rw [e19]; omega)⟩)
    rw [show (n0 19 3).toNat = k by omega]
    exact hA
  | m + 1, k, n, hk, hA => by
    have e19 : n 19 = n0 19 := hA.1 19 (by decide) (by decide) (by decide)
    have e20 : n 20 = n0 20 := hA.1 20 (by decide) (by decide) (by decide)
    have k1 : (k : Int) < n0 19 3 := by omega
    have hI2 : InC n K V W NS := by
      refine ⟨fun p a b => ?_, fun i a b => ?_⟩
      · rw [hA.1 17 (by decide) (by decide) (by decide), hA.1 18 (by decide) (by decide) (by decide)]
        exact hI.1 p a b
      · rw [hA.1 49 (by decide) (by decide) (by decide)]
        exact hI.2 i a b
    have h12 := hT.2.2.2
    have hr := hR k (by omega) k1
    have hh := hr.2.1
    have hh2 := hr.2.2.1
    refine gX0_ask_33 (EI.use (s_lawSize ob_16 (k := 17) (v := 18) (t := 19) rfl rfl rfl ob_17 ob_18 ob_19 (c := 20) rfl ob_20) ⟨fun z => absurd z (by rw [e19]; omega), fun _ => EV.usP (s_hear hC hI2 (hT.congr e19) (by rw [e20]; exact eC) (by omega) (by rw [e19]; exact k1) hr (ho k (by omega) k1)) (fun n1 z => ⟨⟨by omega, by omega⟩, s_askL hC hI hT eC hR ho m (k + 1) n1 (by omega) ⟨fun t a b c => (z.1 t a b c).trans (hA.1 t a b c), z.2.1.trans hA.2.1, fun j j0 j1 => ?_⟩⟩)⟩)
    rw [z.2.2 j]
    show _ = clH j (if C (4 * (k : Int)) = j then (match T (k : Int) with
      | some v => v
      | none => tellA T (fun c => C (4 * c)) j (if j = 5 then 100 else 0) k) else tellA T (fun c => C (4 * c)) j (if j = 5 then 100 else 0) k)
    by_cases q : j = C (4 * (k : Int))
    · rw [if_pos q, if_pos q.symm]
      cases hTk : T (k : Int) with
      | none => exact hA.2.2 j j0 j1
      | some v =>
        show clH (C (4 * (k : Int))) v = clH j v
        rw [q]
    · rw [if_neg q, if_neg (fun z => q z.symm)]
      exact hA.2.2 j j0 j1
end ASKC
