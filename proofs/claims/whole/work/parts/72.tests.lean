section PTESTS
variable {w : WD} {d : Nat} {T : Int → Int} {L : Int} {iE : Nat} {j lf : Nat}
theorem gd_skip {cc cm c2 m2 : CLs} {F F2 : DEN} {lf0 lf2 : Nat} {k o c0 : Int} (h1 : Gd cc cm F lf0 lf) (h2 : Gd c2 m2 F2 lf lf2) (t1 : isTest F) (hk : (k = 10 ∧ o = 29 ∧ c0 = 1) ∨ (k = 11 ∧ o = 28 ∧ c0 = 0)) : Gd (cc ++ (k, (c2.length : Int) + 1) :: c2) (cm ++ (o, (m2.length : Int) + 1) :: m2) (skF2 c0 F F2) lf0 lf2 := by
  refine ⟨denC_skip (by omega) h1.1 h2.1 t1, denM_skip (by omega) h1.2.1 h2.2.1, wfC_app h1.2.2.1 ⟨⟨by omega, fun c => by omega, fun c => by omega, fun c => ⟨by omega, Int.le_refl _⟩⟩, h2.2.2.1⟩, wfM_app h1.2.2.2.1 ⟨⟨Or.inr (by omega), fun c => by omega, fun c => ⟨by omega, Int.le_refl _⟩⟩, h2.2.2.2.1⟩, ?_, ?_, ?_⟩
  · have a := h1.2.2.2.2.1
    have b := h2.2.2.2.2.1
    rw [pcn_app]
    show pcn cc + ((if k = 0 ∨ k = 1 then 1 else 0) + pcn c2) + (lf0 : Int) = lf2
    rw [if_neg (by omega)]
    omega
  · rw [List.length_append]
    have := h1.2.2.2.2.2.1
    omega
  · rw [List.length_append]
    have := h1.2.2.2.2.2.2
    omega
/-- a loop of "and" or "or", as the class has it -/
def ChS (w : WD) (T : Int → Int) (L : Int) (iE : Nat) (m mo : MI) (p k : Int) : Prop :=
  (∀ (D : Nat) (n : NM) (dep : Nat) (P : NM → Prop), (∀ G : GM, Rn w m D G (fun r h' => ∃ n1 : NM, r = none ∧ h' = (B0, n1) ∧ P n1) 0 [(0, vr 37), (1, vi (dep : Int))] [] (B0, n)) → Ev w D 0 0 m [vr 37, vi (dep : Int)] (B0, n) (fun r h' => ∃ n1 : NM, r = none ∧ h' = (B0, n1) ∧ P n1)) ∧
  (∀ (D : Nat) (G : GM) (Q : Option AV → Hp → Prop) (n : NM) (dep : Nat), Ev w D 0 0 mo [vr 37, vi (dep : Int)] (B0, n) (fun r h' => ∃ n1 : NM, r = none ∧ h' = (B0, n1) ∧ RnP w m (D + 1) G Q dep 0 n1) → Rn w m (D + 1) G Q 0 [(0, vr 37), (1, vi (dep : Int))] [] (B0, n)) ∧
  (∀ (D : Nat) (G : GM) (Q : Option AV → Hp → Prop) (n0 n : NM) (j lf dep : Nat) (l : CLs) (x2 : Int), C0 T L iE n0 → KS n0 n j lf l → j ≤ iE → ¬ AtK T L j 1 p → Q none (B0, n) → RnP w m (D + 2) G Q dep x2 n) ∧
  (∀ (D : Nat) (G : GM) (Q : Option AV → Hp → Prop) (n : NM) (dep : Nat) (x2 : Int), n 37 4 ≠ -1 → Q none (B0, n) → RnP w m (D + 2) G Q dep x2 n) ∧
  ∀ (D : Nat) (G : GM) (Q : Option AV → Hp → Prop) (n0 n : NM) (j lf dep : Nat) (l : CLs) (x2 : Int), AtK T L j 1 p → C0 T L iE n0 → KS n0 n j lf l → j < iE → 0 ≤ x2 → x2 < 400 →
    (∀ n1 : NM, KS n0 n1 (j + 1) lf l → Ev w (D + 1) 0 0 mX2_addStep [vr 42, vi k, vi 0] (B0, n1) (fun r h' => ∃ (x : Int) (n2 : NM), r = some (vi x) ∧ h' = (B0, n2) ∧ (Ev w (D + 1) 0 0 mo [vr 37, vi (dep : Int)] (B0, n2) (fun r h' => ∃ n3 : NM, r = none ∧ h' = (B0, n3) ∧ (Ev w (D + 1) 0 0 mX2_letSkipEndHere [vr 42, vi x] (B0, n3) (fun r h' => ∃ n4 : NM, r = none ∧ h' = (B0, n4) ∧ inI (x2 + 1) ∧ RnP w m (D + 2) G Q dep (x2 + 1) n4)))))) → RnP w m (D + 2) G Q dep x2 n
def ChU (w : WD) (d : Nat) (T : Int → Int) (L : Int) (iE : Nat) (m : MI) (p b : Int) (Dk : Nat) (nxo : Nat → Prop) (j lf dep e : Nat) : Prop :=
    (∃ q : Nat, q ≤ iE ∧ (∀ (n0 n : NM) (l : CLs) (G : GM) (Q : Option AV → Hp → Prop) (x2 : Int), C0 T L iE n0 → KS n0 n j lf l → 0 ≤ x2 → x2 + iE < 400 + j → (∀ n1, KF T L n0 n1 q → Q none (B0, n1)) → RnP w m (d + 8 * e + Dk + 2) G Q dep x2 n) ∧
      ∀ (m0 : NM) (xt : Int) (G : GM) (Q : Option AV → Hp → Prop) (n : NM) (l pend P : CLs), cTs b xt P → MS T L m0 n j lf dep l (pend ++ P) → (∀ x, x ∈ pend → b ≤ bnd x.1) → (∀ (n1 : NM) (t1 : Int), MB T L m0 n1 q → ML w d xt G Q t1 n1) → ML w d xt G Q 2 n) ∨
    (∃ (j' lf' : Nat) (c2 m2 : CLs), ((j ≤ j' ∧ j + c2.length ≤ j') ∧ j' ≤ iE) ∧ lf' ≤ 50 ∧ (∀ (cc cm : CLs) (F : DEN) (lf0 : Nat), Gd cc cm F lf0 lf → isTest F → ∃ F2 : DEN, Gd (cc ++ c2) (cm ++ m2) F2 lf0 lf' ∧ isTest F2) ∧ nxo j' ∧ ¬ AtK T L j' 1 p ∧
      (∀ (n0 n : NM) (l : CLs) (G : GM) (Q : Option AV → Hp → Prop) (x2 : Int), C0 T L iE n0 → KS n0 n j lf l → 0 ≤ x2 → x2 + iE < 400 + j → (∀ n1, KS n0 n1 j' lf' (l ++ c2) → Q none (B0, n1)) → RnP w m (d + 8 * e + Dk + 2) G Q dep x2 n) ∧
      ∀ (m0 : NM) (xt : Int) (G : GM) (Q : Option AV → Hp → Prop) (n : NM) (l pend P : CLs), cTs b xt P → MS T L m0 n j lf dep l (pend ++ P) → (∀ x, x ∈ pend → b ≤ bnd x.1) → (∀ (n1 : NM) (l1 pend1 : CLs), MS T L m0 n1 j' lf' dep l1 (pend1 ++ P) → (∀ x, x ∈ pend1 → b ≤ bnd x.1) → stlA pend1 l1 = stlA pend l ++ m2 → ML w d xt G Q 2 n1) → ML w d xt G Q 2 n)
/-- which "and", "or": word, class's step, operator, how it binds -/
def skK (p k o b : Int) : Prop := (p = 17 ∧ k = 11 ∧ o = 28 ∧ b = 2) ∨ (p = 16 ∧ k = 10 ∧ o = 29 ∧ b = 1)
theorem chs_tail {m mo : MI} {p k o b : Int} {Dk : Nat} {nxo : Nat → Prop} (hE : TkE T L iE) (hC : ChS w T L iE m mo p k) (hs : skK p k o b) : ∀ (f j : Nat), iE - j ≤ f → j ≤ iE → (∀ j2 : Nat, j < j2 → j2 ≤ iE → Sp w d T L iE mo (Dk + 1) (b + 1) (cTs (b + 1)) St0 2 True nxo j2) → nxo j → ∀ lf dep e : Nat, dep + e = 8 → lf ≤ 50 → ChU w d T L iE m p b Dk nxo j lf dep e := by
  have h400 : (iE : Int) ≤ 400 := by have := hE.2.1; have := hE.2.2.2; omega
  have ss : skS p o b := by unfold skK at hs; unfold skS; omega
  have kk2 : k = 10 ∨ k = 11 := by unfold skK at hs; omega
  have oo : o = 28 ∨ o = 29 := by unfold skK at hs; omega
  have bo : bnd o = b := by
    rcases hs with ⟨_, _, rfl, rfl⟩ | ⟨_, _, rfl, rfl⟩ <;> decide
  have stop : ∀ j : Nat, j ≤ iE → ¬ AtK T L j 1 p → nxo j → ∀ lf dep e : Nat, lf ≤ 50 → ChU w d T L iE m p b Dk nxo j lf dep e := fun j hj no hnx lf dep e hlf =>
    Or.inr ⟨j, lf, [], [], ⟨⟨Nat.le_refl _, Nat.le_refl _⟩, hj⟩, hlf, fun cc cm F lf0 hG ht => ⟨F, by rw [List.append_nil, List.append_nil]; exact hG, ht⟩, hnx, no, fun n0 n l G Q x2 hc hn x0 x1 kk => hC.2.2.1 _ G Q n0 n j lf dep l x2 hc hn hj no (kk n (by rw [List.append_nil]; exact hn)), fun m0 xt G Q n l pend P ht hm hp kk => kk n l pend hm hp (List.append_nil _).symm⟩
  intro f
  induction f with
  | zero =>
    intro j hf hj ih hnx lf dep e hde hlf
    exact stop j hj (fun z => by have := atK_in hE hj (by decide) z; omega) hnx lf dep e hlf
  | succ f ihf =>
    intro j hf hj ih hnx lf dep e hde hlf
    by_cases hat : AtK T L j 1 p
    · have hj2 : j < iE := atK_in hE hj (by decide) hat
      have step : ∀ (m0 : NM) (xt : Int) (G : GM) (Q : Option AV → Hp → Prop) (n : NM) (l pend P : CLs), cTs b xt P → MS T L m0 n j lf dep l (pend ++ P) → (∀ x, x ∈ pend → b ≤ bnd x.1) → (∀ n1, MS T L m0 n1 (j + 1) lf dep (stlA pend l ++ [(o, -((stlA pend l).length : Int))]) ((o, ((stlA pend l).length : Int)) :: P) → ML w d xt G Q 0 n1) → ML w d xt G Q 2 n := fun m0 xt G Q n l pend P cd hm hp K =>
        ml2 hm.2.2.2.2.1.1 (m_btSk ss hat hm rfl hp cd.1 (by omega)) (fun x n1 z => by
          rw [z.1]
          exact K n1 z.2)
      have cdS : ∀ (xt : Int) (P : CLs) (a : Int), cTs b xt P → cTs (b + 1) xt ((o, a) :: P) := fun xt P a cd => ⟨topLt_c (show bnd o < b + 1 by omega), okTs_c cd.2 (show o < 30 by omega)⟩
      rcases ih (j + 1) (by omega) (by omega) lf dep e hde hlf with ⟨q, hq, hF, hM⟩ | ⟨j1, lf1, c1, m1, F1, hj1, hlf1, hG1, hT1, hnx1, hK1, hM1⟩
      · refine Or.inl ⟨q, hq, fun n0 n l G Q x2 hc hn x0 x1 kk => ?_, fun m0 xt G Q n l pend P cd hm hp kk => step m0 xt G Q n l pend P cd hm hp (fun n1 s => hM 0 rfl m0 xt G Q n1 _ _ (cdS xt P _ cd) s kk)⟩
        refine hC.2.2.2.2 _ G Q n0 n j lf dep l x2 hat hc hn hj2 x0 (by omega) (fun n1 h1 => EI.usP (s_addR (v' := -(l.length : Int)) h1.1 (by have := hn.2.2; omega) (by rw [if_pos kk2]; omega)) (fun x n2 y => ?_))
        have h2 : KS n0 n2 (j + 1) lf (l ++ [(k, -(l.length : Int))]) := ⟨y.2.1, y.2.2.trans h1.2.1, by rw [List.length_append, List.length_singleton]; have := hn.2.2; omega⟩
        exact EV.usP (hF n0 n2 _ hc h2) (fun n3 z => EV.usP (s_skipF z) (fun n4 u => ⟨⟨by omega, by omega⟩, hC.2.2.2.1 _ G Q n4 dep _ (u.ne hE hq) (kk n4 u)⟩))
      · have tl := ihf j1 (by omega) hj1.2 (fun j2 a b => ih j2 (by omega) b) hnx1 lf1 dep e hde hlf1
        have clS : ∀ (n0 n : NM) (l : CLs) (G : GM) (Q : Option AV → Hp → Prop) (x2 : Int), C0 T L iE n0 → KS n0 n j lf l → 0 ≤ x2 → x2 + iE < 400 + j → (∀ n3, KS n0 n3 j1 lf1 (l ++ ((k, (c1.length : Int) + 1) :: c1)) → RnP w m (d + 8 * e + Dk + 2) G Q dep (x2 + 1) n3) → RnP w m (d + 8 * e + Dk + 2) G Q dep x2 n := fun n0 n l G Q x2 hc hn x0 x1 kk =>
          hC.2.2.2.2 _ G Q n0 n j lf dep l x2 hat hc hn hj2 x0 (by omega) (fun n1 h1 => EI.usP (s_addR (v' := -(l.length : Int)) h1.1 (by have := hn.2.2; omega) (by rw [if_pos kk2]; omega)) (fun x n2 y => by
            have h2 : KS n0 n2 (j + 1) lf (l ++ [(k, -(l.length : Int))]) := ⟨y.2.1, y.2.2.trans h1.2.1, by rw [List.length_append, List.length_singleton]; have := hn.2.2; omega⟩
            refine EV.usP (hK1 n0 n2 _ hc h2) (fun n3 z => ?_)
            have e1 : l ++ [(k, -(l.length : Int))] ++ c1 = l ++ (k, -(l.length : Int)) :: c1 := by
              rw [List.append_assoc]
              rfl
            have z1 := z.1
            rw [e1] at z1
            rw [y.1]
            refine EV.usP (s_skipR kk2 z1) (fun n4 u => ⟨⟨by omega, by omega⟩, kk n4 ⟨u.1, u.2.trans z.2.1, ?_⟩⟩)
            have zl := z.2.2
            rw [e1, List.length_append, List.length_cons] at zl
            rw [List.length_append, List.length_cons]
            exact zl))
        have mdS : ∀ (m0 : NM) (xt : Int) (G : GM) (Q : Option AV → Hp → Prop) (n : NM) (l pend P : CLs), cTs b xt P → MS T L m0 n j lf dep l (pend ++ P) → (∀ x, x ∈ pend → b ≤ bnd x.1) → (∀ (n1 : NM) (l1 pend1 : CLs), MS T L m0 n1 j1 lf1 dep l1 (pend1 ++ P) → (∀ x, x ∈ pend1 → b ≤ bnd x.1) → stlA pend1 l1 = stlA pend l ++ ((o, (m1.length : Int) + 1) :: m1) → ML w d xt G Q 2 n1) → ML w d xt G Q 2 n := fun m0 xt G Q n l pend P cd hm hp kk => step m0 xt G Q n l pend P cd hm hp (fun n1 s => hM1 0 rfl m0 xt G Q n1 _ _ (cdS xt P _ cd) s (fun n2 l1 pend1 s2 hp2 es => by
          refine kk n2 l1 (pend1 ++ [(o, ((stlA pend l).length : Int))]) (by rw [List.append_assoc]; exact s2) (fun x hx => ?_) ?_
          · rcases List.mem_append.mp hx with y | y
            · have := hp2 x y
              omega
            · rw [List.mem_singleton.mp y]
              show b ≤ bnd o
              omega
          · rw [stlA_app, es]
            show stl1 (o, ((stlA pend l).length : Int)) _ = _
            unfold stl1
            rw [if_pos oo]
            have e1 : stlA pend l ++ [(o, -((stlA pend l).length : Int))] ++ m1 = stlA pend l ++ (o, -((stlA pend l).length : Int)) :: m1 := by
              rw [List.append_assoc]
              rfl
            rw [e1]
            have q := ptc_at (l2 := m1) (v := -((stlA pend l).length : Int)) (X := ((stlA pend l ++ (o, -((stlA pend l).length : Int)) :: m1).length : Int)) oo (l1 := stlA pend l) (c := 0)
            rw [show (0 : Int) + ((stlA pend l).length : Int) = (stlA pend l).length by omega] at q
            refine q.trans ?_
            rw [show (((stlA pend l ++ (o, -((stlA pend l).length : Int)) :: m1).length : Nat) : Int) - ((stlA pend l).length : Int) = (m1.length : Int) + 1 by rw [List.length_append, List.length_cons]; omega]))
        rcases tl with ⟨q, hq, hF, hM⟩ | ⟨j', lf', c2, m2, hj', hlf', hG, hnx', hno', hK, hM⟩
        · exact Or.inl ⟨q, hq, fun n0 n l G Q x2 hc hn x0 x1 kk => clS n0 n l G Q x2 hc hn x0 x1 (fun n3 h3 => hF n0 n3 _ G Q _ hc h3 (by omega) (by omega) kk), fun m0 xt G Q n l pend P cd hm hp kk => mdS m0 xt G Q n l pend P cd hm hp (fun n1 l1 pend1 s hp1 es => hM m0 xt G Q n1 l1 pend1 P cd s hp1 kk)⟩
        · refine Or.inr ⟨j', lf', ((k, (c1.length : Int) + 1) :: c1) ++ c2, ((o, (m1.length : Int) + 1) :: m1) ++ m2, ⟨⟨by omega, by rw [List.length_append, List.length_cons]; omega⟩, hj'.2⟩, hlf', fun cc cm F lf0 g ht => ?_, hnx', hno', fun n0 n l G Q x2 hc hn x0 x1 kk => clS n0 n l G Q x2 hc hn x0 x1 (fun n3 h3 => hK n0 n3 _ G Q _ hc h3 (by omega) (by omega) (fun n4 h4 => kk n4 (by rw [← List.append_assoc]; exact h4))), fun m0 xt G Q n l pend P cd hm hp kk => mdS m0 xt G Q n l pend P cd hm hp (fun n1 l1 pend1 s hp1 es => hM m0 xt G Q n1 l1 pend1 P cd s hp1 (fun n2 l2 pend2 s2 hp2 es2 => kk n2 l2 pend2 s2 hp2 (by rw [es2, es, List.append_assoc])))⟩
          have g1 := gd_skip (k := k) (o := o) (c0 := if k = 10 then 1 else 0) g hG1 ht (by
            unfold skK at hs
            by_cases c : k = 10
            · rw [if_pos c]
              omega
            · rw [if_neg c]
              omega)
          obtain ⟨F2, g2⟩ := hG _ _ _ lf0 g1 (isTest_sk ht (hT1 trivial))
          refine ⟨F2, ?_, g2.2⟩
          rw [← List.append_assoc, ← List.append_assoc]
          exact g2.1
    · exact stop j hj hat hnx lf dep e hlf
theorem chs_whole {m mo : MI} {p k o b : Int} {Dk : Nat} {nxo nx : Nat → Prop} (hE : TkE T L iE) (hC : ChS w T L iE m mo p k) (hs : skK p k o b) (hj : j ≤ iE) (hnxx : ∀ i : Nat, nxo i → ¬ AtK T L i 1 p → nx i) (h0 : Sp w d T L iE mo (Dk + 1) (b + 1) (cTs (b + 1)) St0 2 True nxo j) (ih : ∀ j2 : Nat, j < j2 → j2 ≤ iE → Sp w d T L iE mo (Dk + 1) (b + 1) (cTs (b + 1)) St0 2 True nxo j2) : Sp w d T L iE m (Dk + 2) b (cTs b) St0 2 True nx j := by
  intro lf dep e hde hlf
  have h400 : (iE : Int) ≤ 400 := by have := hE.2.1; have := hE.2.2.2; omega
  have up : ∀ (xt : Int) (P : CLs), cTs b xt P → cTs (b + 1) xt P := fun xt P h => ⟨topLt_up h.1 (by omega), h.2⟩
  rcases h0 lf dep e hde hlf with ⟨q, hq, hF, hM⟩ | ⟨j1, lf1, c1, m1, F1, hj1, hlf1, hG1, hT1, hnx1, hK1, hM1⟩
  · refine Or.inl ⟨q, hq, fun n0 n l hc hn => hC.1 _ _ _ _ (fun G => hC.2.1 _ _ _ _ _ (EV.usP (hF n0 n l hc hn) (fun n1 z => hC.2.2.2.1 _ _ _ _ _ _ (z.ne hE hq) ⟨n1, rfl, rfl, z⟩))), fun t st m0 xt G Q n l P cd hm k => hM t st m0 xt G Q n l P (up xt P cd) hm k⟩
  · rcases chs_tail hE hC hs (iE - j1) j1 (Nat.le_refl _) hj1.2 (fun j2 a c => ih j2 (by omega) c) hnx1 lf1 dep e hde hlf1 with ⟨q, hq, hF, hM⟩ | ⟨j', lf', c2, m2, hj', hlf', hG, hnx', hno', hK, hM⟩
    · refine Or.inl ⟨q, hq, fun n0 n l hc hn => hC.1 _ _ _ _ (fun G => hC.2.1 _ _ _ _ _ (EV.usP (hK1 n0 n l hc hn) (fun n1 z => hF n0 n1 _ G _ 0 hc z (Int.le_refl _) (by omega) (fun n2 y => ⟨n2, rfl, rfl, y⟩)))), fun t st m0 xt G Q n l P cd hm k => hM1 t st m0 xt G Q n l P (up xt P cd) hm (fun n1 l1 pend s hp es => ?_)⟩
      have st : t = 0 := st
      exact hM m0 xt G Q n1 l1 pend P cd s (fun x hx => by have := hp x hx; omega) k
    · obtain ⟨F2, g2⟩ := hG _ _ _ lf hG1 (hT1 trivial)
      exact Or.inr ⟨j', lf', c1 ++ c2, m1 ++ m2, F2, ⟨⟨by omega, by rw [List.length_append]; omega⟩, hj'.2⟩, hlf', g2.1, fun _ => g2.2, hnxx j' hnx' hno', fun n0 n l hc hn => hC.1 _ _ _ _ (fun G => hC.2.1 _ _ _ _ _ (EV.usP (hK1 n0 n l hc hn) (fun n1 z => hK n0 n1 _ G _ 0 hc z (Int.le_refl _) (by omega) (fun n2 y => ⟨n2, rfl, rfl, by rw [← List.append_assoc]; exact y⟩)))), fun t st m0 xt G Q n l P cd hm k => hM1 t st m0 xt G Q n l P (up xt P cd) hm (fun n1 l1 pend s hp es => hM m0 xt G Q n1 l1 pend P cd s (fun x hx => by have := hp x hx; omega) (fun n2 l2 pend2 s2 hp2 es2 => k n2 l2 pend2 s2 hp2 (by rw [es2, es, List.append_assoc])))⟩
theorem chs_both : ChS w T L iE mX3_both mX3_plain 17 11 := by
  refine ⟨fun D n dep P K => EV.ofP (by decide +kernel) (Nat.le_of_ble_eq_true rfl) rfl (fun _ G => K G), fun D G Q n dep E => gX3_both_0 E, fun D G Q n0 n j lf dep l x2 hc hn hj no q => gX3_both_7 ⟨fun _ => q, fun _ => EI.use (s_takeN hc hn hj no) ⟨fun _ => q, fun z => absurd rfl z⟩⟩, fun D G Q n dep x2 hf q => gX3_both_7 ⟨fun _ => q, fun _ => EI.use (s_takeF hf) ⟨fun _ => q, fun z => absurd rfl z⟩⟩, fun D G Q n0 n j lf dep l x2 hat hc hn hj x0 x1 K => gX3_both_7 ⟨fun z => absurd z (by omega), fun _ => EI.usP (s_takeY hc hn hj hat) (fun x n1 y => ⟨fun z => absurd (y.1.symm.trans z) (by decide), fun _ => K n1 y.2⟩)⟩⟩
theorem chs_test : ChS w T L iE mX3_test mX3_both 16 10 := by
  refine ⟨fun D n dep P K => EV.ofP (by decide +kernel) (Nat.le_of_ble_eq_true rfl) rfl (fun _ G => K G), fun D G Q n dep E => gX3_test_0 E, fun D G Q n0 n j lf dep l x2 hc hn hj no q => gX3_test_7 ⟨fun _ => q, fun _ => EI.use (s_takeN hc hn hj no) ⟨fun _ => q, fun z => absurd rfl z⟩⟩, fun D G Q n dep x2 hf q => gX3_test_7 ⟨fun _ => q, fun _ => EI.use (s_takeF hf) ⟨fun _ => q, fun z => absurd rfl z⟩⟩, fun D G Q n0 n j lf dep l x2 hat hc hn hj x0 x1 K => gX3_test_7 ⟨fun z => absurd z (by omega), fun _ => EI.usP (s_takeY hc hn hj hat) (fun x n1 y => ⟨fun z => absurd (y.1.symm.trans z) (by decide), fun _ => K n1 y.2⟩)⟩⟩
abbrev SpBoth (w : WD) (d : Nat) (T : Int → Int) (L : Int) (iE : Nat) : Nat → Prop := Sp w d T L iE mX3_both 11 2 (cTs 2) St0 2 True (fun j => ¬ AtK T L j 1 17)
theorem sp_both (hE : TkE T L iE) (hj : j ≤ iE) (h0 : SpPlain w d T L iE j) (ih : ∀ j2 : Nat, j < j2 → j2 ≤ iE → SpPlain w d T L iE j2) : SpBoth w d T L iE j :=
  chs_whole (Dk := 9) (b := 2) (o := 28) hE chs_both (Or.inl ⟨rfl, rfl, rfl, rfl⟩) hj (fun i _ h => h) h0 ih
theorem sp_test (hE : TkE T L iE) (hj : j ≤ iE) (h0 : SpBoth w d T L iE j) (ih : ∀ j2 : Nat, j < j2 → j2 ≤ iE → SpBoth w d T L iE j2) : SpTest w d T L iE j :=
  chs_whole (Dk := 10) (b := 1) (o := 29) hE chs_test (Or.inr ⟨rfl, rfl, rfl, rfl⟩) hj (fun i h h2 => ⟨h, h2⟩) h0 ih
/-- every phrase, from every token -/
theorem sp_all (hE : TkE T L iE) : ∀ (f j : Nat), iE - j ≤ f → j ≤ iE → SpPart w d T L iE j ∧ SpTerm w d T L iE j ∧ SpSum w d T L iE j ∧ SpCmp w d T L iE j ∧ SpPlain w d T L iE j ∧ SpBoth w d T L iE j ∧ SpTest w d T L iE j := by
  intro f
  induction f with
  | zero =>
    intro j hf hj
    have none : ∀ {p : Nat → Prop} (j2 : Nat), j < j2 → j2 ≤ iE → p j2 := fun j2 a b => by omega
    have a := sp_part (w := w) (d := d) hE hj none
    have b := sp_term hE hj a none
    have c := sp_sum hE hj b none
    have c2 := sp_cmp hE hj c none
    have g := sp_plain hE hj c2 none none
    have h := sp_both hE hj g none
    exact ⟨a, b, c, c2, g, h, sp_test hE hj h none⟩
  | succ f ih =>
    intro j hf hj
    have q : ∀ j2 : Nat, j < j2 → j2 ≤ iE → _ := fun j2 a b => ih j2 (by omega) b
    have a := sp_part (w := w) (d := d) hE hj (fun j2 x y => (q j2 x y).2.2.1)
    have b := sp_term hE hj a (fun j2 x y => (q j2 x y).1)
    have c := sp_sum hE hj b (fun j2 x y => (q j2 x y).2.1)
    have c2 := sp_cmp hE hj c (fun j2 x y => (q j2 x y).2.2.1)
    have g := sp_plain hE hj c2 (fun j2 x y => (q j2 x y).2.2.2.1) (fun j2 x y => (q j2 x y).2.2.2.2.2.2)
    have h := sp_both hE hj g (fun j2 x y => (q j2 x y).2.2.2.2.1)
    exact ⟨a, b, c, c2, g, h, sp_test hE hj h (fun j2 x y => (q j2 x y).2.2.2.2.2.1)⟩
end PTESTS
