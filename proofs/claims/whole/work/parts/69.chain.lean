section PCHAIN
variable {w : WD} {d : Nat} {T : Int → Int} {L : Int} {iE : Nat} {j lf : Nat}
theorem gd_bin {cc cm c2 m2 : CLs} {F F2 : DEN} {lf0 lf2 : Nat} {k o : Int} (h1 : Gd cc cm F lf0 lf) (h2 : Gd c2 m2 F2 lf lf2) (hk : 2 ≤ k ∧ k ≤ 8) (ho : o = k + 18) : Gd (cc ++ c2 ++ [(k, 0)]) (cm ++ m2 ++ [(o, 0)]) (opF k F F2) lf0 lf2 := by
  subst ho
  refine ⟨denC_bin h1.1 h2.1 hk, denM_bin h1.2.1 h2.2.1 hk, wfC_app (wfC_app h1.2.2.1 h2.2.2.1) ⟨⟨by omega, fun c => by omega, fun c => by omega, fun c => by omega⟩, trivial⟩, wfM_app (wfM_app h1.2.2.2.1 h2.2.2.2.1) ⟨⟨Or.inr (by omega), fun c => by omega, fun c => by omega⟩, trivial⟩, ?_, ?_, ?_⟩
  · have a := h1.2.2.2.2.1
    have b := h2.2.2.2.2.1
    rw [pcn_app, pcn_app]
    have e : pcn [(k, (0 : Int))] = 0 := by
      show (if k = 0 ∨ k = 1 then 1 else 0) + 0 = 0
      rw [if_neg (by omega)]
      rfl
    rw [e]
    omega
  · rw [List.length_append, List.length_append]
    have := h1.2.2.2.2.2.1
    omega
  · rw [List.length_append, List.length_append]
    have := h1.2.2.2.2.2.2
    omega
def RnP (w : WD) (m : MI) (D : Nat) (G : GM) (Q : Option AV → Hp → Prop) (dep : Nat) (x2 : Int) (n : NM) : Prop := Rn w m D G Q 7 [(0, vr 37), (1, vi (dep : Int)), (2, vi x2)] [] (B0, n)
/-- a loop of operators, as the class has it: m its method, mo its operand's -/
def ChC (w : WD) (T : Int → Int) (L : Int) (iE : Nat) (m mo : MI) (Op : Int → Int → Int → Prop) : Prop :=
  (∀ (D : Nat) (n : NM) (dep : Nat) (P : NM → Prop), (∀ G : GM, Rn w m D G (fun r h' => ∃ n1 : NM, r = none ∧ h' = (B0, n1) ∧ P n1) 0 [(0, vr 37), (1, vi (dep : Int))] [] (B0, n)) → Ev w D 0 0 m [vr 37, vi (dep : Int)] (B0, n) (fun r h' => ∃ n1 : NM, r = none ∧ h' = (B0, n1) ∧ P n1)) ∧
  (∀ (D : Nat) (G : GM) (Q : Option AV → Hp → Prop) (n : NM) (dep : Nat), Ev w D 0 0 mo [vr 37, vi (dep : Int)] (B0, n) (fun r h' => ∃ n1 : NM, r = none ∧ h' = (B0, n1) ∧ RnP w m (D + 1) G Q dep 0 n1) → Rn w m (D + 1) G Q 0 [(0, vr 37), (1, vi (dep : Int))] [] (B0, n)) ∧
  (∀ (D : Nat) (G : GM) (Q : Option AV → Hp → Prop) (n0 n : NM) (j lf dep : Nat) (l : CLs) (x2 : Int), C0 T L iE n0 → KS n0 n j lf l → j ≤ iE → (∀ c k o, Op c k o → ¬ AtK T L j 3 c) → Q none (B0, n) → RnP w m (D + 2) G Q dep x2 n) ∧
  (∀ (D : Nat) (G : GM) (Q : Option AV → Hp → Prop) (n : NM) (dep : Nat) (x2 : Int), n 37 4 ≠ -1 → Q none (B0, n) → RnP w m (D + 2) G Q dep x2 n) ∧
  ∀ (D : Nat) (G : GM) (Q : Option AV → Hp → Prop) (n0 n : NM) (j lf dep : Nat) (l : CLs) (x2 c k o : Int), Op c k o → AtK T L j 3 c → C0 T L iE n0 → KS n0 n j lf l → j < iE → 0 ≤ x2 → x2 < 400 →
    (∀ n1 : NM, KS n0 n1 (j + 1) lf l → Ev w (D + 1) 0 0 mo [vr 37, vi (dep : Int)] (B0, n1) (fun r h' => ∃ n2 : NM, r = none ∧ h' = (B0, n2) ∧ (Ev w (D + 1) 0 0 mX2_addStep [vr 42, vi k, vi 0] (B0, n2) (fun r h' => ∃ (x : Int) (n3 : NM), r = some (vi x) ∧ h' = (B0, n3) ∧ inI (x2 + 1) ∧ RnP w m (D + 2) G Q dep (x2 + 1) n3)))) → RnP w m (D + 2) G Q dep x2 n
/-- what its operators are -/
def ChO (Op : Int → Int → Int → Prop) (b : Int) : Prop := ∀ c k o, Op c k o → (2 ≤ k ∧ k ≤ 8) ∧ o = k + 18 ∧ opS c o ∧ bnd o = b
def ChT (w : WD) (d : Nat) (T : Int → Int) (L : Int) (iE : Nat) (m : MI) (Op : Int → Int → Int → Prop) (b : Int) (Dk : Nat) (nxo : Nat → Prop) (j lf dep e : Nat) : Prop :=
    (∃ q : Nat, q ≤ iE ∧ (∀ (n0 n : NM) (l : CLs) (G : GM) (Q : Option AV → Hp → Prop) (x2 : Int), C0 T L iE n0 → KS n0 n j lf l → 0 ≤ x2 → x2 + iE < 400 + j → (∀ n1, KF T L n0 n1 q → Q none (B0, n1)) → RnP w m (d + 8 * e + Dk + 2) G Q dep x2 n) ∧
      ∀ (m0 : NM) (xt : Int) (G : GM) (Q : Option AV → Hp → Prop) (n : NM) (l pend P : CLs), topLt b P → MS T L m0 n j lf dep l (pend ++ P) → (∀ x, x ∈ pend → b ≤ bnd x.1) → (∀ (n1 : NM) (t1 : Int), MB T L m0 n1 q → ML w d xt G Q t1 n1) → ML w d xt G Q 3 n) ∨
    (∃ (j' lf' : Nat) (c2 m2 : CLs), ((j ≤ j' ∧ j + c2.length ≤ j') ∧ j' ≤ iE) ∧ lf' ≤ 50 ∧ (∀ (cc cm : CLs) (F : DEN) (lf0 : Nat), Gd cc cm F lf0 lf → ∃ F2 : DEN, Gd (cc ++ c2) (cm ++ m2) F2 lf0 lf') ∧ nxo j' ∧ (∀ c k o, Op c k o → ¬ AtK T L j' 3 c) ∧
      (∀ (n0 n : NM) (l : CLs) (G : GM) (Q : Option AV → Hp → Prop) (x2 : Int), C0 T L iE n0 → KS n0 n j lf l → 0 ≤ x2 → x2 + iE < 400 + j → (∀ n1, KS n0 n1 j' lf' (l ++ c2) → Q none (B0, n1)) → RnP w m (d + 8 * e + Dk + 2) G Q dep x2 n) ∧
      ∀ (m0 : NM) (xt : Int) (G : GM) (Q : Option AV → Hp → Prop) (n : NM) (l pend P : CLs), topLt b P → MS T L m0 n j lf dep l (pend ++ P) → (∀ x, x ∈ pend → b ≤ bnd x.1) → (∀ (n1 : NM) (l1 pend1 : CLs), MS T L m0 n1 j' lf' dep l1 (pend1 ++ P) → (∀ x, x ∈ pend1 → b ≤ bnd x.1) → stlA pend1 l1 = stlA pend l ++ m2 → ML w d xt G Q 3 n1) → ML w d xt G Q 3 n)
theorem stlA_snoc {pend l : CLs} {o : Int} (ho : ¬ (o = 28 ∨ o = 29)) : stlA (pend ++ [(o, 0)]) l = stlA pend l ++ [(o, 0)] := by
  rw [stlA_app]
  show stl1 (o, 0) (stlA pend l) = _
  unfold stl1
  rw [if_neg ho]
theorem ch_tail {m mo : MI} {Op : Int → Int → Int → Prop} {b : Int} {Dk : Nat} {nxo : Nat → Prop} (hE : TkE T L iE) (hC : ChC w T L iE m mo Op) (hO : ChO Op b) (hb : 1 ≤ b) : ∀ (f j : Nat), iE - j ≤ f → j ≤ iE → (∀ j2 : Nat, j < j2 → j2 ≤ iE → Sp w d T L iE mo (Dk + 1) (b + 1) (cTop (b + 1)) (St1 T L) 3 False nxo j2) → nxo j → ∀ lf dep e : Nat, dep + e = 8 → lf ≤ 50 → ChT w d T L iE m Op b Dk nxo j lf dep e := by
  intro f
  induction f with
  | zero =>
    intro j hf hj ih hnx lf dep e hde hlf
    have no : ∀ c k o, Op c k o → ¬ AtK T L j 3 c := fun c k o _ z => by
      have := atK_in hE hj (by decide) z
      omega
    refine Or.inr ⟨j, lf, [], [], ⟨⟨Nat.le_refl _, Nat.le_refl _⟩, hj⟩, hlf, fun cc cm F lf0 hG => ⟨F, by rw [List.append_nil, List.append_nil]; exact hG⟩, hnx, no, fun n0 n l G Q x2 hc hn x0 x1 k => ?_, fun m0 xt G Q n l pend P ht hm hp k => k n l pend hm hp (List.append_nil _).symm⟩
    exact hC.2.2.1 _ G Q n0 n j lf dep l x2 hc hn hj no (k n (by rw [List.append_nil]; exact hn))
  | succ f ihf =>
    intro j hf hj ih hnx lf dep e hde hlf
    have h400 : (iE : Int) ≤ 400 := by have := hE.2.1; have := hE.2.2.2; omega
    by_cases ex : ∃ c k o, Op c k o ∧ AtK T L j 3 c
    · obtain ⟨c, k, o, hop, hat⟩ := ex
      have hj2 : j < iE := atK_in hE hj (by decide) hat
      have ho := hO c k o hop
      have o23 : 20 ≤ o ∧ o ≤ 23 := by have := ho.2.2.1; unfold opS at this; omega
      have o28 : ¬ (o = 28 ∨ o = 29) := by omega
      have step : ∀ (m0 : NM) (xt : Int) (G : GM) (Q : Option AV → Hp → Prop) (n : NM) (l pend P : CLs), topLt b P → MS T L m0 n j lf dep l (pend ++ P) → (∀ x, x ∈ pend → b ≤ bnd x.1) → (∀ n1, MS T L m0 n1 (j + 1) lf dep (stlA pend l) ((o, 0) :: P) → ML w d xt G Q 1 n1) → ML w d xt G Q 3 n := fun m0 xt G Q n l pend P ht hm hp K =>
        ml3 hm.2.2.2.2.1.1 (m_bsOp ho.2.2.1 hat hm rfl (by rw [ho.2.2.2]; exact hp) (by rw [ho.2.2.2]; exact ht) (by omega)) (fun x n1 z => by
          rw [z.1]
          exact K n1 z.2)
      rcases ih (j + 1) (by omega) (by omega) lf dep e hde hlf with ⟨q, hq, hF, hM⟩ | ⟨j1, lf1, c1, m1, F1, hj1, hlf1, hG1, _, hnx1, hK1, hM1⟩
      · refine Or.inl ⟨q, hq, fun n0 n l G Q x2 hc hn x0 x1 kk => ?_, fun m0 xt G Q n l pend P ht hm hp kk => step m0 xt G Q n l pend P ht hm hp (fun n1 s => hM 1 (Or.inl rfl) m0 xt G Q n1 _ _ (topLt_c (show bnd o < b + 1 by rw [ho.2.2.2]; omega)) s kk)⟩
        refine hC.2.2.2.2 _ G Q n0 n j lf dep l x2 c k o hop hat hc hn hj2 x0 (by omega) (fun n1 h1 => EV.usP (hF n0 n1 l hc h1) (fun n2 z => EI.usP (s_addF z) (fun x n3 y => ⟨⟨by omega, by omega⟩, ?_⟩)))
        exact hC.2.2.2.1 _ G Q n3 dep _ (y.ne hE hq) (kk n3 y)
      · have tl := ihf j1 (by omega) hj1.2 (fun j2 a b => ih j2 (by omega) b) hnx1 lf1 dep e hde hlf1
        have clS : ∀ (n0 n : NM) (l : CLs) (G : GM) (Q : Option AV → Hp → Prop) (x2 : Int), C0 T L iE n0 → KS n0 n j lf l → 0 ≤ x2 → x2 + iE < 400 + j → (∀ n3, KS n0 n3 j1 lf1 (l ++ (c1 ++ [(k, 0)])) → RnP w m (d + 8 * e + Dk + 2) G Q dep (x2 + 1) n3) → RnP w m (d + 8 * e + Dk + 2) G Q dep x2 n := fun n0 n l G Q x2 hc hn x0 x1 kk =>
          hC.2.2.2.2 _ G Q n0 n j lf dep l x2 c k o hop hat hc hn hj2 x0 (by omega) (fun n1 h1 => EV.usP (hK1 n0 n1 l hc h1) (fun n2 z => by
            have hh := hn.2.2
            have hl : (l ++ c1).length = l.length + c1.length := List.length_append
            refine EI.usP (s_addR (v' := 0) z.1 (by omega) (by rw [if_neg (by omega)])) (fun x n3 y => ⟨⟨by omega, by omega⟩, kk n3 ⟨?_, y.2.2.trans z.2.1, ?_⟩⟩)
            · rw [← List.append_assoc]
              exact y.2.1
            · rw [← List.append_assoc, List.length_append, List.length_singleton]
              omega))
        have mdS : ∀ (m0 : NM) (xt : Int) (G : GM) (Q : Option AV → Hp → Prop) (n : NM) (l pend P : CLs), topLt b P → MS T L m0 n j lf dep l (pend ++ P) → (∀ x, x ∈ pend → b ≤ bnd x.1) → (∀ (n1 : NM) (l1 pend1 : CLs), MS T L m0 n1 j1 lf1 dep l1 (pend1 ++ P) → (∀ x, x ∈ pend1 → b ≤ bnd x.1) → stlA pend1 l1 = stlA pend l ++ (m1 ++ [(o, 0)]) → ML w d xt G Q 3 n1) → ML w d xt G Q 3 n := fun m0 xt G Q n l pend P ht hm hp kk => step m0 xt G Q n l pend P ht hm hp (fun n1 s => hM1 1 (Or.inl rfl) m0 xt G Q n1 _ _ (topLt_c (show bnd o < b + 1 by rw [ho.2.2.2]; omega)) s (fun n2 l1 pend1 s2 hp2 es => by
          refine kk n2 l1 (pend1 ++ [(o, 0)]) (by rw [List.append_assoc]; exact s2) (fun x hx => ?_) ?_
          · rcases List.mem_append.mp hx with y | y
            · have := hp2 x y
              omega
            · rw [List.mem_singleton.mp y]
              show b ≤ bnd o
              omega
          · rw [stlA_snoc o28, es, List.append_assoc]))
        rcases tl with ⟨q, hq, hF, hM⟩ | ⟨j', lf', c2, m2, hj', hlf', hG, hnx', hno', hK, hM⟩
        · exact Or.inl ⟨q, hq, fun n0 n l G Q x2 hc hn x0 x1 kk => clS n0 n l G Q x2 hc hn x0 x1 (fun n3 h3 => hF n0 n3 _ G Q _ hc h3 (by omega) (by omega) kk), fun m0 xt G Q n l pend P ht hm hp kk => mdS m0 xt G Q n l pend P ht hm hp (fun n1 l1 pend1 s hp1 es => hM m0 xt G Q n1 l1 pend1 P ht s hp1 kk)⟩
        · refine Or.inr ⟨j', lf', c1 ++ [(k, 0)] ++ c2, m1 ++ [(o, 0)] ++ m2, ⟨⟨by omega, by rw [List.length_append, List.length_append, List.length_singleton]; omega⟩, hj'.2⟩, hlf', fun cc cm F lf0 g => ?_, hnx', hno', fun n0 n l G Q x2 hc hn x0 x1 kk => clS n0 n l G Q x2 hc hn x0 x1 (fun n3 h3 => hK n0 n3 _ G Q _ hc h3 (by omega) (by omega) (fun n4 h4 => kk n4 (by rw [← List.append_assoc]; exact h4))), fun m0 xt G Q n l pend P ht hm hp kk => mdS m0 xt G Q n l pend P ht hm hp (fun n1 l1 pend1 s hp1 es => hM m0 xt G Q n1 l1 pend1 P ht s hp1 (fun n2 l2 pend2 s2 hp2 es2 => kk n2 l2 pend2 s2 hp2 (by rw [es2, es, List.append_assoc])))⟩
          obtain ⟨F2, g2⟩ := hG _ _ _ lf0 (gd_bin (k := k) (o := o) g hG1 ho.1 ho.2.1)
          refine ⟨F2, ?_⟩
          rw [← List.append_assoc, ← List.append_assoc, ← List.append_assoc, ← List.append_assoc]
          exact g2
    · have no : ∀ c k o, Op c k o → ¬ AtK T L j 3 c := fun c k o h z => ex ⟨c, k, o, h, z⟩
      refine Or.inr ⟨j, lf, [], [], ⟨⟨Nat.le_refl _, Nat.le_refl _⟩, hj⟩, hlf, fun cc cm F lf0 hG => ⟨F, by rw [List.append_nil, List.append_nil]; exact hG⟩, hnx, no, fun n0 n l G Q x2 hc hn x0 x1 k => ?_, fun m0 xt G Q n l pend P ht hm hp k => k n l pend hm hp (List.append_nil _).symm⟩
      exact hC.2.2.1 _ G Q n0 n j lf dep l x2 hc hn hj no (k n (by rw [List.append_nil]; exact hn))
theorem ch_whole {m mo : MI} {Op : Int → Int → Int → Prop} {b : Int} {Dk : Nat} {nxo nx : Nat → Prop} (hE : TkE T L iE) (hC : ChC w T L iE m mo Op) (hO : ChO Op b) (hb : 1 ≤ b) (hj : j ≤ iE) (hnxx : ∀ i : Nat, nxo i → (∀ c k o, Op c k o → ¬ AtK T L i 3 c) → nx i) (h0 : Sp w d T L iE mo (Dk + 1) (b + 1) (cTop (b + 1)) (St1 T L) 3 False nxo j) (ih : ∀ j2 : Nat, j < j2 → j2 ≤ iE → Sp w d T L iE mo (Dk + 1) (b + 1) (cTop (b + 1)) (St1 T L) 3 False nxo j2) : Sp w d T L iE m (Dk + 2) b (cTop b) (St1 T L) 3 False nx j := by
  intro lf dep e hde hlf
  have h400 : (iE : Int) ≤ 400 := by have := hE.2.1; have := hE.2.2.2; omega
  have up : ∀ P : CLs, topLt b P → topLt (b + 1) P := fun P h x P' z => by
    have := h x P' z
    omega
  rcases h0 lf dep e hde hlf with ⟨q, hq, hF, hM⟩ | ⟨j1, lf1, c1, m1, F1, hj1, hlf1, hG1, _, hnx1, hK1, hM1⟩
  · refine Or.inl ⟨q, hq, fun n0 n l hc hn => hC.1 _ _ _ _ (fun G => hC.2.1 _ _ _ _ _ (EV.usP (hF n0 n l hc hn) (fun n1 z => hC.2.2.2.1 _ _ _ _ _ _ (z.ne hE hq) ⟨n1, rfl, rfl, z⟩))), fun t st m0 xt G Q n l P cd hm k => hM t st m0 xt G Q n l P (up P cd) hm k⟩
  · rcases ch_tail hE hC hO hb (iE - j1) j1 (Nat.le_refl _) hj1.2 (fun j2 a c => ih j2 (by omega) c) hnx1 lf1 dep e hde hlf1 with ⟨q, hq, hF, hM⟩ | ⟨j', lf', c2, m2, hj', hlf', hG, hnx', hno', hK, hM⟩
    · refine Or.inl ⟨q, hq, fun n0 n l hc hn => hC.1 _ _ _ _ (fun G => hC.2.1 _ _ _ _ _ (EV.usP (hK1 n0 n l hc hn) (fun n1 z => hF n0 n1 _ G _ 0 hc z (Int.le_refl _) (by omega) (fun n2 y => ⟨n2, rfl, rfl, y⟩)))), fun t st m0 xt G Q n l P cd hm k => hM1 t st m0 xt G Q n l P (up P cd) hm (fun n1 l1 pend s hp es => hM m0 xt G Q n1 l1 pend P cd s (fun x hx => by have := hp x hx; omega) k)⟩
    · obtain ⟨F2, g2⟩ := hG _ _ _ lf hG1
      refine Or.inr ⟨j', lf', c1 ++ c2, m1 ++ m2, F2, ⟨⟨by omega, by rw [List.length_append]; omega⟩, hj'.2⟩, hlf', g2, fun c => c.elim, hnxx j' hnx' hno', fun n0 n l hc hn => hC.1 _ _ _ _ (fun G => hC.2.1 _ _ _ _ _ (EV.usP (hK1 n0 n l hc hn) (fun n1 z => hK n0 n1 _ G _ 0 hc z (Int.le_refl _) (by omega) (fun n2 y => ⟨n2, rfl, rfl, by rw [← List.append_assoc]; exact y⟩)))), fun t st m0 xt G Q n l P cd hm k => hM1 t st m0 xt G Q n l P (up P cd) hm (fun n1 l1 pend s hp es => hM m0 xt G Q n1 l1 pend P cd s (fun x hx => by have := hp x hx; omega) (fun n2 l2 pend2 s2 hp2 es2 => k n2 l2 pend2 s2 hp2 (by rw [es2, es, List.append_assoc])))⟩
end PCHAIN
