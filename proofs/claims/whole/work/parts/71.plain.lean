section PPLAIN
variable {w : WD} {d : Nat} {T : Int → Int} {L : Int} {iE : Nat} {j lf : Nat}
def St0 (_ : Nat) (t : Int) : Prop := t = 0
abbrev SpPlain (w : WD) (d : Nat) (T : Int → Int) (L : Int) (iE : Nat) : Nat → Prop := Sp w d T L iE mX3_plain 10 3 (cTs 3) St0 2 True (fun _ => True)
abbrev SpTest (w : WD) (d : Nat) (T : Int → Int) (L : Int) (iE : Nat) : Nat → Prop := Sp w d T L iE mX3_test 12 1 (cTs 1) St0 2 True (noSk T L)
def CoP (w : WD) (d : Nat) (T : Int → Int) (L : Int) (iE j lf dep e : Nat) : Prop :=
  (∃ q : Nat, q ≤ iE ∧ (∀ (n0 n : NM) (l : CLs) (G : GM) (Q : Option AV → Hp → Prop) (x2 : Int), C0 T L iE n0 → KS n0 n j lf l → (∀ n1, KF T L n0 n1 q → Rn w mX3_plain (d + 8 * e + 10) G Q 69 [(0, vr 37), (2, vi x2)] [] (B0, n1)) → Rn w mX3_plain (d + 8 * e + 10) G Q 37 [(0, vr 37), (1, vi (dep : Int)), (2, vi x2)] [] (B0, n)) ∧ PmF w d T L (cTs 4) 0 q j lf dep) ∨
  (∃ (j' lf' : Nat) (cc cm : CLs) (F : DEN), ((j < j' ∧ j + cc.length ≤ j') ∧ j' ≤ iE) ∧ lf' ≤ 50 ∧ Gd cc cm F lf lf' ∧ isTest F ∧ (∀ (n0 n : NM) (l : CLs) (G : GM) (Q : Option AV → Hp → Prop) (x2 : Int), C0 T L iE n0 → KS n0 n j lf l → (∀ n1, KS n0 n1 j' lf' (l ++ cc) → Rn w mX3_plain (d + 8 * e + 10) G Q 69 [(0, vr 37), (2, vi x2)] [] (B0, n1)) → Rn w mX3_plain (d + 8 * e + 10) G Q 37 [(0, vr 37), (1, vi (dep : Int)), (2, vi x2)] [] (B0, n)) ∧ PmK w d T L (cTs 4) 3 0 2 j lf dep j' lf' cm)
theorem plain_core (hE : TkE T L iE) (hj : j ≤ iE) (hnot : ¬ AtK T L j 1 18) (h0 : SpCmp w d T L iE j) (ih : ∀ j2 : Nat, j < j2 → j2 ≤ iE → SpTest w d T L iE j2) : ∀ lf dep e : Nat, dep + e = 8 → lf ≤ 50 → CoP w d T L iE j lf dep e := by
  intro lf dep e hde hlf
  have h400 : (iE : Int) ≤ 400 := by have := hE.2.1; have := hE.2.2.2; omega
  by_cases a : AtK T L j 3 40
  · have hj2 : j < iE := atK_in hE hj (by decide) a
    have inA : ∀ (V : NM → Prop) (n0 n : NM) (l : CLs) (G : GM) (Q : Option AV → Hp → Prop) (x2 : Int), C0 T L iE n0 → KS n0 n j lf l → (∀ n1, V n1 → Rn w mX3_plain (d + 8 * e + 10) G Q 69 [(0, vr 37), (2, vi x2)] [] (B0, n1)) → Ev w (d + 8 * e + 9) 0 0 mX3_testInBrackets [vr 37, vi ((dep : Int) + 1)] (B0, n) (fun r h' => ∃ n1 : NM, r = none ∧ h' = (B0, n1) ∧ V n1) → Rn w mX3_plain (d + 8 * e + 10) G Q 37 [(0, vr 37), (1, vi (dep : Int)), (2, vi x2)] [] (B0, n) := fun V n0 n l G Q x2 hc hn K E => by
      refine gX3_plain_37 ?_
      rw [hn.2.1]
      refine EI.use (s_isAtK hc hn.1.1 hj 3 40) ?_
      rw [if_pos a]
      exact ⟨fun c => absurd c (by decide), fun _ => ⟨⟨by omega, by omega⟩, EV.usP E K⟩⟩
    by_cases hd : dep < 8
    · obtain ⟨e', rfl⟩ : ∃ e' : Nat, e = e' + 1 := ⟨e - 1, by omega⟩
      have inB : ∀ (V : NM → Prop) (n0 n : NM) (l : CLs), C0 T L iE n0 → KS n0 n j lf l → (∀ n1 : NM, KS n0 n1 (j + 1) lf l → Ev w (d + 8 * (e' + 1) + 8) 0 0 mX3_test [vr 37, vi ((dep : Int) + 1)] (B0, n1) (fun r h' => ∃ n1 : NM, r = none ∧ h' = (B0, n1) ∧ 
          (Ev w (d + 8 * (e' + 1) + 8) 0 0 mX3_take [vr 37, vi 3, vi 41] (B0, n1) (fun r h' => ∃ (x26 : Int) (n25 : NM), r = some (vi x26) ∧ h' = (B0, n25) ∧ 
            ((x26 ≠ 0 → ∃ n2 : NM, (none : Option AV) = none ∧ ((B0, n25) : Hp) = (B0, n2) ∧ V n2) ∧
            (x26 = 0 → (Ev w (d + 8 * (e' + 1) + 8) 0 0 mX3_fail [vr 37] (B0, n25) (fun r h' => ∃ n28 : NM, r = none ∧ h' = (B0, n28) ∧ ∃ n2 : NM, (none : Option AV) = none ∧ ((B0, n28) : Hp) = (B0, n2) ∧ V n2)))))))) →
          Ev w (d + 8 * (e' + 1) + 9) 0 0 mX3_testInBrackets [vr 37, vi ((dep : Int) + 1)] (B0, n) (fun r h' => ∃ n1 : NM, r = none ∧ h' = (B0, n1) ∧ V n1) := fun V n0 n l hc hn K =>
        EV.ofP (by decide +kernel) (Nat.le_of_ble_eq_true rfl) rfl (fun _ G => gX3_testInBrackets_0 ⟨fun _ => EI.usP (s_takeY (d := d + 8 * (e' + 1) + 7) hc hn hj2 a) (fun x n1 z => K n1 z.2), fun c => absurd c (by omega)⟩)
      have opn : ∀ (m0 : NM) (xt : Int) (G : GM) (Q : Option AV → Hp → Prop) (n : NM) (l P : CLs), MS T L m0 n j lf dep l P → (∀ n1, MS T L m0 n1 (j + 1) lf (dep + 1) l ((30, 0) :: P) → ML w d xt G Q 0 n1) → ML w d xt G Q 0 n := fun m0 xt G Q n l P hm K =>
        ml0 hm.2.2.2.2.1.1 (m_plOpenY hm a hd (by omega)) (fun x n1 z => by
          rw [z.1]
          exact K n1 z.2)
      have okB : ∀ (xt : Int) (P : CLs), cTs 1 xt ((30, 0) :: P) := fun xt P => ⟨topLt_c (by decide), ⟨by show (30 : Int) ≠ 31; decide, Or.inl (by show (30 : Int) ≠ -1; decide)⟩⟩
      rcases ih (j + 1) (by omega) (by omega) lf (dep + 1) e' (by omega) hlf with ⟨q, hq, hF, hM⟩ | ⟨j', lf', cc, cm, F, hj', hlf', hG, hT, hnx, hK, hM⟩
      · refine Or.inl ⟨q, hq, fun n0 n l G Q x2 hc hn K => inA _ n0 n l G Q x2 hc hn K (inB _ n0 n l hc hn (fun n1 h1 => ?_)), fun m0 xt G Q n l P cd hm k => opn m0 xt G Q n l P hm (fun n1 s => hM 0 rfl m0 xt G Q n1 l _ (okB xt P) s k)⟩
        have hF' := hF n0 n1 l hc h1
        rw [show ((dep + 1 : Nat) : Int) = (dep : Int) + 1 by omega] at hF'
        exact EV.usP (Ev.deep (by omega) hF') (fun n2 z => EI.use (s_takeF (d := d + 8 * (e' + 1) + 7) (z.ne hE hq)) ⟨fun c => absurd rfl c, fun _ => EV.use (s_failF (d := d + 8 * (e' + 1) + 7) (z.ne hE hq)) ⟨n2, rfl, rfl, z⟩⟩)
      · by_cases b : AtK T L j' 3 41
        · have hj3 : j' < iE := atK_in hE hj'.2 (by decide) b
          refine Or.inr ⟨j' + 1, lf', cc, cm, F, ⟨⟨by omega, by omega⟩, by omega⟩, hlf', hG, hT trivial, fun n0 n l G Q x2 hc hn K => inA _ n0 n l G Q x2 hc hn K (inB _ n0 n l hc hn (fun n1 h1 => ?_)), fun m0 xt G Q n l P cd hm k => opn m0 xt G Q n l P hm (fun n1 s => hM 0 rfl m0 xt G Q n1 l _ (okB xt P) s (fun n2 l1 pend s2 hp es => ?_))⟩
          · have hK' := hK n0 n1 l hc h1
            rw [show ((dep + 1 : Nat) : Int) = (dep : Int) + 1 by omega] at hK'
            exact EV.usP (Ev.deep (by omega) hK') (fun n2 z => EI.usP (s_takeY (d := d + 8 * (e' + 1) + 7) hc z hj3 b) (fun x n3 y => ⟨fun _ => ⟨n3, rfl, rfl, y.2⟩, fun c => absurd (y.1.symm.trans c) (by decide)⟩))
          · refine ml2 s2.2.2.2.2.1.1 (m_btCloseY s2 hnx (by omega) b hp) (fun x n3 z => ?_)
            rw [z.1]
            exact k n3 (stlA pend l1) [] z.2 (fun x hx => absurd hx (List.not_mem_nil)) es
        · refine Or.inl ⟨j', hj'.2, fun n0 n l G Q x2 hc hn K => inA _ n0 n l G Q x2 hc hn K (inB _ n0 n l hc hn (fun n1 h1 => ?_)), fun m0 xt G Q n l P cd hm k => opn m0 xt G Q n l P hm (fun n1 s => hM 0 rfl m0 xt G Q n1 l _ (okB xt P) s (fun n2 l1 pend s2 hp es => ?_))⟩
          · have hK' := hK n0 n1 l hc h1
            rw [show ((dep + 1 : Nat) : Int) = (dep : Int) + 1 by omega] at hK'
            exact EV.usP (Ev.deep (by omega) hK') (fun n2 z => EI.use (s_takeN (d := d + 8 * (e' + 1) + 7) hc z hj'.2 b) ⟨fun c => absurd rfl c, fun _ => EV.usP (s_failK (d := d + 8 * (e' + 1) + 7) hc z.1 hj'.2 z.2.1) (fun n3 y => ⟨n3, rfl, rfl, y⟩)⟩)
          · refine ml2 s2.2.2.2.2.1.1 (m_btCloseN s2 hnx ?_ b) (fun x n3 z => k n3 x z)
            rw [innP_app hp]
            show (30 : Int) ≠ -1
            decide
    · refine Or.inl ⟨j, hj, fun n0 n l G Q x2 hc hn K => inA _ n0 n l G Q x2 hc hn K ?_, fun m0 xt G Q n l P cd hm k => ml0 hm.2.2.2.2.1.1 (m_plOpenN hm a (by omega)) (fun x n1 z => k n1 x z)⟩
      exact EV.ofP (by decide +kernel) (Nat.le_of_ble_eq_true rfl) rfl (fun _ G => gX3_testInBrackets_0 ⟨fun c => absurd c (by omega), fun _ => EV.usP (s_failK (d := d + 8 * e + 7) hc hn.1 hj hn.2.1) (fun n3 y => ⟨n3, rfl, rfl, y⟩)⟩)
  · have inC : ∀ (V : NM → Prop) (n0 n : NM) (l : CLs) (G : GM) (Q : Option AV → Hp → Prop) (x2 : Int), C0 T L iE n0 → KS n0 n j lf l → (∀ n1, V n1 → Rn w mX3_plain (d + 8 * e + 10) G Q 69 [(0, vr 37), (2, vi x2)] [] (B0, n1)) → Ev w (d + 8 * e + 9) 0 0 mX3_comparison [vr 37, vi (dep : Int)] (B0, n) (fun r h' => ∃ n1 : NM, r = none ∧ h' = (B0, n1) ∧ V n1) → Rn w mX3_plain (d + 8 * e + 10) G Q 37 [(0, vr 37), (1, vi (dep : Int)), (2, vi x2)] [] (B0, n) := fun V n0 n l G Q x2 hc hn K E => by
      refine gX3_plain_37 ?_
      rw [hn.2.1]
      refine EI.use (s_isAtK hc hn.1.1 hj 3 40) ?_
      rw [if_neg a]
      exact ⟨fun _ => EV.usP E K, fun c => absurd rfl c⟩
    rcases h0 lf dep e hde hlf with ⟨q, hq, hF, hM⟩ | ⟨j', lf', cc, cm, F, hj', hlf', hG, hT, hnx, hK, hM⟩
    · exact Or.inl ⟨q, hq, fun n0 n l G Q x2 hc hn K => inC _ n0 n l G Q x2 hc hn K (hF n0 n l hc hn), hM 0 (Or.inr ⟨rfl, hnot, a⟩)⟩
    · exact Or.inr ⟨j', lf', cc, cm, F, hj', hlf', hG, hT trivial, fun n0 n l G Q x2 hc hn K => inC _ n0 n l G Q x2 hc hn K (hK n0 n l hc hn), fun m0 xt G Q n l P cd hm k => hM 0 (Or.inr ⟨rfl, hnot, a⟩) m0 xt G Q n l P cd hm (fun n1 l1 pend s hp es => k n1 l1 pend s (fun x hx => by have := hp x hx; omega) es)⟩
def ntC (m : Nat) : CLs := if m % 2 = 1 then [(9, 0)] else []
def ntM : Nat → CLs
  | 0 => []
  | r + 1 => ntM r ++ [(27, 0)]
def ntN (m : Nat) (F : DEN) : DEN := if m % 2 = 1 then ntF F else F
theorem ntF2 (F : DEN) : ntF (ntF F) = F := by
  funext W
  unfold ntF
  cases F W with
  | none => rfl
  | some x =>
    show some (1 - (1 - x)) = some x
    rw [show 1 - (1 - x) = x by omega]
theorem gd_nots {cc cm : CLs} {F : DEN} {lf' : Nat} (r : Nat) (h : Gd cc cm F lf lf') (ht : isTest F) : Gd (cc ++ ntC r) (cm ++ ntM r) (ntN r F) lf lf' ∧ isTest (ntN r F) := by
  have hM : ∀ r : Nat, DenM (cm ++ ntM r) (ntN r F) ∧ WfM (cm ++ ntM r) := fun r => by
    induction r with
    | zero =>
      have e1 : cm ++ ntM 0 = cm := List.append_nil _
      rw [e1]
      exact ⟨h.2.1, h.2.2.2.1⟩
    | succ r ih =>
      have e1 : cm ++ ntM (r + 1) = (cm ++ ntM r) ++ [(27, 0)] := (List.append_assoc _ _ _).symm
      rw [e1]
      have q := denM_not ih.1
      have e2 : ntF (ntN r F) = ntN (r + 1) F := by
        unfold ntN
        by_cases c : r % 2 = 1
        · rw [if_pos c, if_neg (by omega), ntF2]
        · rw [if_neg c, if_pos (by omega)]
      rw [e2] at q
      exact ⟨q, wfM_app ih.2 ⟨⟨Or.inr (by decide), fun c => absurd c (by decide), fun c => by omega⟩, trivial⟩⟩
  have lM : 1 ≤ (cm ++ ntM r).length := by
    rw [List.length_append]
    have := h.2.2.2.2.2.2
    omega
  have hm := hM r
  unfold ntC ntN at *
  by_cases c : r % 2 = 1
  · rw [if_pos c] at hm ⊢
    rw [if_pos c]
    refine ⟨⟨denC_not h.1 ht, hm.1, wfC_app h.2.2.1 ⟨⟨by decide, fun c => absurd c (by decide), fun c => absurd c (by decide), fun c => by omega⟩, trivial⟩, hm.2, ?_, ?_, lM⟩, isTest_nt ht⟩
    · rw [pcn_app]
      have := h.2.2.2.2.1
      show pcn cc + 0 + (lf : Int) = lf'
      omega
    · have := h.2.2.2.2.2.1
      rw [List.length_append]
      omega
  · rw [if_neg c] at hm ⊢
    rw [if_neg c, List.append_nil]
    exact ⟨⟨h.1, hm.1, h.2.2.1, hm.2, h.2.2.2.2.1, h.2.2.2.2.2.1, lM⟩, ht⟩
def PlT (w : WD) (d : Nat) (T : Int → Int) (L : Int) (iE j lf dep e : Nat) : Prop :=
  (∃ q : Nat, q ≤ iE ∧ (∀ (n0 n : NM) (l : CLs) (G : GM) (Q : Option AV → Hp → Prop) (u : Nat) (x3 : Int), C0 T L iE n0 → KS n0 n j lf l → u ≤ 1 → 0 ≤ x3 → x3 + iE ≤ 400 + j → (∀ n1, KF T L n0 n1 q → Q none (B0, n1)) → Rn w mX3_plain (d + 8 * e + 10) G Q 4 [(0, vr 37), (1, vi (dep : Int)), (2, vi (u : Int)), (3, vi x3)] [] (B0, n)) ∧ PmF w d T L (cTs 4) 0 q j lf dep) ∨
  (∃ (j' lf' : Nat) (cc cm : CLs) (F : DEN) (r : Nat), ((j < j' ∧ j + r + cc.length ≤ j') ∧ j' ≤ iE) ∧ lf' ≤ 50 ∧ Gd cc cm F lf lf' ∧ isTest F ∧ (∀ (n0 n : NM) (l : CLs) (G : GM) (Q : Option AV → Hp → Prop) (u : Nat) (x3 : Int), C0 T L iE n0 → KS n0 n j lf l → u ≤ 1 → l.length + u ≤ j → 0 ≤ x3 → x3 + iE ≤ 400 + j → (∀ n1, KS n0 n1 j' lf' (l ++ (cc ++ ntC (u + r))) → Q none (B0, n1)) → Rn w mX3_plain (d + 8 * e + 10) G Q 4 [(0, vr 37), (1, vi (dep : Int)), (2, vi (u : Int)), (3, vi x3)] [] (B0, n)) ∧ PmK w d T L (cTs 4) 3 0 2 j lf dep j' lf' (cm ++ ntM r))
theorem plain_tail (hE : TkE T L iE) : ∀ (f j : Nat), iE - j ≤ f → j ≤ iE → SpCmp w d T L iE j → (∀ j2 : Nat, j < j2 → j2 ≤ iE → SpCmp w d T L iE j2) → (∀ j2 : Nat, j < j2 → j2 ≤ iE → SpTest w d T L iE j2) → ∀ lf dep e : Nat, dep + e = 8 → lf ≤ 50 → PlT w d T L iE j lf dep e := by
  have h400 : (iE : Int) ≤ 400 := by have := hE.2.1; have := hE.2.2.2; omega
  have stop : ∀ j : Nat, j ≤ iE → ¬ AtK T L j 1 18 → SpCmp w d T L iE j → (∀ j2 : Nat, j < j2 → j2 ≤ iE → SpTest w d T L iE j2) → ∀ lf dep e : Nat, dep + e = 8 → lf ≤ 50 → PlT w d T L iE j lf dep e := fun j hj hnot h0 ih lf dep e hde hlf => by
    have go : ∀ (n0 n : NM) (l : CLs) (G : GM) (Q : Option AV → Hp → Prop) (x2 x3 : Int), C0 T L iE n0 → KS n0 n j lf l → Rn w mX3_plain (d + 8 * e + 10) G Q 37 [(0, vr 37), (1, vi (dep : Int)), (2, vi x2)] [] (B0, n) → Rn w mX3_plain (d + 8 * e + 10) G Q 4 [(0, vr 37), (1, vi (dep : Int)), (2, vi x2), (3, vi x3)] [] (B0, n) := fun n0 n l G Q x2 x3 hc hn K =>
      gX3_plain_4 ⟨fun _ => K, fun _ => EI.use (s_takeN (d := d + 8 * e + 8) hc hn hj hnot) ⟨fun _ => K, fun c => absurd rfl c⟩⟩
    rcases plain_core hE hj hnot h0 ih lf dep e hde hlf with ⟨q, hq, hF, hM⟩ | ⟨j', lf', cc, cm, F, hj', hlf', hG, hT, hK, hM⟩
    · refine Or.inl ⟨q, hq, fun n0 n l G Q u x3 hc hn u1 x30 x31 kk => go n0 n l G Q _ x3 hc hn (hF n0 n l G Q _ hc hn (fun n1 z => gX3_plain_69 ⟨fun _ => kk n1 z, fun _ => EI.usP (s_addF z) (fun x n2 y => kk n2 y)⟩)), hM⟩
    · refine Or.inr ⟨j', lf', cc, cm, F, 0, ⟨⟨hj'.1.1, by omega⟩, hj'.2⟩, hlf', hG, hT, fun n0 n l G Q u x3 hc hn u1 lu x30 x31 kk => go n0 n l G Q _ x3 hc hn (hK n0 n l G Q _ hc hn (fun n1 z => gX3_plain_69 ⟨fun c => kk n1 ?_, fun c => ?_⟩)), ?_⟩
      · have e0 : cc ++ ntC (u + 0) = cc := by
          unfold ntC
          rw [if_neg (by omega), List.append_nil]
        rw [e0]
        exact z
      · have e0 : l ++ (cc ++ ntC (u + 0)) = (l ++ cc) ++ [(9, 0)] := by
          unfold ntC
          rw [if_pos (by omega), List.append_assoc]
        have hl : (l ++ cc).length = l.length + cc.length := List.length_append
        refine EI.usP (s_addR (v' := 0) z.1 (by omega) (by rw [if_neg (by decide)])) (fun x n2 y => kk n2 ?_)
        rw [e0]
        refine ⟨y.2.1, y.2.2.trans z.2.1, ?_⟩
        rw [List.length_append, List.length_singleton]
        omega
      · have e0 : cm ++ ntM 0 = cm := List.append_nil _
        rw [e0]
        exact hM
  intro f
  induction f with
  | zero =>
    intro j hf hj h0 ihc iht lf dep e hde hlf
    exact stop j hj (fun a => by have := atK_in hE hj (by decide) a; omega) h0 iht lf dep e hde hlf
  | succ f ihf =>
    intro j hf hj h0 ihc iht lf dep e hde hlf
    by_cases a : AtK T L j 1 18
    · have hj2 : j < iE := atK_in hE hj (by decide) a
      have mdS : ∀ (m0 : NM) (xt : Int) (G : GM) (Q : Option AV → Hp → Prop) (n : NM) (l P : CLs), MS T L m0 n j lf dep l P → (∀ n1, MS T L m0 n1 (j + 1) lf dep l ((27, 0) :: P) → ML w d xt G Q 0 n1) → ML w d xt G Q 0 n := fun m0 xt G Q n l P hm K =>
        ml0 hm.2.2.2.2.1.1 (m_plNot hm a (by omega)) (fun x n1 z => by
          rw [z.1]
          exact K n1 z.2)
      have cdS : ∀ (xt : Int) (P : CLs), cTs 4 xt P → cTs 4 xt ((27, 0) :: P) := fun xt P cd => ⟨topLt_c (by decide), okTs_c cd.2 (by decide)⟩
      have clS : ∀ (n0 n : NM) (l : CLs) (G : GM) (Q : Option AV → Hp → Prop) (u : Nat) (x3 : Int), C0 T L iE n0 → KS n0 n j lf l → u ≤ 1 → 0 ≤ x3 → x3 + iE ≤ 400 + j → (∀ n1, KS n0 n1 (j + 1) lf l → Rn w mX3_plain (d + 8 * e + 10) G Q 4 [(0, vr 37), (1, vi (dep : Int)), (2, vi ((1 - u : Nat) : Int)), (3, vi (x3 + 1))] [] (B0, n1)) → Rn w mX3_plain (d + 8 * e + 10) G Q 4 [(0, vr 37), (1, vi (dep : Int)), (2, vi (u : Int)), (3, vi x3)] [] (B0, n) := fun n0 n l G Q u x3 hc hn u1 x30 x31 K =>
        gX3_plain_4 ⟨fun c => by omega, fun _ => EI.usP (s_takeY (d := d + 8 * e + 8) hc hn hj2 a) (fun x n1 y => ⟨fun c => absurd (y.1.symm.trans c) (by decide), fun _ z hz => ⟨⟨by omega, by omega⟩, by
          have ez : z = ((1 - u : Nat) : Int) := by
            rw [hz]
            by_cases c : (u : Int) ≠ 0
            · rw [if_pos c]
              omega
            · rw [if_neg c]
              omega
          rw [ez]
          exact K n1 y.2⟩⟩)⟩
      rcases ihf (j + 1) (by omega) (by omega) (ihc (j + 1) (by omega) (by omega)) (fun j2 b c => ihc j2 (by omega) c) (fun j2 b c => iht j2 (by omega) c) lf dep e hde hlf with ⟨q, hq, hF, hM⟩ | ⟨j', lf', cc, cm, F, r, hj', hlf', hG, hT, hK, hM⟩
      · exact Or.inl ⟨q, hq, fun n0 n l G Q u x3 hc hn u1 x30 x31 kk => clS n0 n l G Q u x3 hc hn u1 x30 x31 (fun n1 h1 => hF n0 n1 l G Q _ _ hc h1 (by omega) (by omega) (by omega) kk), fun m0 xt G Q n l P cd hm k => mdS m0 xt G Q n l P hm (fun n1 s => hM m0 xt G Q n1 l _ (cdS xt P cd) s k)⟩
      · refine Or.inr ⟨j', lf', cc, cm, F, r + 1, ⟨⟨by omega, by omega⟩, hj'.2⟩, hlf', hG, hT, fun n0 n l G Q u x3 hc hn u1 lu x30 x31 kk => clS n0 n l G Q u x3 hc hn u1 x30 x31 (fun n1 h1 => hK n0 n1 l G Q _ _ hc h1 (by omega) (by have := hn.2.2; omega) (by omega) (by omega) (fun n2 z => kk n2 ?_)), fun m0 xt G Q n l P cd hm k => mdS m0 xt G Q n l P hm (fun n1 s => hM m0 xt G Q n1 l _ (cdS xt P cd) s (fun n2 l1 pend s2 hp es => ?_))⟩
        · have e0 : ntC (u + (r + 1)) = ntC ((1 - u) + r) := by
            unfold ntC
            by_cases c : ((1 - u) + r) % 2 = 1
            · rw [if_pos c, if_pos (by omega)]
            · rw [if_neg c, if_neg (by omega)]
          rw [e0]
          exact z
        · refine k n2 l1 (pend ++ [(27, 0)]) (by rw [List.append_assoc]; exact s2) (fun y hy => ?_) ?_
          · rcases List.mem_append.mp hy with v | v
            · exact hp y v
            · rw [List.mem_singleton.mp v]
              show (3 : Int) ≤ bnd 27
              decide
          · rw [stlA_snoc (by decide), es]
            show l ++ (cm ++ ntM r) ++ [(27, 0)] = l ++ (cm ++ (ntM r ++ [(27, 0)]))
            rw [List.append_assoc, List.append_assoc]
    · exact stop j hj a h0 iht lf dep e hde hlf
theorem ntC_len (m : Nat) : (ntC m).length ≤ m := by
  unfold ntC
  split
  · show 1 ≤ m
    omega
  · exact Nat.zero_le _
theorem sp_plain (hE : TkE T L iE) (hj : j ≤ iE) (h0 : SpCmp w d T L iE j) (ihc : ∀ j2 : Nat, j < j2 → j2 ≤ iE → SpCmp w d T L iE j2) (iht : ∀ j2 : Nat, j < j2 → j2 ≤ iE → SpTest w d T L iE j2) : SpPlain w d T L iE j := by
  intro lf dep e hde hlf
  have h400 : (iE : Int) ≤ 400 := by have := hE.2.1; have := hE.2.2.2; omega
  have up : ∀ (xt : Int) (P : CLs), cTs 3 xt P → cTs 4 xt P := fun xt P c => ⟨topLt_up c.1 (by decide), c.2⟩
  rcases plain_tail hE (iE - j) j (Nat.le_refl _) hj h0 ihc iht lf dep e hde hlf with ⟨q, hq, hF, hM⟩ | ⟨j', lf', cc, cm, F, r, hj', hlf', hG, hT, hK, hM⟩
  · refine Or.inl ⟨q, hq, fun n0 n l hc hn => EV.ofP (by decide +kernel) (Nat.le_of_ble_eq_true rfl) rfl (fun _ G => gX3_plain_0 (hF n0 n l G _ 0 0 hc hn (by decide) (by decide) (by omega) (fun n1 z => ⟨n1, rfl, rfl, z⟩))), fun t st m0 xt G Q n l P cd hm k => ?_⟩
    have st : t = 0 := st
    subst st
    exact hM m0 xt G Q n l P (up xt P cd) hm k
  · have g := gd_nots r hG hT
    have nl := ntC_len r
    refine Or.inr ⟨j', lf', cc ++ ntC r, cm ++ ntM r, ntN r F, ⟨⟨hj'.1.1, by rw [List.length_append]; omega⟩, hj'.2⟩, hlf', g.1, fun _ => g.2, trivial, fun n0 n l hc hn => EV.ofP (by decide +kernel) (Nat.le_of_ble_eq_true rfl) rfl (fun _ G => gX3_plain_0 (hK n0 n l G _ 0 0 hc hn (by decide) (by have := hn.2.2; omega) (by decide) (by omega) (fun n1 z => ⟨n1, rfl, rfl, by rw [Nat.zero_add] at z; exact z⟩))), fun t st m0 xt G Q n l P cd hm k => ?_⟩
    have st : t = 0 := st
    subst st
    exact hM m0 xt G Q n l P (up xt P cd) hm k
end PPLAIN
