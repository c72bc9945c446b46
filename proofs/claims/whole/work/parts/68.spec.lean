section PSPEC
variable {w : WD} {d : Nat} {n n0 m0 : NM} {T : Int → Int} {L : Int} {iE : Nat} {j lf : Nat} {l P : CLs}
def PhF (w : WD) (D : Nat) (m : MI) (T : Int → Int) (L : Int) (iE q j lf dep : Nat) : Prop := ∀ (n0 n : NM) (l : CLs), C0 T L iE n0 → KS n0 n j lf l → Ev w D 0 0 m [vr 37, vi (dep : Int)] (B0, n) (fun r h' => ∃ n1 : NM, r = none ∧ h' = (B0, n1) ∧ KF T L n0 n1 q)
def PhK (w : WD) (D : Nat) (m : MI) (T : Int → Int) (L : Int) (iE j lf dep j' lf' : Nat) (cc : CLs) : Prop := ∀ (n0 n : NM) (l : CLs), C0 T L iE n0 → KS n0 n j lf l → Ev w D 0 0 m [vr 37, vi (dep : Int)] (B0, n) (fun r h' => ∃ n1 : NM, r = none ∧ h' = (B0, n1) ∧ KS n0 n1 j' lf' (l ++ cc))
def PmF (w : WD) (d : Nat) (T : Int → Int) (L : Int) (cond : Int → CLs → Prop) (t : Int) (q j lf dep : Nat) : Prop := ∀ (m0 : NM) (xt : Int) (G : GM) (Q : Option AV → Hp → Prop) (n : NM) (l P : CLs), cond xt P → MS T L m0 n j lf dep l P → (∀ (n1 : NM) (t1 : Int), MB T L m0 n1 q → ML w d xt G Q t1 n1) → ML w d xt G Q t n
def PmK (w : WD) (d : Nat) (T : Int → Int) (L : Int) (cond : Int → CLs → Prop) (b t t' : Int) (j lf dep j' lf' : Nat) (cm : CLs) : Prop := ∀ (m0 : NM) (xt : Int) (G : GM) (Q : Option AV → Hp → Prop) (n : NM) (l P : CLs), cond xt P → MS T L m0 n j lf dep l P → (∀ (n1 : NM) (l1 pend : CLs), MS T L m0 n1 j' lf' dep l1 (pend ++ P) → (∀ x, x ∈ pend → b ≤ bnd x.1) → stlA pend l1 = l ++ cm → ML w d xt G Q t' n1) → ML w d xt G Q t n
/-- both codes of a phrase mean the same -/
def Gd (cc cm : CLs) (F : DEN) (lf lf' : Nat) : Prop := DenC cc F ∧ DenM cm F ∧ WfC cc ∧ WfM cm ∧ pcn cc + (lf : Int) = lf' ∧ 1 ≤ cc.length ∧ 1 ≤ cm.length
/-- a phrase, on both sides -/
def Sp (w : WD) (d : Nat) (T : Int → Int) (L : Int) (iE : Nat) (m : MI) (Dk : Nat) (b : Int) (cond : Int → CLs → Prop) (St : Nat → Int → Prop) (t' : Int) (tst : Prop) (nx : Nat → Prop) (j : Nat) : Prop :=
  ∀ lf dep e : Nat, dep + e = 8 → lf ≤ 50 →
    (∃ q : Nat, q ≤ iE ∧ PhF w (d + 8 * e + Dk) m T L iE q j lf dep ∧ ∀ t, St j t → PmF w d T L cond t q j lf dep) ∨
    (∃ (j' lf' : Nat) (cc cm : CLs) (F : DEN), ((j < j' ∧ j + cc.length ≤ j') ∧ j' ≤ iE) ∧ lf' ≤ 50 ∧ Gd cc cm F lf lf' ∧ (tst → isTest F) ∧ nx j' ∧ PhK w (d + 8 * e + Dk) m T L iE j lf dep j' lf' cc ∧ ∀ t, St j t → PmK w d T L cond b t t' j lf dep j' lf' cm)
def St1 (T : Int → Int) (L : Int) (j : Nat) (t : Int) : Prop := t = 1 ∨ (t = 0 ∧ ¬ AtK T L j 1 18 ∧ ¬ AtK T L j 3 40)
def cTop (b : Int) : Int → CLs → Prop := fun _ P => topLt b P
abbrev SpPart (w : WD) (d : Nat) (T : Int → Int) (L : Int) (iE : Nat) : Nat → Prop := Sp w d T L iE mX3_part 6 7 (cTop 7) (St1 T L) 3 False (fun _ => True)
/-- neither times nor parts -/
def noMul (T : Int → Int) (L : Int) (j : Nat) : Prop := ¬ AtK T L j 3 42 ∧ ¬ AtK T L j 3 47
abbrev SpTerm (w : WD) (d : Nat) (T : Int → Int) (L : Int) (iE : Nat) : Nat → Prop := Sp w d T L iE mX3_term 7 6 (cTop 6) (St1 T L) 3 False (noMul T L)
abbrev SpSum (w : WD) (d : Nat) (T : Int → Int) (L : Int) (iE : Nat) : Nat → Prop := Sp w d T L iE mX3_sum 8 5 (cTop 5) (St1 T L) 3 False (noOp T L)
theorem bnd_le (o : Int) : 0 ≤ bnd o ∧ bnd o ≤ 6 := by
  unfold bnd
  split
  · decide
  · split
    · decide
    · split
      · decide
      · split
        · decide
        · split
          · decide
          · split <;> decide
theorem topLt7 (P : CLs) : topLt 7 P := fun x P' _ => by
  have := bnd_le x.1
  omega
theorem topLt_c {b : Int} {x : Int × Int} {P : CLs} (h : bnd x.1 < b) : topLt b (x :: P) := fun y P' e => by
  have := (List.cons.inj e).1
  rw [← this]
  exact h
/-- the turn at a part, from either start -/
theorem ml_part {t : Int} {xt : Int} {G : GM} {Q : Option AV → Hp → Prop} {V : Int → NM → Prop} {dep : Nat} (st : St1 T L j t) (h : MS T L m0 n j lf dep l P) (E : EvI w (d + 4) mX12_readPart [vr 145] n V) (k : ∀ x n1, V x n1 → ML w d xt G Q x n1) : ML w d xt G Q t n := by
  rcases st with rfl | ⟨rfl, a, b⟩
  · exact ml1 h.2.2.2.2.1.1 E k
  · exact ml0 h.2.2.2.2.1.1 (m_plPart h a b E) k
theorem s_countedY {k v : Int} (hc : C0 T L iE n0) (hn : KS n0 n j lf l) (hj : j < iE) (hl : lf < 50) (hk : k = 0 ∨ k = 1) : Ev w (d + 2) 0 0 mX3_countedPart [vr 37, vi k, vi v] (B0, n) (fun r h' => ∃ n1 : NM, r = none ∧ h' = (B0, n1) ∧ KS n0 n1 (j + 1) (lf + 1) (l ++ [(k, v)])) := by
  have e3 := hn.1.2.1.1
  have e2 := hn.2.1
  have hlt := (hc.tk hn.1.1 (Nat.le_of_lt hj)).2.2.2.2
  refine EV.ofP (by decide +kernel) (Nat.le_of_ble_eq_true rfl) rfl (fun _ G => gX3_countedPart_0 ⟨fun _ => ⟨⟨by omega, by omega⟩, ?_⟩, fun z => absurd z (by omega)⟩)
  refine EI.usP (s_addR (v' := v) (hn.1.leaf hl) (by have := hn.2.2; omega) (by rw [if_neg (by omega)])) (fun x n1 z => ?_)
  have e4 : n1 37 2 = (j : Int) := by
    rw [z.2.2, upn_i (by decide)]
    exact e2
  rw [e4]
  refine ⟨⟨by omega, by omega⟩, _, rfl, rfl, z.2.1.at, ?_, ?_⟩
  · rw [upn_self]
    omega
  · rw [List.length_append]
    have := hn.2.2
    show l.length + 1 ≤ j + 1
    omega
theorem s_countedN {k v : Int} (hc : C0 T L iE n0) (hn : KS n0 n j lf l) (hj : j ≤ iE) (hl : 50 ≤ lf) : Ev w (d + 2) 0 0 mX3_countedPart [vr 37, vi k, vi v] (B0, n) (fun r h' => ∃ n1 : NM, r = none ∧ h' = (B0, n1) ∧ KF T L n0 n1 j) := by
  have e3 := hn.1.2.1.1
  exact EV.ofP (by decide +kernel) (Nat.le_of_ble_eq_true rfl) rfl (fun _ G => gX3_countedPart_0 ⟨fun z => absurd z (by omega), fun _ => EV.usP (s_failK hc hn.1 hj hn.2.1) (fun n1 z => ⟨n1, rfl, rfl, z⟩)⟩)
/-- the class's part: a bracket, a leaf, or a fault -/
theorem s_partB {V : NM → Prop} {dep : Nat} (hd8 : dep ≤ 8) (hc : C0 T L iE n0) (hn : KS n0 n j lf l) (hj : j ≤ iE) (a : AtK T L j 3 91) (E : Ev w (d + 1) 0 0 mX3_sumInBrackets [vr 37, vi ((dep : Int) + 1)] (B0, n) (fun r h' => ∃ n1 : NM, r = none ∧ h' = (B0, n1) ∧ V n1)) : Ev w (d + 2) 0 0 mX3_part [vr 37, vi (dep : Int)] (B0, n) (fun r h' => ∃ n1 : NM, r = none ∧ h' = (B0, n1) ∧ V n1) := by
  refine EV.ofP (by decide +kernel) (Nat.le_of_ble_eq_true rfl) rfl (fun _ G => gX3_part_0 ?_)
  rw [hn.2.1]
  refine EI.use (s_valueK hc hn.1.1 hj) ?_
  rw [hn.2.1]
  refine EI.use (s_kindK hc hn.1.1 hj) ?_
  rw [hn.2.1]
  refine EI.use (s_isAtK hc hn.1.1 hj 3 91) ?_
  rw [if_pos a]
  exact ⟨fun c => absurd c (by decide), fun _ => ⟨⟨by omega, by omega⟩, EV.usP E (fun n1 z => ⟨n1, rfl, rfl, z⟩)⟩⟩
theorem s_partL {V : NM → Prop} {dep : Nat} {o a : Int} (hc : C0 T L iE n0) (hn : KS n0 n j lf l) (hj : j ≤ iE) (hl : IsLeaf T L j o a) (E : ∀ k v : Int, ((o = 0 ∧ k = 0 ∧ v = a) ∨ (1 ≤ o ∧ o ≤ 9 ∧ k = 1 ∧ v = o - 1)) → Ev w (d + 1) 0 0 mX3_countedPart [vr 37, vi k, vi v] (B0, n) (fun r h' => ∃ n1 : NM, r = none ∧ h' = (B0, n1) ∧ V n1)) : Ev w (d + 2) 0 0 mX3_part [vr 37, vi (dep : Int)] (B0, n) (fun r h' => ∃ n1 : NM, r = none ∧ h' = (B0, n1) ∧ V n1) := by
  refine EV.ofP (by decide +kernel) (Nat.le_of_ble_eq_true rfl) rfl (fun _ G => gX3_part_0 ?_)
  rw [hn.2.1]
  refine EI.use (s_valueK hc hn.1.1 hj) ?_
  rw [hn.2.1]
  refine EI.use (s_kindK hc hn.1.1 hj) ?_
  rw [hn.2.1]
  refine EI.use (s_isAtK hc hn.1.1 hj 3 91) ?_
  rw [if_neg (fun z => by
    have := z.1
    rcases hl with q | q
    · omega
    · omega)]
  refine ⟨fun _ => ?_, fun c => absurd rfl c⟩
  rcases hl with q | q
  · exact ⟨fun c => absurd q.1 c, fun _ => ⟨fun c => absurd c (by omega), fun _ => EV.usP (E 0 _ (Or.inl ⟨q.2.2.1, rfl, q.2.2.2.symm⟩)) (fun n1 z => ⟨n1, rfl, rfl, z⟩)⟩⟩
  · refine ⟨fun _ => gX3_part_71 ⟨fun c => absurd q.1 c, fun _ => EI.use (s_within _ _ _) ?_⟩, fun c => absurd c (by omega)⟩
    rw [if_pos q.2.1]
    exact ⟨fun c => absurd c (by decide), fun _ => ⟨⟨by omega, by omega⟩, EV.usP (E 1 _ (Or.inr ⟨by omega, by omega, rfl, by omega⟩)) (fun n1 z => ⟨n1, rfl, rfl, z⟩)⟩⟩
theorem s_partN {dep : Nat} (hc : C0 T L iE n0) (hn : KS n0 n j lf l) (hj : j ≤ iE) (na : ¬ AtK T L j 3 91) (nl : ∀ o a : Int, ¬ IsLeaf T L j o a) : Ev w (d + 2) 0 0 mX3_part [vr 37, vi (dep : Int)] (B0, n) (fun r h' => ∃ n1 : NM, r = none ∧ h' = (B0, n1) ∧ KF T L n0 n1 j) := by
  have fl : ∀ G : GM, Ev w (d + 1) 0 0 mX3_fail [vr 37] (B0, n) (fun r h' => ∃ n26 : NM, r = none ∧ h' = (B0, n26) ∧ ∃ n1 : NM, (none : Option AV) = none ∧ ((B0, n26) : Hp) = (B0, n1) ∧ KF T L n0 n1 j) := fun G => EV.usP (s_failK hc hn.1 hj hn.2.1) (fun n1 z => ⟨n1, rfl, rfl, z⟩)
  refine EV.ofP (by decide +kernel) (Nat.le_of_ble_eq_true rfl) rfl (fun _ G => gX3_part_0 ?_)
  rw [hn.2.1]
  refine EI.use (s_valueK hc hn.1.1 hj) ?_
  rw [hn.2.1]
  refine EI.use (s_kindK hc hn.1.1 hj) ?_
  rw [hn.2.1]
  refine EI.use (s_isAtK hc hn.1.1 hj 3 91) ?_
  rw [if_neg na]
  have p71 : Rn w mX3_part (d + 1 + 1) G (fun r h' => ∃ n1 : NM, r = none ∧ h' = (B0, n1) ∧ KF T L n0 n1 j) 71 [(0, vr 37), (2, vi (jV T L j)), (3, vi (jK T L j))] [] (B0, n) := gX3_part_71 ⟨fun _ => fl G, fun c => EI.use (s_within _ _ _) (ite01 (fun _ => fl G) (fun c2 => absurd (Or.inr ⟨c, c2, rfl, rfl⟩) (nl _ _)))⟩
  exact ⟨fun _ => ⟨fun _ => p71, fun c => ⟨fun _ => p71, fun c2 => absurd (Or.inl ⟨c, c2, rfl, rfl⟩) (nl _ _)⟩⟩, fun c => absurd rfl c⟩
theorem isLeaf_d (T : Int → Int) (L : Int) (j : Nat) : (∃ o a : Int, IsLeaf T L j o a) ∨ ∀ o a : Int, ¬ IsLeaf T L j o a := by
  by_cases c : jK T L j = 2 ∧ jV T L j ≤ 100000
  · exact Or.inl ⟨_, _, Or.inl ⟨c.1, c.2, rfl, rfl⟩⟩
  · by_cases c2 : jK T L j = 1 ∧ 6 ≤ jV T L j ∧ jV T L j ≤ 14
    · exact Or.inl ⟨_, _, Or.inr ⟨c2.1, c2.2, rfl, rfl⟩⟩
    · refine Or.inr (fun o a z => ?_)
      rcases z with z | z
      · exact c ⟨z.1, z.2.1⟩
      · exact c2 ⟨z.1, z.2.1⟩
/-- a leaf's codes -/
theorem leaf_gd {o a k v : Int} (hE : TkE T L iE) (hl : IsLeaf T L j o a) (hk : (o = 0 ∧ k = 0 ∧ v = a) ∨ (1 ≤ o ∧ o ≤ 9 ∧ k = 1 ∧ v = o - 1)) : ∃ F : DEN, Gd [(k, v)] [(o, a)] F lf (lf + 1) := by
  have ha : o = 0 → 0 ≤ a ∧ a ≤ 100000 := fun e => by
    rcases hl with q | q
    · have := jW_num hE.2.2.2.1 q.1
      omega
    · omega
  rcases hk with ⟨rfl, rfl, rfl⟩ | ⟨h1, h2, rfl, rfl⟩
  · exact ⟨_, denC_num, denM_num, ⟨⟨by decide, fun _ => ha rfl, fun c => absurd c (by decide), fun c => by omega⟩, trivial⟩, ⟨⟨Or.inl (by decide), fun _ => ha rfl, fun c => by omega⟩, trivial⟩, by show (1 + 0) + (lf : Int) = ((lf + 1 : Nat) : Int); omega, Nat.le_refl _, Nat.le_refl _⟩
  · have q := denM_word (v := o - 1) (a := a) (by omega) (by omega)
    rw [show o - 1 + 1 = o by omega] at q
    exact ⟨_, denC_word, q, ⟨⟨by decide, fun c => absurd c (by decide), fun _ => by omega, fun c => by omega⟩, trivial⟩, ⟨⟨Or.inl (by omega), fun c => by omega, fun c => by omega⟩, trivial⟩, by show (1 + 0) + (lf : Int) = ((lf + 1 : Nat) : Int); omega, Nat.le_refl _, Nat.le_refl _⟩
theorem isLeaf_in {o a : Int} (hE : TkE T L iE) (hj : j ≤ iE) (hl : IsLeaf T L j o a) : j < iE := by
  rcases jK_in hE hj with q | q
  · rcases hl with z | z
    · omega
    · omega
  · exact q.2.2
theorem atK_in {k v : Int} (hE : TkE T L iE) (hj : j ≤ iE) (hk : k ≠ 0) (hl : AtK T L j k v) : j < iE := by
  rcases jK_in hE hj with q | q
  · exact absurd (hl.1.symm.trans q.1) hk
  · exact q.2.2
theorem leaf_kv (o a : Int) (hl : IsLeaf T L j o a) : ∃ k v : Int, (k = 0 ∨ k = 1) ∧ ((o = 0 ∧ k = 0 ∧ v = a) ∨ (1 ≤ o ∧ o ≤ 9 ∧ k = 1 ∧ v = o - 1)) := by
  rcases hl with q | q
  · exact ⟨0, a, Or.inl rfl, Or.inl ⟨q.2.2.1, rfl, rfl⟩⟩
  · exact ⟨1, o - 1, Or.inr rfl, Or.inr ⟨by omega, by omega, rfl, rfl⟩⟩
theorem sp_part (hE : TkE T L iE) (hj : j ≤ iE) (ih : ∀ j2 : Nat, j < j2 → j2 ≤ iE → SpSum w d T L iE j2) : SpPart w d T L iE j := by
  intro lf dep e hde hlf
  have h400 : (iE : Int) ≤ 400 := by have := hE.2.1; have := hE.2.2.2; omega
  by_cases a : AtK T L j 3 91
  · have hj2 : j < iE := atK_in hE hj (by decide) a
    by_cases hd : dep < 8
    · obtain ⟨e', rfl⟩ : ∃ e' : Nat, e = e' + 1 := ⟨e - 1, by omega⟩
      have inB : ∀ (V : NM → Prop) (n0 n : NM) (l : CLs), C0 T L iE n0 → KS n0 n j lf l → (∀ n1 : NM, KS n0 n1 (j + 1) lf l → Ev w (d + 8 * (e' + 1) + 4) 0 0 mX3_sum [vr 37, vi ((dep : Int) + 1)] (B0, n1) (fun r h' => ∃ n1 : NM, r = none ∧ h' = (B0, n1) ∧ 
          (Ev w (d + 8 * (e' + 1) + 4) 0 0 mX3_take [vr 37, vi 3, vi 93] (B0, n1) (fun r h' => ∃ (x26 : Int) (n25 : NM), r = some (vi x26) ∧ h' = (B0, n25) ∧ 
            ((x26 ≠ 0 → ∃ n2 : NM, (none : Option AV) = none ∧ ((B0, n25) : Hp) = (B0, n2) ∧ V n2) ∧
            (x26 = 0 → (Ev w (d + 8 * (e' + 1) + 4) 0 0 mX3_fail [vr 37] (B0, n25) (fun r h' => ∃ n28 : NM, r = none ∧ h' = (B0, n28) ∧ ∃ n2 : NM, (none : Option AV) = none ∧ ((B0, n28) : Hp) = (B0, n2) ∧ V n2)))))))) →
          Ev w (d + 8 * (e' + 1) + 6) 0 0 mX3_part [vr 37, vi (dep : Int)] (B0, n) (fun r h' => ∃ n1 : NM, r = none ∧ h' = (B0, n1) ∧ V n1) := fun V n0 n l hc hn K =>
        s_partB (d := d + 8 * (e' + 1) + 4) (by omega) hc hn hj a (EV.ofP (by decide +kernel) (Nat.le_of_ble_eq_true rfl) rfl (fun _ G => gX3_sumInBrackets_0 ⟨fun _ => EI.usP (s_takeY (d := d + 8 * (e' + 1) + 3) hc hn hj2 a) (fun x n1 z => K n1 z.2), fun c => absurd c (by omega)⟩))
      have opn : ∀ (m0 : NM) (xt : Int) (G : GM) (Q : Option AV → Hp → Prop) (n : NM) (l P : CLs) (t : Int), St1 T L j t → MS T L m0 n j lf dep l P → (∀ n1, MS T L m0 n1 (j + 1) lf (dep + 1) l ((31, 0) :: P) → ML w d xt G Q 1 n1) → ML w d xt G Q t n := fun m0 xt G Q n l P t st hm K =>
        ml_part st hm (m_rpOpenY hm a hd (by omega)) (fun x n1 z => by
          rw [z.1]
          exact K n1 z.2)
      rcases ih (j + 1) (by omega) (by omega) lf (dep + 1) e' (by omega) hlf with ⟨q, hq, hF, hM⟩ | ⟨j', lf', cc, cm, F, hj', hlf', hG, _, hnx, hK, hM⟩
      · refine Or.inl ⟨q, hq, fun n0 n l hc hn => inB _ n0 n l hc hn (fun n1 h1 => ?_), fun t st m0 xt G Q n l P cd hm k => opn m0 xt G Q n l P t st hm (fun n1 s => hM 1 (Or.inl rfl) m0 xt G Q n1 l _ (topLt_c (by decide)) s k)⟩
        have hF' := hF n0 n1 l hc h1
        rw [show ((dep + 1 : Nat) : Int) = (dep : Int) + 1 by omega] at hF'
        refine EV.usP (Ev.deep (by omega) hF') (fun n2 z => EI.use (s_takeF (d := d + 8 * (e' + 1) + 3) (z.ne hE hq)) ⟨fun c => absurd rfl c, fun _ => EV.use (s_failF (d := d + 8 * (e' + 1) + 3) (z.ne hE hq)) ⟨n2, rfl, rfl, z⟩⟩)
      · by_cases b : AtK T L j' 3 93
        · have hj3 : j' < iE := atK_in hE hj'.2 (by decide) b
          refine Or.inr ⟨j' + 1, lf', cc, cm, F, ⟨⟨by omega, by omega⟩, by omega⟩, hlf', hG, fun c => c.elim, trivial, fun n0 n l hc hn => inB _ n0 n l hc hn (fun n1 h1 => ?_), fun t st m0 xt G Q n l P cd hm k => opn m0 xt G Q n l P t st hm (fun n1 s => hM 1 (Or.inl rfl) m0 xt G Q n1 l _ (topLt_c (by decide)) s (fun n2 l1 pend s2 hp es => ?_))⟩
          · have hK' := hK n0 n1 l hc h1
            rw [show ((dep + 1 : Nat) : Int) = (dep : Int) + 1 by omega] at hK'
            refine EV.usP (Ev.deep (by omega) hK') (fun n2 z => EI.usP (s_takeY (d := d + 8 * (e' + 1) + 3) hc z hj3 b) (fun x n3 y => ⟨fun _ => ⟨n3, rfl, rfl, y.2⟩, fun c => absurd (y.1.symm.trans c) (by decide)⟩))
          · refine ml3 s2.2.2.2.2.1.1 (m_bsCloseY s2 hnx (by omega) b hp) (fun x n3 z => ?_)
            rw [z.1]
            refine k n3 (stlA pend l1) [] z.2 (fun x hx => absurd hx (List.not_mem_nil)) ?_
            show stlA pend l1 = _
            exact es
        · refine Or.inl ⟨j', hj'.2, fun n0 n l hc hn => inB _ n0 n l hc hn (fun n1 h1 => ?_), fun t st m0 xt G Q n l P cd hm k => opn m0 xt G Q n l P t st hm (fun n1 s => hM 1 (Or.inl rfl) m0 xt G Q n1 l _ (topLt_c (by decide)) s (fun n2 l1 pend s2 hp es => ?_))⟩
          · have hK' := hK n0 n1 l hc h1
            rw [show ((dep + 1 : Nat) : Int) = (dep : Int) + 1 by omega] at hK'
            refine EV.usP (Ev.deep (by omega) hK') (fun n2 z => EI.use (s_takeN (d := d + 8 * (e' + 1) + 3) hc z hj'.2 b) ⟨fun c => absurd rfl c, fun _ => EV.usP (s_failK (d := d + 8 * (e' + 1) + 3) hc z.1 hj'.2 z.2.1) (fun n3 y => ⟨n3, rfl, rfl, y⟩)⟩)
          · exact ml3 s2.2.2.2.2.1.1 (m_bsCloseN s2 hnx ((innP_app (fun x hx => by have := hp x hx; omega)).trans rfl) b) (fun x n3 z => k n3 x z)
    · refine Or.inl ⟨j, hj, fun n0 n l hc hn => ?_, fun t st m0 xt G Q n l P cd hm k => ml_part st hm (m_rpOpenN hm a (by omega)) (fun x n1 z => k n1 x z)⟩
      exact s_partB (d := d + 8 * e + 4) (by omega) hc hn hj a (EV.ofP (by decide +kernel) (Nat.le_of_ble_eq_true rfl) rfl (fun _ G => gX3_sumInBrackets_0 ⟨fun c => absurd c (by omega), fun _ => EV.usP (s_failK (d := d + 8 * e + 3) hc hn.1 hj hn.2.1) (fun n3 y => ⟨n3, rfl, rfl, y⟩)⟩))
  · rcases isLeaf_d T L j with ⟨o, v, hl⟩ | nl
    · have hj2 := isLeaf_in hE hj hl
      obtain ⟨k, u, hk01, hk⟩ := leaf_kv o v hl
      have uniq : ∀ k2 u2 : Int, ((o = 0 ∧ k2 = 0 ∧ u2 = v) ∨ (1 ≤ o ∧ o ≤ 9 ∧ k2 = 1 ∧ u2 = o - 1)) → k2 = k ∧ u2 = u := fun k2 u2 z => by omega
      by_cases h50 : lf < 50
      · obtain ⟨F, hG⟩ := leaf_gd (lf := lf) hE hl hk
        refine Or.inr ⟨j + 1, lf + 1, [(k, u)], [(o, v)], F, ⟨⟨by omega, Nat.le_refl _⟩, by omega⟩, by omega, hG, fun c => c.elim, trivial, fun n0 n l hc hn => s_partL (d := d + 8 * e + 4) hc hn hj hl (fun k2 u2 z => ?_), fun t st m0 xt G Q n l P cd hm kk => ml_part st hm (m_rpLeafY hm hl h50 (by omega)) (fun x n1 z => ?_)⟩
        · have := uniq k2 u2 z
          rw [this.1, this.2]
          exact s_countedY (d := d + 8 * e + 3) hc hn hj2 h50 hk01
        · rw [z.1]
          exact kk n1 _ [] z.2 (fun x hx => absurd hx (List.not_mem_nil)) rfl
      · exact Or.inl ⟨j, hj, fun n0 n l hc hn => s_partL (d := d + 8 * e + 4) hc hn hj hl (fun k2 u2 z => s_countedN (d := d + 8 * e + 3) hc hn hj (by omega)), fun t st m0 xt G Q n l P cd hm kk => ml_part st hm (m_rpLeafN hm a (Or.inl (by omega))) (fun x n1 z => kk n1 x z)⟩
    · exact Or.inl ⟨j, hj, fun n0 n l hc hn => s_partN (d := d + 8 * e + 4) hc hn hj a nl, fun t st m0 xt G Q n l P cd hm kk => ml_part st hm (m_rpLeafN hm a (Or.inr nl)) (fun x n1 z => kk n1 x z)⟩
end PSPEC
