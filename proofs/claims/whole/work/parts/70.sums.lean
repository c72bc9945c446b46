section PSUMS
variable {w : WD} {d : Nat} {T : Int → Int} {L : Int} {iE : Nat} {j lf : Nat}
def opT (c k o : Int) : Prop := (c = 42 ∧ k = 4 ∧ o = 22) ∨ (c = 47 ∧ k = 5 ∧ o = 23)
def opA (c k o : Int) : Prop := (c = 43 ∧ k = 2 ∧ o = 20) ∨ (c = 45 ∧ k = 3 ∧ o = 21)
theorem opT_ok : ChO opT 6 := fun c k o h => by
  rcases h with ⟨rfl, rfl, rfl⟩ | ⟨rfl, rfl, rfl⟩
  · exact ⟨by decide, by decide, Or.inr (Or.inr (Or.inl ⟨rfl, rfl⟩)), by decide⟩
  · exact ⟨by decide, by decide, Or.inr (Or.inr (Or.inr ⟨rfl, rfl⟩)), by decide⟩
theorem opA_ok : ChO opA 5 := fun c k o h => by
  rcases h with ⟨rfl, rfl, rfl⟩ | ⟨rfl, rfl, rfl⟩
  · exact ⟨by decide, by decide, Or.inl ⟨rfl, rfl⟩, by decide⟩
  · exact ⟨by decide, by decide, Or.inr (Or.inl ⟨rfl, rfl⟩), by decide⟩
theorem chc_term : ChC w T L iE mX3_term mX3_part opT := by
  refine ⟨fun D n dep P K => EV.ofP (by decide +kernel) (Nat.le_of_ble_eq_true rfl) rfl (fun _ G => K G), fun D G Q n dep E => gX3_term_0 E, fun D G Q n0 n j lf dep l x2 hc hn hj no q => gX3_term_7 ⟨fun _ => q, fun _ => ?_⟩, fun D G Q n dep x2 hf q => gX3_term_7 ⟨fun _ => q, fun _ => ?_⟩, fun D G Q n0 n j lf dep l x2 c k o hop hat hc hn hj x0 x1 K => gX3_term_7 ⟨fun z => absurd z (by omega), fun _ => ?_⟩⟩
  · refine EI.use (s_takeN hc hn hj (no 42 4 22 (Or.inl ⟨rfl, rfl, rfl⟩))) ⟨fun _ => EI.use (s_takeN hc hn hj (no 47 5 23 (Or.inr ⟨rfl, rfl, rfl⟩))) (fun z hz => ?_), fun z => absurd rfl z⟩
    rw [if_pos rfl] at hz
    subst hz
    exact ⟨fun z => absurd rfl z, fun _ => q⟩
  · refine EI.use (s_takeF hf) ⟨fun _ => EI.use (s_takeF hf) (fun z hz => ?_), fun z => absurd rfl z⟩
    rw [if_pos rfl] at hz
    subst hz
    exact ⟨fun z => absurd rfl z, fun _ => q⟩
  · rcases hop with ⟨rfl, rfl, rfl⟩ | ⟨rfl, rfl, rfl⟩
    · exact EI.usP (s_takeY hc hn hj hat) (fun x n1 y => ⟨fun z => absurd (y.1.symm.trans z) (by decide), fun _ => gX3_term_43 ⟨fun _ => K n1 y.2, fun z => absurd z (by decide)⟩⟩)
    · refine EI.use (s_takeN hc hn (Nat.le_of_lt hj) (atK_ne hat (Or.inr (by decide)))) ⟨fun _ => EI.usP (s_takeY hc hn hj hat) (fun x n1 y z hz => ?_), fun z => absurd rfl z⟩
      rw [y.1, if_neg (by decide)] at hz
      subst hz
      exact ⟨fun _ => K n1 y.2, fun z => absurd z (by decide)⟩
theorem chc_sum : ChC w T L iE mX3_sum mX3_term opA := by
  refine ⟨fun D n dep P K => EV.ofP (by decide +kernel) (Nat.le_of_ble_eq_true rfl) rfl (fun _ G => K G), fun D G Q n dep E => gX3_sum_0 E, fun D G Q n0 n j lf dep l x2 hc hn hj no q => gX3_sum_7 ⟨fun _ => q, fun _ => ?_⟩, fun D G Q n dep x2 hf q => gX3_sum_7 ⟨fun _ => q, fun _ => ?_⟩, fun D G Q n0 n j lf dep l x2 c k o hop hat hc hn hj x0 x1 K => gX3_sum_7 ⟨fun z => absurd z (by omega), fun _ => ?_⟩⟩
  · refine EI.use (s_takeN hc hn hj (no 43 2 20 (Or.inl ⟨rfl, rfl, rfl⟩))) ⟨fun _ => EI.use (s_takeN hc hn hj (no 45 3 21 (Or.inr ⟨rfl, rfl, rfl⟩))) (fun z hz => ?_), fun z => absurd rfl z⟩
    rw [if_pos rfl] at hz
    subst hz
    exact ⟨fun z => absurd rfl z, fun _ => q⟩
  · refine EI.use (s_takeF hf) ⟨fun _ => EI.use (s_takeF hf) (fun z hz => ?_), fun z => absurd rfl z⟩
    rw [if_pos rfl] at hz
    subst hz
    exact ⟨fun z => absurd rfl z, fun _ => q⟩
  · rcases hop with ⟨rfl, rfl, rfl⟩ | ⟨rfl, rfl, rfl⟩
    · exact EI.usP (s_takeY hc hn hj hat) (fun x n1 y => ⟨fun z => absurd (y.1.symm.trans z) (by decide), fun _ => gX3_sum_43 ⟨fun _ => K n1 y.2, fun z => absurd z (by decide)⟩⟩)
    · refine EI.use (s_takeN hc hn (Nat.le_of_lt hj) (atK_ne hat (Or.inr (by decide)))) ⟨fun _ => EI.usP (s_takeY hc hn hj hat) (fun x n1 y z hz => ?_), fun z => absurd rfl z⟩
      rw [y.1, if_neg (by decide)] at hz
      subst hz
      exact ⟨fun _ => K n1 y.2, fun z => absurd z (by decide)⟩
theorem sp_term (hE : TkE T L iE) (hj : j ≤ iE) (h0 : SpPart w d T L iE j) (ih : ∀ j2 : Nat, j < j2 → j2 ≤ iE → SpPart w d T L iE j2) : SpTerm w d T L iE j :=
  ch_whole (Dk := 5) (b := 6) hE chc_term opT_ok (by decide) hj (fun i _ h => ⟨h 42 4 22 (Or.inl ⟨rfl, rfl, rfl⟩), h 47 5 23 (Or.inr ⟨rfl, rfl, rfl⟩)⟩) h0 ih
theorem sp_sum (hE : TkE T L iE) (hj : j ≤ iE) (h0 : SpTerm w d T L iE j) (ih : ∀ j2 : Nat, j < j2 → j2 ≤ iE → SpTerm w d T L iE j2) : SpSum w d T L iE j :=
  ch_whole (Dk := 6) (b := 5) hE chc_sum opA_ok (by decide) hj (fun i hm h c o hop => by
    rcases hop with ⟨rfl, rfl⟩ | ⟨rfl, rfl⟩ | ⟨rfl, rfl⟩ | ⟨rfl, rfl⟩
    · exact h 43 2 20 (Or.inl ⟨rfl, rfl, rfl⟩)
    · exact h 45 3 21 (Or.inr ⟨rfl, rfl, rfl⟩)
    · exact hm.1
    · exact hm.2) h0 ih
/-- where a test may stand on the pile -/
def cTs (b : Int) : Int → CLs → Prop := fun xt P => topLt b P ∧ okTs xt P
abbrev SpCmp (w : WD) (d : Nat) (T : Int → Int) (L : Int) (iE : Nat) : Nat → Prop := Sp w d T L iE mX3_comparison 9 4 (cTs 4) (St1 T L) 2 True (fun _ => True)
theorem isCmp_app {P : CLs} : ∀ {pend : CLs}, (∀ x, x ∈ pend → 5 ≤ bnd x.1) → (∀ x, x ∈ pend → 20 ≤ x.1) → isCmpP (pend ++ P) = isCmpP P
  | [], _, _ => rfl
  | x :: pend, h, g => by
    have a := h x (List.mem_cons_self ..)
    have b := g x (List.mem_cons_self ..)
    show (if 20 ≤ x.1 ∧ x.1 ≤ 23 then isCmpP (pend ++ P) else if 24 ≤ x.1 ∧ x.1 ≤ 26 then 1 else 0) = isCmpP P
    have c : x.1 ≤ 23 := by
      by_cases q : 24 ≤ x.1
      · unfold bnd at a
        revert a
        split
        · omega
        · split
          · omega
          · split
            · omega
            · split
              · omega
              · omega
      · omega
    rw [if_pos ⟨b, c⟩]
    exact isCmp_app (fun y hy => h y (List.mem_cons_of_mem _ hy)) (fun y hy => g y (List.mem_cons_of_mem _ hy))
theorem isCmp_top {P : CLs} (h : topLt 4 P) : isCmpP P = 0 := by
  match P, h with
  | [], _ => rfl
  | x :: P', h =>
    have a := h x P' rfl
    have c : 27 ≤ x.1 := by
      by_cases q : 27 ≤ x.1
      · exact q
      · unfold bnd at a
        rw [if_neg (by omega), if_neg (by omega), if_neg (by omega), if_neg (by omega)] at a
        revert a
        split
        · omega
        · split <;> omega
    show (if 20 ≤ x.1 ∧ x.1 ≤ 23 then isCmpP P' else if 24 ≤ x.1 ∧ x.1 ≤ 26 then 1 else 0) = 0
    rw [if_neg (by omega), if_neg (by omega)]
theorem okTs_app {xt : Int} {pend P : CLs} (h : okTs xt P) (hp : ∀ x, x ∈ pend → 1 ≤ bnd x.1) : okTs xt (pend ++ P) := by
  unfold okTs
  rw [innP_app hp]
  exact h
theorem okTs_c {xt : Int} {x : Int × Int} {P : CLs} (h : okTs xt P) (hx : x.1 < 30) : okTs xt (x :: P) := by
  have e : innP (x :: P) = innP P := by
    show (if 30 ≤ x.1 then x.1 else innP P) = innP P
    rw [if_neg (by omega)]
  unfold okTs
  rw [e]
  exact h
theorem topLt_up {b b2 : Int} {P : CLs} (h : topLt b P) (hb : b ≤ b2) : topLt b2 P := fun x P' z => by
  have := h x P' z
  omega
theorem sp_cmp (hE : TkE T L iE) (hj : j ≤ iE) (h0 : SpSum w d T L iE j) (ih : ∀ j2 : Nat, j < j2 → j2 ≤ iE → SpSum w d T L iE j2) : SpCmp w d T L iE j := by
  intro lf dep e hde hlf
  have h400 : (iE : Int) ≤ 400 := by have := hE.2.1; have := hE.2.2.2; omega
  have fin : ∀ (pend P : CLs) (n m0 : NM) (l : CLs) (j lf : Nat), MS T L m0 n j lf dep l (pend ++ P) → ∀ x, x ∈ pend → 20 ≤ x.1 := fun pend P n m0 l j lf s x hx => (s.2.2.1.2.2.2.2 x (List.mem_append_left _ hx)).1.1
  rcases h0 lf dep e hde hlf with ⟨q, hq, hF, hM⟩ | ⟨j1, lf1, c1, m1, F1, hj1, hlf1, hG1, _, hnx1, hK1, hM1⟩
  · refine Or.inl ⟨q, hq, fun n0 n l hc hn => EV.ofP (by decide +kernel) (Nat.le_of_ble_eq_true rfl) rfl (fun _ G => gX3_comparison_0 (EV.usP (hF n0 n l hc hn) (fun n1 z => EI.use (s_takeF (z.ne hE hq)) ⟨fun _ => EI.use (s_takeF (z.ne hE hq)) ⟨fun _ => EI.use (s_takeF (z.ne hE hq)) (fun y hy => ?_), fun c => absurd rfl c⟩, fun c => absurd rfl c⟩))), fun t st m0 xt G Q n l P cd hm k => hM t st m0 xt G Q n l P (topLt_up cd.1 (by decide)) hm k⟩
    rw [if_pos rfl] at hy
    subst hy
    exact ⟨fun c => absurd rfl c, fun _ => EV.use (s_failF (z.ne hE hq)) ⟨n1, rfl, rfl, z⟩⟩
  · by_cases ex : ∃ c o, cmS c o ∧ AtK T L j1 3 c
    · obtain ⟨c, o, hop, hat⟩ := ex
      have hj2 : j1 < iE := atK_in hE hj1.2 (by decide) hat
      have h24 : 24 ≤ o ∧ o ≤ 26 := by unfold cmS at hop; omega
      have bo : bnd o = 4 := by
        rcases hop with ⟨_, rfl⟩ | ⟨_, rfl⟩ | ⟨_, rfl⟩ <;> decide
      have mdS : ∀ (m0 : NM) (xt : Int) (G : GM) (Q : Option AV → Hp → Prop) (n : NM) (l P : CLs) (t : Int), St1 T L j t → cTs 4 xt P → MS T L m0 n j lf dep l P → (∀ n1, MS T L m0 n1 (j1 + 1) lf1 dep (l ++ m1) ((o, 0) :: P) → ML w d xt G Q 1 n1) → ML w d xt G Q t n := fun m0 xt G Q n l P t st cd hm K =>
        hM1 t st m0 xt G Q n l P (topLt_up cd.1 (by decide)) hm (fun n1 l1 pend s hp es =>
          ml3 s.2.2.2.2.1.1 (m_bsCmpY hop hat s hnx1 (okTs_app cd.2 (fun x hx => by have := hp x hx; omega)) ((isCmp_app hp (fin _ _ _ _ _ _ _ s)).trans (isCmp_top cd.1)) rfl hp (topLt_up cd.1 (by decide)) (by omega)) (fun x n2 z => by
            rw [z.1]
            refine K n2 ?_
            rw [← es]
            exact z.2))
      have clS : ∀ (n0 n : NM) (l : CLs) (V : NM → Prop), C0 T L iE n0 → KS n0 n j lf l → (∀ n1 : NM, KS n0 n1 (j1 + 1) lf1 (l ++ c1) → Ev w (d + 8 * e + 8) 0 0 mX3_sum [vr 37, vi (dep : Int)] (B0, n1) (fun r h' => ∃ n2 : NM, r = none ∧ h' = (B0, n2) ∧ (Ev w (d + 8 * e + 8) 0 0 mX2_addStep [vr 42, vi (o - 18), vi 0] (B0, n2) (fun r h' => ∃ (x35 : Int) (n3 : NM), r = some (vi x35) ∧ h' = (B0, n3) ∧ ∃ n4 : NM, (none : Option AV) = none ∧ ((B0, n3) : Hp) = (B0, n4) ∧ V n4)))) → Ev w (d + 8 * e + 9) 0 0 mX3_comparison [vr 37, vi (dep : Int)] (B0, n) (fun r h' => ∃ n1 : NM, r = none ∧ h' = (B0, n1) ∧ V n1) := fun n0 n l V hc hn K => by
        refine EV.ofP (by decide +kernel) (Nat.le_of_ble_eq_true rfl) rfl (fun _ G => gX3_comparison_0 (EV.usP (hK1 n0 n l hc hn) (fun n1 z => ?_)))
        rcases hop with ⟨rfl, rfl⟩ | ⟨rfl, rfl⟩ | ⟨rfl, rfl⟩
        · exact EI.usP (s_takeY hc z hj2 hat) (fun x n2 y => ⟨fun z => absurd (y.1.symm.trans z) (by decide), fun _ => gX3_comparison_51 ⟨fun _ => K n2 y.2, fun z => absurd z (by decide)⟩⟩)
        · exact EI.use (s_takeN hc z hj1.2 (atK_ne hat (Or.inr (by decide)))) ⟨fun _ => EI.usP (s_takeY hc z hj2 hat) (fun x n2 y => ⟨fun z => absurd (y.1.symm.trans z) (by decide), fun _ => gX3_comparison_51 ⟨fun _ => K n2 y.2, fun z => absurd z (by decide)⟩⟩), fun c => absurd rfl c⟩
        · refine EI.use (s_takeN hc z hj1.2 (atK_ne hat (Or.inr (by decide)))) ⟨fun _ => EI.use (s_takeN hc z hj1.2 (atK_ne hat (Or.inr (by decide)))) ⟨fun _ => EI.usP (s_takeY hc z hj2 hat) (fun x n2 y u hu => ?_), fun c => absurd rfl c⟩, fun c => absurd rfl c⟩
          rw [y.1, if_neg (by decide)] at hu
          subst hu
          exact ⟨fun _ => K n2 y.2, fun z => absurd z (by decide)⟩
      rcases ih (j1 + 1) (by omega) (by omega) lf1 dep e hde hlf1 with ⟨q, hq, hF, hM⟩ | ⟨j2, lf2, c2, m2, F2, hj22, hlf2, hG2, _, hnx2, hK2, hM2⟩
      · exact Or.inl ⟨q, hq, fun n0 n l hc hn => clS n0 n l _ hc hn (fun n1 h1 => EV.usP (hF n0 n1 _ hc h1) (fun n2 z => EI.usP (s_addF z) (fun x n3 y => ⟨n3, rfl, rfl, y⟩))), fun t st m0 xt G Q n l P cd hm k => mdS m0 xt G Q n l P t st cd hm (fun n1 s => hM 1 (Or.inl rfl) m0 xt G Q n1 _ _ (topLt_c (show bnd o < 5 by omega)) s k)⟩
      · refine Or.inr ⟨j2, lf2, c1 ++ c2 ++ [(o - 18, 0)], m1 ++ m2 ++ [(o, 0)], opF (o - 18) F1 F2, ⟨⟨by omega, by rw [List.length_append, List.length_append, List.length_singleton]; omega⟩, hj22.2⟩, hlf2, gd_bin hG1 hG2 (by omega) (by omega), fun _ => isTest_op (by omega), trivial, fun n0 n l hc hn => clS n0 n l _ hc hn (fun n1 h1 => EV.usP (hK2 n0 n1 _ hc h1) (fun n2 z => ?_)), fun t st m0 xt G Q n l P cd hm k => mdS m0 xt G Q n l P t st cd hm (fun n1 s => hM2 1 (Or.inl rfl) m0 xt G Q n1 _ _ (topLt_c (show bnd o < 5 by omega)) s (fun n2 l2 pend2 s2 hp2 es2 => ?_))⟩
        · have hh := hn.2.2
          have hl : (l ++ c1 ++ c2).length = l.length + c1.length + c2.length := by rw [List.length_append, List.length_append]
          refine EI.usP (s_addR (v' := 0) z.1 (by omega) (by rw [if_neg (by omega)])) (fun x n3 y => ⟨n3, rfl, rfl, ?_, y.2.2.trans z.2.1, ?_⟩)
          · rw [← List.append_assoc, ← List.append_assoc]
            exact y.2.1
          · rw [← List.append_assoc, ← List.append_assoc, List.length_append, List.length_singleton]
            omega
        · have p1 : ∀ x, x ∈ pend2 → 1 ≤ bnd x.1 := fun x hx => by have := hp2 x hx; omega
          refine ml3 s2.2.2.2.2.1.1 (m_bsTold s2 hnx2 (okTs_app (okTs_c cd.2 (show o < 30 by omega)) p1) ((isCmp_app hp2 (fin _ _ _ _ _ _ _ s2)).trans ?_)) (fun x n3 z => ?_)
          · show (if 20 ≤ o ∧ o ≤ 23 then isCmpP P else if 24 ≤ o ∧ o ≤ 26 then 1 else 0) = 1
            rw [if_neg (by omega), if_pos h24]
          · rw [z.1, z.2]
            refine k n2 l2 (pend2 ++ [(o, 0)]) (by rw [List.append_assoc]; exact s2) (fun y hy => ?_) ?_
            · rcases List.mem_append.mp hy with u | u
              · have := hp2 y u
                omega
              · rw [List.mem_singleton.mp u]
                show 4 ≤ bnd o
                omega
            · rw [stlA_snoc (by omega), es2, List.append_assoc, List.append_assoc, List.append_assoc]
    · have no : ∀ c o, cmS c o → ¬ AtK T L j1 3 c := fun c o h z => ex ⟨c, o, h, z⟩
      refine Or.inl ⟨j1, hj1.2, fun n0 n l hc hn => EV.ofP (by decide +kernel) (Nat.le_of_ble_eq_true rfl) rfl (fun _ G => gX3_comparison_0 (EV.usP (hK1 n0 n l hc hn) (fun n1 z => EI.use (s_takeN hc z hj1.2 (no 60 24 (Or.inl ⟨rfl, rfl⟩))) ⟨fun _ => EI.use (s_takeN hc z hj1.2 (no 62 25 (Or.inr (Or.inl ⟨rfl, rfl⟩)))) ⟨fun _ => EI.use (s_takeN hc z hj1.2 (no 61 26 (Or.inr (Or.inr ⟨rfl, rfl⟩)))) (fun y hy => ?_), fun c => absurd rfl c⟩, fun c => absurd rfl c⟩))), fun t st m0 xt G Q n l P cd hm k => hM1 t st m0 xt G Q n l P (topLt_up cd.1 (by decide)) hm (fun n1 l1 pend s hp es =>
          ml3 s.2.2.2.2.1.1 (m_bsCmpN no s hnx1 (okTs_app cd.2 (fun x hx => by have := hp x hx; omega)) ((isCmp_app hp (fin _ _ _ _ _ _ _ s)).trans (isCmp_top cd.1))) (fun x n2 z => k n2 x z))⟩
      rw [if_pos rfl] at hy
      subst hy
      exact ⟨fun c => absurd rfl c, fun _ => EV.usP (s_failK hc z.1 hj1.2 z.2.1) (fun n3 y => ⟨n3, rfl, rfl, y⟩)⟩
end PSUMS
