section MTEST
variable {w : WD} {d : Nat} {n m0 : NM} {T : Int → Int} {L : Int} {iE : Nat} {j lf dep : Nat} {l P : CLs}
/-- "and" and "or": the word, the operator, how it binds -/
def skS (p o b : Int) : Prop := (p = 17 ∧ o = 28 ∧ b = 2) ∨ (p = 16 ∧ o = 29 ∧ b = 1)
theorem sk_tail {V : Int → NM → Prop} {o b : Int} (ho : (o = 28 ∧ b = 2) ∨ (o = 29 ∧ b = 1)) {pend P0 : CLs} (h : MS T L m0 n j lf dep l P) (hP : P = pend ++ P0) (hp : ∀ x, x ∈ pend → b ≤ bnd x.1) (ht : topLt b P0) (hj : j < 400) (hV : ∀ n1, MS T L m0 n1 (j + 1) lf dep (stlA pend l ++ [(o, -((stlA pend l).length : Int))]) ((o, ((stlA pend l).length : Int)) :: P0) → V 0 n1) :
    Ev w (d + 2) 0 0 mX12_settle [vr 145, vi b] (B0, n) (fun r h' => ∃ n23 : NM, r = none ∧ h' = (B0, n23) ∧ 
      (Ev w (d + 2) 0 0 mX12_push [vr 145, vi o, vi (n23 145 17)] (B0, n23) (fun r h' => ∃ n26 : NM, r = none ∧ h' = (B0, n26) ∧ 
        (Ev w (d + 2) 0 0 mX12_emit [vr 145, vi o, vi 0] (B0, n26) (fun r h' => ∃ n29 : NM, r = none ∧ h' = (B0, n29) ∧ 
          (Ev w (d + 2) 0 0 mX12_next [vr 145] (B0, n29) (fun r h' => ∃ n30 : NM, r = none ∧ h' = (B0, n30) ∧ 
            ∃ (x1 : Int) (n1 : NM), some (vi (0 : Int)) = some (vi x1) ∧ ((B0, n30) : Hp) = (B0, n1) ∧ V x1 n1))))))) := by
  have pl : ∀ x, x ∈ pend → 1 ≤ bnd x.1 := fun x hx => by
    have := hp x hx
    omega
  refine EV.usP (m_settle (by omega) h.2.2.1) (fun n1 s => ?_)
  rw [hP, stl_app ht hp] at s
  have s3 : MR n1 (stlA pend l) P0 := s.2
  have s2 := h.settled s.1 s3 hP pl
  have cap := s2.2.2.2.2.2.2
  have e17 := s3.1.1
  rw [e17]
  refine EV.usP (m_push (P := P0) (v := ((stlA pend l).length : Int)) s3.1.2 (by omega) s3.2.2.2.1) (fun n2 q => ?_)
  refine EV.usP (m_emit (l := stlA pend l) (v := 0) ((q.1 145 17 (by omega)).trans e17) (by omega) (embM_congr _ _ (fun i _ _ => ⟨q.1 152 i (by omega), q.1 153 i (by omega)⟩) s3.2.2.1)) (fun n3 e => ?_)
  have g2 : FrM2 n2 n1 := fun t x c => q.1 t x (by omega)
  have g3 : FrM2 n3 n1 := (FrM2.ofS e.1).tr g2
  have k3 : ∀ x : Int, x ≠ 17 → x ≠ 23 → n3 145 x = n1 145 x := fun x a b => (e.1 145 x (by omega)).trans (q.1 145 x (by omega))
  refine EV.usP (m_nextT (d := d + 1) (s2.1.fm g3) (s2.2.2.2.1.fr (fun x a b => k3 x (by omega) (by omega)))) (fun n4 z => ⟨0, n4, rfl, rfl, hV n4 ?_⟩)
  have g4 : FrM2 n4 n1 := (FrM2.ofX z.1).tr g3
  have ee : emc ((o, ((stlA pend l).length : Int)) :: P0) = emc P0 := by
    show (if o = 28 ∨ o = 29 ∨ 30 ≤ o then 0 else 1) + emc P0 = emc P0
    rw [if_pos (by omega)]
    omega
  have el : (stlA pend l ++ [(o, -((stlA pend l).length : Int))]).length = (stlA pend l).length + 1 := by
    rw [List.length_append]
    rfl
  refine ⟨s2.1.fm g4, g4.tr s2.2.1, ⟨⟨?_, ?_⟩, ⟨by omega, by rw [List.length_cons]; omega⟩, ?_, ?_, ?_⟩, z.2, ⟨?_, ?_⟩, ⟨?_, ?_⟩, by omega, by rw [List.length_cons]; omega⟩
  · rw [z.1 145 17 (by omega), e.2.1, el]
    omega
  · rw [z.1 145 23 (by omega), e.2.2.1, q.2.1, List.length_cons]
    omega
  · refine embM_congr _ _ (fun i _ _ => ⟨z.1 152 i (by omega), z.1 153 i (by omega)⟩) (e.2.2.2 _ ?_)
    rw [if_pos (by omega)]
    omega
  · refine pile_congr (fun i _ _ => ⟨?_, ?_⟩) q.2.2
    · rw [z.1 154 i (by omega), e.1 154 i (by omega)]
    · rw [z.1 155 i (by omega), e.1 155 i (by omega)]
  · intro x hx
    rw [el]
    rcases List.mem_cons.mp hx with c | c
    · rw [c]
      refine ⟨by show 20 ≤ o ∧ o ≤ 31; omega, fun _ => ?_⟩
      show 0 ≤ ((stlA pend l).length : Int) ∧ ((stlA pend l).length : Int) < _
      omega
    · have := s3.2.2.2.2 x c
      refine ⟨this.1, fun c2 => ?_⟩
      have := this.2 c2
      omega
  · rw [z.1 145 14 (by omega), k3 14 (by decide) (by decide)]
    exact s2.2.2.2.2.1.1
  · rw [z.1 145 13 (by omega), k3 13 (by decide) (by decide)]
    exact s2.2.2.2.2.1.2
  · rw [z.1 145 20 (by omega), k3 20 (by decide) (by decide)]
    exact s2.2.2.2.2.2.1.1
  · rw [z.1 145 24 (by omega), k3 24 (by decide) (by decide)]
    exact s2.2.2.2.2.2.1.2
theorem m_btSk {p o b : Int} (hs : skS p o b) (a : AtK T L j 1 p) {pend P0 : CLs} (h : MS T L m0 n j lf dep l P) (hP : P = pend ++ P0) (hp : ∀ x, x ∈ pend → b ≤ bnd x.1) (ht : topLt b P0) (hj : j < 400) : EvI w (d + 3) mX12_behindTest [vr 145] n (fun x n1 => x = 0 ∧ MS T L m0 n1 (j + 1) lf dep (stlA pend l ++ [(o, -((stlA pend l).length : Int))]) ((o, ((stlA pend l).length : Int)) :: P0)) := by
  have tl := sk_tail (w := w) (d := d) (V := fun x n1 => x = 0 ∧ MS T L m0 n1 (j + 1) lf dep (stlA pend l ++ [(o, -((stlA pend l).length : Int))]) ((o, ((stlA pend l).length : Int)) :: P0)) (o := o) (b := b) (by unfold skS at hs; omega) h hP hp ht hj (fun n1 z => ⟨rfl, z⟩)
  refine EI.ofP (by decide +kernel) (Nat.le_of_ble_eq_true rfl) rfl (fun _ G => gX12_behindTest_0 (EI.use (m_isWordP h.2.2.2.1 (p := 17) (by decide) rfl) ?_))
  rcases hs with ⟨rfl, rfl, rfl⟩ | ⟨rfl, rfl, rfl⟩
  · rw [if_pos (show AtK T L j 1 ((17 : Nat) : Int) from a)]
    refine ⟨fun _ => gX12_behindTest_22 (fun z hz => ?_), fun c => absurd c (by decide)⟩
    rw [if_neg (by decide)] at hz
    subst hz
    refine Ev.mono tl (fun r h' y => ?_)
    obtain ⟨n1, y1, y2, y3⟩ := y
    refine ⟨n1, y1, y2, fun z hz => ?_⟩
    rw [if_neg (by decide)] at hz
    subst hz
    refine Ev.mono y3 (fun r h' y => ?_)
    obtain ⟨n1, y1, y2, y3⟩ := y
    refine ⟨n1, y1, y2, fun z hz => ?_⟩
    rw [if_neg (by decide)] at hz
    subst hz
    exact y3
  · rw [if_neg (show ¬ AtK T L j 1 ((17 : Nat) : Int) from atK_ne a (Or.inr (by decide)))]
    refine ⟨fun c => absurd rfl c, fun _ => EI.use (m_isWordP h.2.2.2.1 (p := 16) (by decide) rfl) ?_⟩
    rw [if_pos (show AtK T L j 1 ((16 : Nat) : Int) from a)]
    refine ⟨fun c => absurd c (by decide), fun _ => gX12_behindTest_22 (fun z hz => ?_)⟩
    rw [if_pos rfl] at hz
    subst hz
    refine Ev.mono tl (fun r h' y => ?_)
    obtain ⟨n1, y1, y2, y3⟩ := y
    refine ⟨n1, y1, y2, fun z hz => ?_⟩
    rw [if_pos rfl] at hz
    subst hz
    refine Ev.mono y3 (fun r h' y => ?_)
    obtain ⟨n1, y1, y2, y3⟩ := y
    refine ⟨n1, y1, y2, fun z hz => ?_⟩
    rw [if_pos rfl] at hz
    subst hz
    exact y3
def noSk (T : Int → Int) (L : Int) (j : Nat) : Prop := ¬ AtK T L j 1 17 ∧ ¬ AtK T L j 1 16
theorem m_btOver (h : MS T L m0 n j lf dep l P) (no : noSk T L j) (ei : innP P = -1) : EvI w (d + 3) mX12_behindTest [vr 145] n (fun x n1 => x = 4 ∧ n1 = n) := by
  refine EI.ofP (by decide +kernel) (Nat.le_of_ble_eq_true rfl) rfl (fun _ G => gX12_behindTest_0 (EI.use (m_isWordP h.2.2.2.1 (p := 17) (by decide) rfl) ?_))
  rw [if_neg (show ¬ AtK T L j 1 ((17 : Nat) : Int) from no.1)]
  refine ⟨fun c => absurd rfl c, fun _ => EI.use (m_isWordP h.2.2.2.1 (p := 16) (by decide) rfl) ?_⟩
  rw [if_neg (show ¬ AtK T L j 1 ((16 : Nat) : Int) from no.2)]
  exact ⟨fun _ => EI.use (m_inner h.2.2.1) ⟨fun c => absurd ei c, fun _ => ⟨4, n, rfl, rfl, rfl, rfl⟩⟩, fun c => absurd rfl c⟩
theorem m_btCloseY {pend P0 : CLs} (h : MS T L m0 n j lf (dep + 1) l (pend ++ (30, 0) :: P0)) (no : noSk T L j) (hd8 : dep ≤ 8) (a : AtK T L j 3 41) (hp : ∀ x, x ∈ pend → 1 ≤ bnd x.1) : EvI w (d + 3) mX12_behindTest [vr 145] n (fun x n1 => x = 2 ∧ MS T L m0 n1 (j + 1) lf dep (stlA pend l) P0) := by
  have ei : innP (pend ++ (30, 0) :: P0) = 30 := (innP_app hp).trans rfl
  refine EI.ofP (by decide +kernel) (Nat.le_of_ble_eq_true rfl) rfl (fun _ G => gX12_behindTest_0 (EI.use (m_isWordP h.2.2.2.1 (p := 17) (by decide) rfl) ?_))
  rw [if_neg (show ¬ AtK T L j 1 ((17 : Nat) : Int) from no.1)]
  refine ⟨fun c => absurd rfl c, fun _ => EI.use (m_isWordP h.2.2.2.1 (p := 16) (by decide) rfl) ?_⟩
  rw [if_neg (show ¬ AtK T L j 1 ((16 : Nat) : Int) from no.2)]
  refine ⟨fun _ => EI.use (m_inner h.2.2.1) ⟨fun _ => EI.use (m_isSignK h.2.2.2.1 41) ?_, fun c => absurd (ei.symm.trans c) (by decide)⟩, fun c => absurd rfl c⟩
  rw [if_pos a]
  refine EV.usP (m_mustY (by decide) h) (fun n1 s => ⟨fun c => absurd s.2.2.2.2.1.1 c, fun _ => EV.usP (m_settle (by decide) s.2.2.1) (fun n2 q => ?_)⟩)
  rw [stl_app (fun x P' e => by cases e; decide) hp] at q
  have s2 := s.settled q.1 q.2 rfl hp
  have cp := s2.2.2.1.2.1.2
  have e23 := s2.2.2.1.1.2
  have e24 := s2.2.2.2.2.2.1.2
  rw [List.length_cons] at cp e23
  exact ⟨⟨by omega, by omega⟩, ⟨by omega, by omega⟩, 2, _, rfl, rfl, rfl, s2.pop (by decide)⟩
theorem m_btCloseN (h : MS T L m0 n j lf dep l P) (no : noSk T L j) (ei : innP P ≠ -1) (a : ¬ AtK T L j 3 41) : EvI w (d + 3) mX12_behindTest [vr 145] n (fun _ n1 => MB T L m0 n1 j) := by
  refine EI.ofP (by decide +kernel) (Nat.le_of_ble_eq_true rfl) rfl (fun _ G => gX12_behindTest_0 (EI.use (m_isWordP h.2.2.2.1 (p := 17) (by decide) rfl) ?_))
  rw [if_neg (show ¬ AtK T L j 1 ((17 : Nat) : Int) from no.1)]
  refine ⟨fun c => absurd rfl c, fun _ => EI.use (m_isWordP h.2.2.2.1 (p := 16) (by decide) rfl) ?_⟩
  rw [if_neg (show ¬ AtK T L j 1 ((16 : Nat) : Int) from no.2)]
  refine ⟨fun _ => EI.use (m_inner h.2.2.1) ⟨fun _ => EI.use (m_isSignK h.2.2.2.1 41) ?_, fun c => absurd c ei⟩, fun c => absurd rfl c⟩
  rw [if_neg a]
  exact EV.usP (m_mustN h) (fun n1 s => ⟨fun _ => ⟨2, n1, rfl, rfl, s⟩, fun c => absurd (s.2.2.1.symm.trans c) (by decide)⟩)
/-! the reading of an expression, from one turn to the next -/
abbrev ML (w : WD) (d : Nat) (xt : Int) (G : GM) (Q : Option AV → Hp → Prop) (t : Int) (n : NM) : Prop := Rn w mX12_readExpression (d + 6) G Q 20 [(0, vr 145), (1, vi xt), (2, vi t)] [] (B0, n)
variable {xt : Int} {G : GM} {Q : Option AV → Hp → Prop} {V : Int → NM → Prop}
theorem ml0 (h14 : n 145 14 = 0) (E : EvI w (d + 5) mX12_readPlain [vr 145] n V) (k : ∀ x n1, V x n1 → ML w d xt G Q x n1) : ML w d xt G Q 0 n :=
  gX12_readExpression_20 ⟨fun c => absurd h14 c, fun _ => ⟨fun c => absurd c (by decide), fun _ => ⟨fun c => absurd rfl c, fun _ => EI.usP E k⟩⟩⟩
theorem ml1 (h14 : n 145 14 = 0) (E : EvI w (d + 4) mX12_readPart [vr 145] n V) (k : ∀ x n1, V x n1 → ML w d xt G Q x n1) : ML w d xt G Q 1 n :=
  gX12_readExpression_20 ⟨fun c => absurd h14 c, fun _ => ⟨fun c => absurd c (by decide), fun _ => ⟨fun _ => ⟨fun c => absurd rfl c, fun _ => EI.usP (Ev.deep (by omega) E) k⟩, fun c => absurd c (by decide)⟩⟩⟩
theorem ml2 (h14 : n 145 14 = 0) (E : EvI w (d + 3) mX12_behindTest [vr 145] n V) (k : ∀ x n1, V x n1 → ML w d xt G Q x n1) : ML w d xt G Q 2 n :=
  gX12_readExpression_20 ⟨fun c => absurd h14 c, fun _ => ⟨fun c => absurd c (by decide), fun _ => ⟨fun _ => ⟨fun _ => ⟨fun _ => EI.usP (Ev.deep (by omega) E) k, fun c => absurd c (by decide)⟩, fun c => absurd c (by decide)⟩, fun c => absurd c (by decide)⟩⟩⟩
theorem ml3 (h14 : n 145 14 = 0) (E : EvI w (d + 3) mX12_behindSum [vr 145, vi xt] n V) (k : ∀ x n1, V x n1 → ML w d xt G Q x n1) : ML w d xt G Q 3 n :=
  gX12_readExpression_20 ⟨fun c => absurd h14 c, fun _ => ⟨fun c => absurd c (by decide), fun _ => ⟨fun _ => ⟨fun _ => ⟨fun c => absurd rfl c, fun _ => EI.usP (Ev.deep (by omega) E) k⟩, fun c => absurd c (by decide)⟩, fun c => absurd c (by decide)⟩⟩⟩
theorem ml_bad {q : Nat} {t : Int} (h : MB T L m0 n q) (k : ∀ n1, FrM2 n1 m0 → n1 145 14 = 1 → n1 145 13 = tkS T L q → 0 ≤ n1 145 17 ∧ n1 145 17 ≤ 400 → Q none (B0, n1)) : ML w d xt G Q t n := by
  obtain ⟨l, P, r⟩ := h.2.1
  refine gX12_readExpression_20 ⟨fun _ => EV.usP (m_settle (d := d + 4) (by decide) r) (fun n1 s => k n1 ((FrM2.ofS s.1).tr h.1) ((s.1 145 14 (by omega)).trans h.2.2.1) ((s.1 145 13 (by omega)).trans h.2.2.2) ?_), fun c => absurd (h.2.2.1.symm.trans c) (by decide)⟩
  have a := s.2.1.1
  have b := s.2.2.1.1
  omega
theorem ml_4 (h : MS T L m0 n j lf dep l P) (hp : ∀ x, x ∈ P → 1 ≤ bnd x.1) (k : ∀ n1, MS T L m0 n1 j lf dep (stlA P l) [] → Q none (B0, n1)) : ML w d xt G Q 4 n := by
  refine gX12_readExpression_20 ⟨fun c => absurd h.2.2.2.2.1.1 c, fun _ => ⟨fun _ => EV.usP (m_settle (d := d + 4) (by decide) h.2.2.1) (fun n1 s => k n1 ?_), fun c => absurd rfl c⟩⟩
  have e := stl_app (b := 1) (P := []) (fun x P' z => by cases z) hp (l := l)
  rw [List.append_nil] at e
  rw [e] at s
  exact h.settled s.1 s.2 (List.append_nil P).symm hp
end MTEST
