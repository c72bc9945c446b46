section MREAD
variable {w : WD} {d : Nat} {n m0 : NM} {T : Int → Int} {L : Int} {iE : Nat} {j lf dep : Nat} {l P : CLs}
theorem atK_ne {k1 k2 v1 v2 : Int} (h : AtK T L j k1 v1) (hn : k1 ≠ k2 ∨ v1 ≠ v2) : ¬ AtK T L j k2 v2 := fun z => by
  rcases hn with q | q
  · exact q (h.1.symm.trans z.1)
  · exact q (h.2.symm.trans z.2)
abbrev EvI (w : WD) (d : Nat) (m : MI) (args : List AV) (n : NM) (P : Int → NM → Prop) : Prop := Ev w d 0 0 m args (B0, n) (fun r h' => ∃ (x1 : Int) (n1 : NM), r = some (vi x1) ∧ h' = (B0, n1) ∧ P x1 n1)
theorem m_rpOpenY (h : MS T L m0 n j lf dep l P) (a : AtK T L j 3 91) (hd : dep < 8) (hj : j < 400) : EvI w (d + 4) mX12_readPart [vr 145] n (fun x n1 => x = 1 ∧ MS T L m0 n1 (j + 1) lf (dep + 1) l ((31, 0) :: P)) :=
  EI.ofP (by decide +kernel) (Nat.le_of_ble_eq_true rfl) rfl (fun _ G => gX12_readPart_0 (EI.use (m_isSignK h.2.2.2.1 91) (by
    rw [if_pos a]
    exact ⟨fun c => absurd c (by decide), fun _ => EV.usP (m_openY (Or.inr rfl) h hd hj) (fun n1 z => ⟨1, n1, rfl, rfl, rfl, z⟩)⟩)))
theorem m_rpOpenN (h : MS T L m0 n j lf dep l P) (a : AtK T L j 3 91) (hd : 8 ≤ dep) : EvI w (d + 4) mX12_readPart [vr 145] n (fun _ n1 => MB T L m0 n1 j) :=
  EI.ofP (by decide +kernel) (Nat.le_of_ble_eq_true rfl) rfl (fun _ G => gX12_readPart_0 (EI.use (m_isSignK h.2.2.2.1 91) (by
    rw [if_pos a]
    exact ⟨fun c => absurd c (by decide), fun _ => EV.usP (m_openN h hd) (fun n1 z => ⟨1, n1, rfl, rfl, z⟩)⟩)))
/-- a leaf: its step -/
def IsLeaf (T : Int → Int) (L : Int) (j : Nat) (o a : Int) : Prop := (jK T L j = 2 ∧ jV T L j ≤ 100000 ∧ o = 0 ∧ a = jV T L j) ∨ (jK T L j = 1 ∧ (6 ≤ jV T L j ∧ jV T L j ≤ 14) ∧ o = jV T L j - 5 ∧ a = 0)
theorem m_rpLeafY {o a : Int} (h : MS T L m0 n j lf dep l P) (hl : IsLeaf T L j o a) (hf : lf < 50) (hj : j < 400) : EvI w (d + 4) mX12_readPart [vr 145] n (fun x n1 => x = 3 ∧ MS T L m0 n1 (j + 1) (lf + 1) dep (l ++ [(o, a)]) P) := by
  have no : ¬ AtK T L j 3 91 := fun z => by
    have := z.1
    rcases hl with q | q
    · omega
    · omega
  have e1 : n 145 11 = jK T L j := h.2.2.2.1.2.2.1
  have e2 : n 145 12 = jW T L j := h.2.2.2.1.2.2.2
  refine EI.ofP (by decide +kernel) (Nat.le_of_ble_eq_true rfl) rfl (fun _ G => gX12_readPart_0 (EI.use (m_isSignK h.2.2.2.1 91) ?_))
  rw [if_neg no]
  refine ⟨fun _ => EI.use (m_partAt h.2.2.2.1) ?_, fun c => absurd rfl c⟩
  rw [e1, e2]
  intro z28 h28 z31 h31 z33 h33
  rcases hl with q | q
  · have nm := jW_num h.1.1.1 q.1
    have ep : prt T L j = -1 := by
      unfold prt
      rw [if_neg (by omega)]
    have w1 := nm.2.1 q.2.1
    rw [if_neg (by omega), if_neg (by omega)] at h28
    rw [ep] at h31 h33
    rw [if_neg (by omega), if_neg (by omega)] at h31
    rw [if_neg (by omega)] at h33
    subst h28 h31 h33
    refine ⟨fun _ => ⟨by omega, by omega⟩, fun z36 h36 => ?_⟩
    rw [if_neg (by decide)] at h36
    subst h36
    rw [← w1]
    refine EV.usP (m_leafY (by decide) (by decide) h hf hj) (fun n1 z => ⟨3, n1, rfl, rfl, rfl, ?_⟩)
    rw [q.2.2.1, q.2.2.2]
    exact z
  · have ep : prt T L j = jV T L j - 5 := by
      unfold prt
      rw [if_pos ⟨q.1, q.2.1⟩]
    rw [if_pos (by omega)] at h28
    rw [ep] at h31 h33
    rw [if_pos (by omega)] at h31 h33
    subst h28 h31 h33
    refine ⟨fun c => absurd rfl c, fun z36 h36 => ?_⟩
    rw [if_pos rfl] at h36
    subst h36
    refine EV.usP (m_leafY (by decide) (by omega) h hf hj) (fun n1 z => ⟨3, n1, rfl, rfl, rfl, ?_⟩)
    rw [q.2.2.1, q.2.2.2]
    exact z
theorem m_rpLeafN (h : MS T L m0 n j lf dep l P) (no : ¬ AtK T L j 3 91) (hl : 50 ≤ lf ∨ ∀ o a : Int, ¬ IsLeaf T L j o a) : EvI w (d + 4) mX12_readPart [vr 145] n (fun _ n1 => MB T L m0 n1 j) := by
  have e1 : n 145 11 = jK T L j := h.2.2.2.1.2.2.1
  have e2 : n 145 12 = jW T L j := h.2.2.2.1.2.2.2
  refine EI.ofP (by decide +kernel) (Nat.le_of_ble_eq_true rfl) rfl (fun _ G => gX12_readPart_0 (EI.use (m_isSignK h.2.2.2.1 91) ?_))
  rw [if_neg no]
  refine ⟨fun _ => EI.use (m_partAt h.2.2.2.1) ?_, fun c => absurd rfl c⟩
  rw [e1, e2]
  intro z28 h28 z31 h31 z33 h33
  have key : z31 = 0 ∨ 50 ≤ lf := by
    rcases hl with q | q
    · exact Or.inr q
    · refine Or.inl ?_
      have ep : prt T L j = -1 := by
        unfold prt
        rw [if_neg (fun z => q _ _ (Or.inr ⟨z.1, z.2, rfl, rfl⟩))]
      have e28 : z28 = 0 := by
        rw [h28]
        by_cases c : jK T L j = 2
        · have nm := jW_num h.1.1.1 c
          rw [if_neg (fun y => y c), if_pos]
          have hn : ¬ jW T L j ≤ 100000 := fun y => q 0 _ (Or.inl ⟨c, nm.1.mpr y, rfl, rfl⟩)
          omega
        · rw [if_pos c]
      rw [h31, ep, e28, if_neg (by omega), if_pos rfl]
  refine ⟨fun c => ?_, fun z36 h36 => EV.usP (m_leafN h key) (fun n1 z => ⟨3, n1, rfl, rfl, z⟩)⟩
  by_cases c2 : jK T L j = 2
  · have nm := jW_num h.1.1.1 c2
    exact ⟨by omega, by omega⟩
  · rw [if_pos c2] at h28
    exact absurd h28 c
theorem FrSt.rf : FrSt n n := fun _ _ _ => rfl
theorem m_plNot (h : MS T L m0 n j lf dep l P) (a : AtK T L j 1 18) (hj : j < 400) : EvI w (d + 5) mX12_readPlain [vr 145] n (fun x n1 => x = 0 ∧ MS T L m0 n1 (j + 1) lf dep l ((27, 0) :: P)) := by
  have cap := h.2.2.2.2.2.2
  refine EI.ofP (by decide +kernel) (Nat.le_of_ble_eq_true rfl) rfl (fun _ G => gX12_readPlain_0 (EI.use (m_isWordP h.2.2.2.1 (p := 18) (by decide) rfl) ?_))
  rw [if_pos (show AtK T L j 1 ((18 : Nat) : Int) from a)]
  refine ⟨fun c => absurd c (by decide), fun _ => EV.usP (m_push h.2.2.1.1.2 (by omega) h.2.2.1.2.2.2.1) (fun n2 q => ?_)⟩
  have g2 : FrM2 n2 n := fun t x c => q.1 t x (by omega)
  refine EV.usP (m_nextT (d := d + 3) (h.1.fm g2) (h.2.2.2.1.fr (fun x a b => q.1 145 x (by omega)))) (fun n3 z => ⟨0, n3, rfl, rfl, rfl, h.push FrSt.rf h.2.2.1 ⟨?_, cap.2⟩ hj ⟨by decide, fun c => ?_⟩ q.1 q.2.1 q.2.2 z.1 z.2⟩)
  · show l.length + (1 + emc P) ≤ j + 1
    omega
  · rcases c with c | c
    · exact absurd c (by decide)
    · exact absurd c (by decide)
theorem m_plOpenY (h : MS T L m0 n j lf dep l P) (a : AtK T L j 3 40) (hd : dep < 8) (hj : j < 400) : EvI w (d + 5) mX12_readPlain [vr 145] n (fun x n1 => x = 0 ∧ MS T L m0 n1 (j + 1) lf (dep + 1) l ((30, 0) :: P)) := by
  refine EI.ofP (by decide +kernel) (Nat.le_of_ble_eq_true rfl) rfl (fun _ G => gX12_readPlain_0 (EI.use (m_isWordP h.2.2.2.1 (p := 18) (by decide) rfl) ?_))
  rw [if_neg (atK_ne a (Or.inl (by decide)))]
  refine ⟨fun _ => EI.use (m_isSignK h.2.2.2.1 40) ?_, fun c => absurd rfl c⟩
  rw [if_pos a]
  exact ⟨fun c => absurd c (by decide), fun _ => EV.usP (m_openY (d := d + 1) (Or.inl rfl) h hd hj) (fun n1 z => ⟨0, n1, rfl, rfl, rfl, z⟩)⟩
theorem m_plOpenN (h : MS T L m0 n j lf dep l P) (a : AtK T L j 3 40) (hd : 8 ≤ dep) : EvI w (d + 5) mX12_readPlain [vr 145] n (fun _ n1 => MB T L m0 n1 j) := by
  refine EI.ofP (by decide +kernel) (Nat.le_of_ble_eq_true rfl) rfl (fun _ G => gX12_readPlain_0 (EI.use (m_isWordP h.2.2.2.1 (p := 18) (by decide) rfl) ?_))
  rw [if_neg (atK_ne a (Or.inl (by decide)))]
  refine ⟨fun _ => EI.use (m_isSignK h.2.2.2.1 40) ?_, fun c => absurd rfl c⟩
  rw [if_pos a]
  exact ⟨fun c => absurd c (by decide), fun _ => EV.usP (m_openN (d := d + 1) h hd) (fun n1 z => ⟨0, n1, rfl, rfl, z⟩)⟩
theorem m_plPart {V : Int → NM → Prop} (h : MS T L m0 n j lf dep l P) (a : ¬ AtK T L j 1 18) (b : ¬ AtK T L j 3 40) (E : EvI w (d + 4) mX12_readPart [vr 145] n V) : EvI w (d + 5) mX12_readPlain [vr 145] n V := by
  refine EI.ofP (by decide +kernel) (Nat.le_of_ble_eq_true rfl) rfl (fun _ G => gX12_readPlain_0 (EI.use (m_isWordP h.2.2.2.1 (p := 18) (by decide) rfl) ?_))
  rw [if_neg (show ¬ AtK T L j 1 ((18 : Nat) : Int) from a)]
  refine ⟨fun _ => EI.use (m_isSignK h.2.2.2.1 40) ?_, fun c => absurd rfl c⟩
  rw [if_neg b]
  exact ⟨fun _ => EI.usP E (fun x n1 z => ⟨x, n1, rfl, rfl, z⟩), fun c => absurd rfl c⟩
/-- a sign between parts -/
def opS (c o : Int) : Prop := (c = 43 ∧ o = 20) ∨ (c = 45 ∧ o = 21) ∨ (c = 42 ∧ o = 22) ∨ (c = 47 ∧ o = 23)
def noOp (T : Int → Int) (L : Int) (j : Nat) : Prop := ∀ c o : Int, opS c o → ¬ AtK T L j 3 c
theorem bs_tail {V : Int → NM → Prop} {o : Int} (ho : 20 ≤ o ∧ o ≤ 23) {pend P0 : CLs} (h : MS T L m0 n j lf dep l P) (hP : P = pend ++ P0) (hp : ∀ x, x ∈ pend → bnd o ≤ bnd x.1) (ht : topLt (bnd o) P0) (hj : j < 400) (hV : ∀ n1, MS T L m0 n1 (j + 1) lf dep (stlA pend l) ((o, 0) :: P0) → V 1 n1) :
    Ev w (d + 2) 0 0 mX12_binds [vi o] (B0, n) (fun r h' => ∃ (x35 : Int) (n34 : NM), r = some (vi x35) ∧ h' = (B0, n34) ∧ 
        (Ev w (d + 2) 0 0 mX12_settle [vr 145, vi x35] (B0, n34) (fun r h' => ∃ n36 : NM, r = none ∧ h' = (B0, n36) ∧ 
          (Ev w (d + 2) 0 0 mX12_push [vr 145, vi o, vi 0] (B0, n36) (fun r h' => ∃ n37 : NM, r = none ∧ h' = (B0, n37) ∧ 
            (Ev w (d + 2) 0 0 mX12_next [vr 145] (B0, n37) (fun r h' => ∃ n38 : NM, r = none ∧ h' = (B0, n38) ∧ 
              ∃ (x1 : Int) (n1 : NM), some (vi (1 : Int)) = some (vi x1) ∧ ((B0, n38) : Hp) = (B0, n1) ∧ V x1 n1)))))))  := by
  have hb : 5 ≤ bnd o := by
    unfold bnd
    rw [if_neg (by omega), if_neg (by omega), if_neg (by omega), if_neg (by omega), if_neg (by omega)]
    split <;> omega
  have cap := h.2.2.2.2.2.2
  have pl : ∀ x, x ∈ pend → 1 ≤ bnd x.1 := fun x hx => by
    have := hp x hx
    omega
  have sl := stlA_len (l := l) pl
  rw [hP, emc_app, List.length_append] at cap
  refine EI.use m_binds (EV.usP (m_settle (by omega) h.2.2.1) (fun n1 s => ?_))
  rw [hP, stl_app ht hp] at s
  have s2 : MR n1 (stlA pend l) P0 := s.2
  refine EV.usP (m_push (P := P0) s2.1.2 (by omega) s2.2.2.2.1) (fun n2 q => ?_)
  have g2 : FrM2 n2 n1 := fun t x c => q.1 t x (by omega)
  have g : FrM2 n2 n := g2.tr (FrM2.ofS s.1)
  refine EV.usP (m_nextT (d := d + 1) (h.1.fm g) (h.2.2.2.1.fr (fun x a b => (q.1 145 x (by omega)).trans (s.1 145 x (by omega))))) (fun n3 z => ⟨1, n3, rfl, rfl, hV n3 (h.push s.1 s2 ⟨?_, by omega⟩ hj ⟨by omega, fun c => by omega⟩ q.1 q.2.1 q.2.2 z.1 z.2)⟩)
  show (stlA pend l).length + ((if o = 28 ∨ o = 29 ∨ 30 ≤ o then 0 else 1) + emc P0) ≤ j + 1
  rw [if_neg (by omega)]
  omega
theorem m_bsOp {xt c o : Int} (ho : opS c o) (a : AtK T L j 3 c) {pend P0 : CLs} (h : MS T L m0 n j lf dep l P) (hP : P = pend ++ P0) (hp : ∀ x, x ∈ pend → bnd o ≤ bnd x.1) (ht : topLt (bnd o) P0) (hj : j < 400) : EvI w (d + 3) mX12_behindSum [vr 145, vi xt] n (fun x n1 => x = 1 ∧ MS T L m0 n1 (j + 1) lf dep (stlA pend l) ((o, 0) :: P0)) := by
  have h20 : 20 ≤ o ∧ o ≤ 23 := by
    unfold opS at ho
    omega
  have tl := bs_tail (w := w) (d := d) (V := fun x n1 => x = 1 ∧ MS T L m0 n1 (j + 1) lf dep (stlA pend l) ((o, 0) :: P0)) h20 h hP hp ht hj (fun n1 z => ⟨rfl, z⟩)
  refine EI.ofP (by decide +kernel) (Nat.le_of_ble_eq_true rfl) rfl (fun _ G => gX12_behindSum_0 (EI.use (m_isSignK h.2.2.2.1 43) ?_))
  rcases ho with ⟨rfl, rfl⟩ | ⟨rfl, rfl⟩ | ⟨rfl, rfl⟩ | ⟨rfl, rfl⟩
  · rw [if_pos a]
    exact ⟨fun c => absurd c (by decide), fun _ => gX12_behindSum_57 ⟨fun c => absurd c (by decide), fun _ => tl⟩⟩
  · rw [if_neg (atK_ne a (Or.inr (by decide)))]
    refine ⟨fun _ => EI.use (m_isSignK h.2.2.2.1 45) ?_, fun c => absurd rfl c⟩
    rw [if_pos a]
    exact ⟨fun c => absurd c (by decide), fun _ => gX12_behindSum_57 ⟨fun c => absurd c (by decide), fun _ => tl⟩⟩
  · rw [if_neg (atK_ne a (Or.inr (by decide)))]
    refine ⟨fun _ => EI.use (m_isSignK h.2.2.2.1 45) ?_, fun c => absurd rfl c⟩
    rw [if_neg (atK_ne a (Or.inr (by decide)))]
    refine ⟨fun _ => EI.use (m_isSignK h.2.2.2.1 42) ?_, fun c => absurd rfl c⟩
    rw [if_pos a]
    exact ⟨fun c => absurd c (by decide), fun _ => gX12_behindSum_57 ⟨fun c => absurd c (by decide), fun _ => tl⟩⟩
  · rw [if_neg (atK_ne a (Or.inr (by decide)))]
    refine ⟨fun _ => EI.use (m_isSignK h.2.2.2.1 45) ?_, fun c => absurd rfl c⟩
    rw [if_neg (atK_ne a (Or.inr (by decide)))]
    refine ⟨fun _ => EI.use (m_isSignK h.2.2.2.1 42) ?_, fun c => absurd rfl c⟩
    rw [if_neg (atK_ne a (Or.inr (by decide)))]
    refine ⟨fun _ => EI.use (m_isSignK h.2.2.2.1 47) ?_, fun c => absurd rfl c⟩
    rw [if_pos a]
    intro z hz
    rw [if_neg (by decide)] at hz
    subst hz
    exact ⟨fun c => absurd c (by decide), fun _ => tl⟩
theorem MS.settled {n1 : NM} {pend P0 : CLs} (h : MS T L m0 n j lf dep l P) (f : FrSt n1 n) (r : MR n1 (stlA pend l) P0) (hP : P = pend ++ P0) (pl : ∀ x, x ∈ pend → 1 ≤ bnd x.1) : MS T L m0 n1 j lf dep (stlA pend l) P0 := by
  have cap := h.2.2.2.2.2.2
  have sl := stlA_len (l := l) pl
  rw [hP, emc_app, List.length_append] at cap
  exact ⟨h.1.fm (FrM2.ofS f), (FrM2.ofS f).tr h.2.1, r, h.2.2.2.1.fr (fun x a b => f 145 x (by omega)), ⟨(f 145 14 (by omega)).trans h.2.2.2.2.1.1, (f 145 13 (by omega)).trans h.2.2.2.2.1.2⟩, ⟨(f 145 20 (by omega)).trans h.2.2.2.2.2.1.1, (f 145 24 (by omega)).trans h.2.2.2.2.2.1.2⟩, by omega, by omega⟩
/-- a bracket taken from the pile -/
theorem MS.pop {x : Int × Int} {P0 : CLs} (h : MS T L m0 n j lf (dep + 1) l (x :: P0)) (hx : 30 ≤ x.1) : MS T L m0 (upn (upn n 145 23 (n 145 23 - 1)) 145 24 (n 145 24 - 1)) j lf dep l P0 := by
  have cap := h.2.2.2.2.2.2
  have cp := h.2.2.1.2.1
  have e23 := h.2.2.1.1.2
  have e24 := h.2.2.2.2.2.1.2
  have ee : emc (x :: P0) = emc P0 := by
    show (if x.1 = 28 ∨ x.1 = 29 ∨ 30 ≤ x.1 then 0 else 1) + emc P0 = emc P0
    rw [if_pos (by omega)]
    omega
  rw [List.length_cons] at cap cp e23
  have f : ∀ (t : Nat) (y : Int), (t ≠ 145 ∨ (y ≠ 23 ∧ y ≠ 24)) → (upn (upn n 145 23 (n 145 23 - 1)) 145 24 (n 145 24 - 1)) t y = n t y := fun t y c => by
    rw [upn_ap, if_neg (by omega), upn_ap, if_neg (by omega)]
  have g : FrM2 (upn (upn n 145 23 (n 145 23 - 1)) 145 24 (n 145 24 - 1)) n := fun t y c => f t y (by omega)
  refine ⟨h.1.fm g, g.tr h.2.1, ⟨⟨(f 145 17 (by omega)).trans h.2.2.1.1.1, ?_⟩, ⟨by omega, by omega⟩, ?_, ?_, fun y hy => h.2.2.1.2.2.2.2 y (List.mem_cons_of_mem _ hy)⟩, h.2.2.2.1.fr (fun y a b => f 145 y (by omega)), ⟨(f 145 14 (by omega)).trans h.2.2.2.2.1.1, (f 145 13 (by omega)).trans h.2.2.2.2.1.2⟩, ⟨(f 145 20 (by omega)).trans h.2.2.2.2.2.1.1, ?_⟩, by omega, by omega⟩
  · rw [upn_i (by decide), upn_self]
    omega
  · exact embM_congr _ _ (fun i _ _ => ⟨f 152 i (by omega), f 153 i (by omega)⟩) h.2.2.1.2.2.1
  · exact pile_congr (fun i _ _ => ⟨f 154 i (by omega), f 155 i (by omega)⟩) h.2.2.1.2.2.2.1.2
  · rw [upn_self]
    omega
/-- what comes when no operator stands there -/
theorem m_bs0 {xt : Int} {G : GM} {Q : Option AV → Hp → Prop} (h : MS T L m0 n j lf dep l P) (no : noOp T L j)
    (V : ((innP P ≠ 31 → ((innP P ≠ -1 → Rn w mX12_behindSum (d + 1) G Q 149 [(0, vr 145)] [] (B0, n)) ∧ (innP P = -1 → ((xt ≠ 0 → Rn w mX12_behindSum (d + 1) G Q 149 [(0, vr 145)] [] (B0, n)) ∧ (xt = 0 → Q (some (vi 4)) (B0, n)))))) ∧
      (innP P = 31 → (Ev w d 0 0 mX12_isSign [vr 145, vi 93] (B0, n) (fun r h' => ∃ (x41 : Int) (n40 : NM), r = some (vi x41) ∧ h' = (B0, n40) ∧ 
                          (Ev w d 0 0 mX12_must [vr 145, vi x41] (B0, n40) (fun r h' => ∃ n42 : NM, r = none ∧ h' = (B0, n42) ∧ 
                            ((n42 145 14 ≠ 0 →
                              Q (some (vi 3)) (B0, n42)) ∧
                            (n42 145 14 = 0 →
                              (Ev w d 0 0 mX12_settle [vr 145, vi 5] (B0, n42) (fun r h' => ∃ n44 : NM, r = none ∧ h' = (B0, n44) ∧ 
                                (inI ((n44 145 23) - 1)) ∧
                                (inI ((n44 145 24) - 1)) ∧
                                Q (some (vi 3)) (B0, upn (upn n44 145 23 ((n44 145 23) - 1)) 145 24 ((n44 145 24) - 1))))))))))))) :
    Rn w mX12_behindSum (d + 1) G Q 0 [(0, vr 145), (1, vi xt)] [] (B0, n) := by
  refine gX12_behindSum_0 (EI.use (m_isSignK h.2.2.2.1 43) ?_)
  rw [if_neg (no 43 20 (by unfold opS; omega))]
  refine ⟨fun _ => EI.use (m_isSignK h.2.2.2.1 45) ?_, fun c => absurd rfl c⟩
  rw [if_neg (no 45 21 (by unfold opS; omega))]
  refine ⟨fun _ => EI.use (m_isSignK h.2.2.2.1 42) ?_, fun c => absurd rfl c⟩
  rw [if_neg (no 42 22 (by unfold opS; omega))]
  refine ⟨fun _ => EI.use (m_isSignK h.2.2.2.1 47) ?_, fun c => absurd rfl c⟩
  rw [if_neg (no 47 23 (by unfold opS; omega))]
  intro z hz
  rw [if_pos rfl] at hz
  subst hz
  exact ⟨fun _ => EI.use (m_inner h.2.2.1) V, fun c => absurd rfl c⟩
theorem m_bsCloseY {xt : Int} {pend P0 : CLs} (h : MS T L m0 n j lf (dep + 1) l (pend ++ (31, 0) :: P0)) (no : noOp T L j) (hd8 : dep ≤ 8) (a : AtK T L j 3 93) (hp : ∀ x, x ∈ pend → 5 ≤ bnd x.1) : EvI w (d + 3) mX12_behindSum [vr 145, vi xt] n (fun x n1 => x = 3 ∧ MS T L m0 n1 (j + 1) lf dep (stlA pend l) P0) := by
  have pl : ∀ x, x ∈ pend → 1 ≤ bnd x.1 := fun x hx => by
    have := hp x hx
    omega
  have ei : innP (pend ++ (31, 0) :: P0) = 31 := (innP_app pl).trans rfl
  refine EI.ofP (by decide +kernel) (Nat.le_of_ble_eq_true rfl) rfl (fun _ G => m_bs0 h no ⟨fun c => absurd ei c, fun _ => EI.use (m_isSignK h.2.2.2.1 93) ?_⟩)
  rw [if_pos a]
  refine EV.usP (m_mustY (by decide) h) (fun n1 s => ⟨fun c => absurd s.2.2.2.2.1.1 c, fun _ => EV.usP (m_settle (by decide) s.2.2.1) (fun n2 q => ?_)⟩)
  rw [stl_app (fun x P' e => by cases e; decide) hp] at q
  have s2 := s.settled q.1 q.2 rfl pl
  have cp := s2.2.2.1.2.1.2
  have e23 := s2.2.2.1.1.2
  have e24 := s2.2.2.2.2.2.1.2
  rw [List.length_cons] at cp e23
  exact ⟨⟨by omega, by omega⟩, ⟨by omega, by omega⟩, 3, _, rfl, rfl, rfl, s2.pop (by decide)⟩
theorem m_bsCloseN {xt : Int} (h : MS T L m0 n j lf dep l P) (no : noOp T L j) (ei : innP P = 31) (a : ¬ AtK T L j 3 93) : EvI w (d + 3) mX12_behindSum [vr 145, vi xt] n (fun _ n1 => MB T L m0 n1 j) := by
  refine EI.ofP (by decide +kernel) (Nat.le_of_ble_eq_true rfl) rfl (fun _ G => m_bs0 h no ⟨fun c => absurd ei c, fun _ => EI.use (m_isSignK h.2.2.2.1 93) ?_⟩)
  rw [if_neg a]
  exact EV.usP (m_mustN h) (fun n1 s => ⟨fun _ => ⟨3, n1, rfl, rfl, s⟩, fun c => absurd (s.2.2.1.symm.trans c) (by decide)⟩)
theorem m_bsOver (h : MS T L m0 n j lf dep l P) (no : noOp T L j) (ei : innP P = -1) : EvI w (d + 3) mX12_behindSum [vr 145, vi 0] n (fun x n1 => x = 4 ∧ n1 = n) :=
  EI.ofP (by decide +kernel) (Nat.le_of_ble_eq_true rfl) rfl (fun _ G => m_bs0 (d := d + 2) h no ⟨fun _ => ⟨fun c => absurd ei c, fun _ => ⟨fun c => absurd rfl c, fun _ => ⟨4, n, rfl, rfl, rfl, rfl⟩⟩⟩, fun c => absurd (ei.symm.trans c) (by decide)⟩)
/-- where a comparison may stand -/
def okTs (xt : Int) (P : CLs) : Prop := innP P ≠ 31 ∧ (innP P ≠ -1 ∨ xt ≠ 0)
theorem m_bs149 {xt : Int} {G : GM} {Q : Option AV → Hp → Prop} (h : MS T L m0 n j lf dep l P) (no : noOp T L j) (ok : okTs xt P) (V : Rn w mX12_behindSum (d + 1) G Q 149 [(0, vr 145)] [] (B0, n)) : Rn w mX12_behindSum (d + 1) G Q 0 [(0, vr 145), (1, vi xt)] [] (B0, n) :=
  m_bs0 h no ⟨fun _ => ⟨fun _ => V, fun c => ⟨fun _ => V, fun c2 => absurd c2 (ok.2.resolve_left (fun y => y c))⟩⟩, fun c => absurd c ok.1⟩
theorem m_bsTold {xt : Int} (h : MS T L m0 n j lf dep l P) (no : noOp T L j) (ok : okTs xt P) (ec : isCmpP P = 1) : EvI w (d + 3) mX12_behindSum [vr 145, vi xt] n (fun x n1 => x = 2 ∧ n1 = n) :=
  EI.ofP (by decide +kernel) (Nat.le_of_ble_eq_true rfl) rfl (fun _ G => m_bs149 (d := d + 2) h no ok (gX12_behindSum_149 (EI.use (m_isCmp (d := d + 1) h.2.2.1) ⟨fun c => absurd (ec.symm.trans c) (by decide), fun _ => ⟨2, n, rfl, rfl, rfl, rfl⟩⟩)))
/-- a sign of comparison -/
def cmS (c o : Int) : Prop := (c = 60 ∧ o = 24) ∨ (c = 62 ∧ o = 25) ∨ (c = 61 ∧ o = 26)
theorem cmp_tail {V : Int → NM → Prop} {o : Int} (ho : 24 ≤ o ∧ o ≤ 26) {pend P0 : CLs} (h : MS T L m0 n (j + 1) lf dep l P) (hc : l.length + emc P ≤ j ∧ P.length ≤ j) (hP : P = pend ++ P0) (hp : ∀ x, x ∈ pend → 5 ≤ bnd x.1) (ht : topLt 5 P0) (hj : j < 400) (hV : ∀ n1, MS T L m0 n1 (j + 1) lf dep (stlA pend l) ((o, 0) :: P0) → V 1 n1) :
    Ev w (d + 2) 0 0 mX12_settle [vr 145, vi 5] (B0, n) (fun r h' => ∃ n23 : NM, r = none ∧ h' = (B0, n23) ∧ 
          (Ev w (d + 2) 0 0 mX12_push [vr 145, vi o, vi 0] (B0, n23) (fun r h' => ∃ n24 : NM, r = none ∧ h' = (B0, n24) ∧ 
            ∃ (x1 : Int) (n1 : NM), some (vi (1 : Int)) = some (vi x1) ∧ ((B0, n24) : Hp) = (B0, n1) ∧ V x1 n1))) := by
  have pl : ∀ x, x ∈ pend → 1 ≤ bnd x.1 := fun x hx => by
    have := hp x hx
    omega
  have sl := stlA_len (l := l) pl
  have hc2 := hc
  rw [hP, emc_app, List.length_append] at hc2
  refine EV.usP (m_settle (by decide) h.2.2.1) (fun n1 s => ?_)
  rw [hP, stl_app ht hp] at s
  have s3 : MR n1 (stlA pend l) P0 := s.2
  have s2 := h.settled s.1 s3 hP pl
  have cp := s2.2.2.1.2.1
  refine EV.usP (m_push (P := P0) s2.2.2.1.1.2 (by omega) s2.2.2.1.2.2.2.1) (fun n2 q => ⟨1, n2, rfl, rfl, hV n2 ?_⟩)
  have g : FrM2 n2 n1 := fun t x c => q.1 t x (by omega)
  have ee : emc ((o, 0) :: P0) = 1 + emc P0 := by
    show (if o = 28 ∨ o = 29 ∨ 30 ≤ o then 0 else 1) + emc P0 = 1 + emc P0
    rw [if_neg (by omega)]
  refine ⟨s2.1.fm g, g.tr s2.2.1, ⟨⟨(q.1 145 17 (by omega)).trans s2.2.2.1.1.1, ?_⟩, ⟨by omega, by rw [List.length_cons]; omega⟩, ?_, q.2.2, ?_⟩, s2.2.2.2.1.fr (fun x a b => q.1 145 x (by omega)), ⟨(q.1 145 14 (by omega)).trans s2.2.2.2.2.1.1, (q.1 145 13 (by omega)).trans s2.2.2.2.2.1.2⟩, ⟨(q.1 145 20 (by omega)).trans s2.2.2.2.2.2.1.1, (q.1 145 24 (by omega)).trans s2.2.2.2.2.2.1.2⟩, by omega, by rw [List.length_cons]; omega⟩
  · rw [q.2.1, List.length_cons]
    omega
  · exact embM_congr _ _ (fun i _ _ => ⟨q.1 152 i (by omega), q.1 153 i (by omega)⟩) s2.2.2.1.2.2.1
  · intro x hx
    rcases List.mem_cons.mp hx with e | e
    · rw [e]
      exact ⟨by show 20 ≤ o ∧ o ≤ 31; omega, fun c => by have c' : o = 28 ∨ o = 29 := c; omega⟩
    · exact s2.2.2.1.2.2.2.2 x e
theorem m_bsCmpY {xt c o : Int} (ho : cmS c o) (a : AtK T L j 3 c) {pend P0 : CLs} (h : MS T L m0 n j lf dep l P) (no : noOp T L j) (ok : okTs xt P) (ec : isCmpP P = 0) (hP : P = pend ++ P0) (hp : ∀ x, x ∈ pend → 5 ≤ bnd x.1) (ht : topLt 5 P0) (hj : j < 400) : EvI w (d + 3) mX12_behindSum [vr 145, vi xt] n (fun x n1 => x = 1 ∧ MS T L m0 n1 (j + 1) lf dep (stlA pend l) ((o, 0) :: P0)) := by
  have h24 : 24 ≤ o ∧ o ≤ 26 := by
    unfold cmS at ho
    omega
  have cap := h.2.2.2.2.2.2
  have tl : ∀ n1, MS T L m0 n1 (j + 1) lf dep l P → _ := fun n1 s => cmp_tail (w := w) (d := d) (V := fun x n1 => x = 1 ∧ MS T L m0 n1 (j + 1) lf dep (stlA pend l) ((o, 0) :: P0)) h24 s cap hP hp ht hj (fun n1 z => ⟨rfl, z⟩)
  refine EI.ofP (by decide +kernel) (Nat.le_of_ble_eq_true rfl) rfl (fun _ G => m_bs149 (d := d + 2) h no ok (gX12_behindSum_149 (EI.use (m_isCmp (d := d + 1) h.2.2.1) ⟨fun _ => EI.use (m_isSignK h.2.2.2.1 60) ?_, fun c => absurd ec c⟩)))
  have st : o ≠ 26 → Rn w mX12_behindSum (d + 2 + 1) G (fun r h' => ∃ (x1 : Int) (n1 : NM), r = some (vi x1) ∧ h' = (B0, n1) ∧ x1 = 1 ∧ MS T L m0 n1 (j + 1) lf dep (stlA pend l) ((o, 0) :: P0)) 205 [(0, vr 145), (2, vi o)] [vr 145] (B0, n) := fun _ => gX12_behindSum_205 (gX12_behindSum_210 (EV.usP (m_mustY (by decide) h) (fun n1 s => ⟨fun c => absurd s.2.2.2.2.1.1 c, fun _ => tl n1 s⟩)))
  rcases ho with ⟨rfl, rfl⟩ | ⟨rfl, rfl⟩ | ⟨rfl, rfl⟩
  · rw [if_pos a]
    exact ⟨fun c => absurd c (by decide), fun _ => gX12_behindSum_188 ⟨fun c => st c, fun c => absurd c (by decide)⟩⟩
  · rw [if_neg (atK_ne a (Or.inr (by decide)))]
    refine ⟨fun _ => EI.use (m_isSignK h.2.2.2.1 62) ?_, fun c => absurd rfl c⟩
    rw [if_pos a]
    intro z hz
    rw [if_neg (by decide)] at hz
    subst hz
    exact ⟨fun c => st c, fun c => absurd c (by decide)⟩
  · rw [if_neg (atK_ne a (Or.inr (by decide)))]
    refine ⟨fun _ => EI.use (m_isSignK h.2.2.2.1 62) ?_, fun c => absurd rfl c⟩
    rw [if_neg (atK_ne a (Or.inr (by decide)))]
    intro z hz
    rw [if_pos rfl] at hz
    subst hz
    refine ⟨fun c => absurd rfl c, fun _ => EI.use (m_isSignK h.2.2.2.1 61) ?_⟩
    rw [if_pos a]
    intro z hz
    rw [if_neg (by decide)] at hz
    subst hz
    exact EV.usP (m_mustY (by decide) h) (fun n1 s => ⟨fun c => absurd s.2.2.2.2.1.1 c, fun _ => tl n1 s⟩)
theorem m_bsCmpN {xt : Int} (a : ∀ c o : Int, cmS c o → ¬ AtK T L j 3 c) (h : MS T L m0 n j lf dep l P) (no : noOp T L j) (ok : okTs xt P) (ec : isCmpP P = 0) : EvI w (d + 3) mX12_behindSum [vr 145, vi xt] n (fun _ n1 => MB T L m0 n1 j) := by
  refine EI.ofP (by decide +kernel) (Nat.le_of_ble_eq_true rfl) rfl (fun _ G => m_bs149 (d := d + 2) h no ok (gX12_behindSum_149 (EI.use (m_isCmp (d := d + 1) h.2.2.1) ⟨fun _ => EI.use (m_isSignK h.2.2.2.1 60) ?_, fun c => absurd ec c⟩)))
  rw [if_neg (a 60 24 (by unfold cmS; omega))]
  refine ⟨fun _ => EI.use (m_isSignK h.2.2.2.1 62) ?_, fun c => absurd rfl c⟩
  rw [if_neg (a 62 25 (by unfold cmS; omega))]
  intro z hz
  rw [if_pos rfl] at hz
  subst hz
  refine ⟨fun c => absurd rfl c, fun _ => EI.use (m_isSignK h.2.2.2.1 61) ?_⟩
  rw [if_neg (a 61 26 (by unfold cmS; omega))]
  intro z hz
  rw [if_pos rfl] at hz
  subst hz
  exact EV.usP (m_mustN h) (fun n1 s => ⟨fun _ => ⟨1, n1, rfl, rfl, s⟩, fun c => absurd (s.2.2.1.symm.trans c) (by decide)⟩)
end MREAD
