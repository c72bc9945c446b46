section MSTEP
variable {w : WD} {d : Nat} {n m0 : NM} {T : Int → Int} {L : Int} {iE : Nat} {j lf dep : Nat} {l P : CLs}
/-- the reference at token j: lf leaves read, dep brackets open, its code l, its pile P -/
def MS (T : Int → Int) (L : Int) (m0 n : NM) (j lf dep : Nat) (l P : CLs) : Prop :=
  TpM n T L ∧ FrM2 n m0 ∧ MR n l P ∧ MTk n T L j ∧ (n 145 14 = 0 ∧ n 145 13 = -1) ∧ (n 145 20 = (lf : Int) ∧ n 145 24 = (dep : Int)) ∧ l.length + emc P ≤ j ∧ P.length ≤ j
/-- .. after a fault at token q -/
def MB (T : Int → Int) (L : Int) (m0 n : NM) (q : Nat) : Prop := FrM2 n m0 ∧ (∃ l P, MR n l P) ∧ n 145 14 = 1 ∧ n 145 13 = tkS T L q
theorem TpM.fm {n2 : NM} (h : TpM n T L) (f : FrM2 n2 n) : TpM n2 T L :=
  ⟨h.1, (f 145 8 (by omega)).trans h.2.1, fun i i0 i1 => (f 150 i (by omega)).trans (h.2.2.1 i i0 i1), h.2.2.2⟩
theorem MTk.fr {n2 : NM} (h : MTk n T L j) (f : ∀ x : Int, 9 ≤ x → x ≤ 12 → n2 145 x = n 145 x) : MTk n2 T L j :=
  ⟨(f 9 (by decide) (by decide)).trans h.1, (f 10 (by decide) (by decide)).trans h.2.1, (f 11 (by decide) (by decide)).trans h.2.2.1, (f 12 (by decide) (by decide)).trans h.2.2.2⟩
theorem MR.congr {n2 : NM} (h : MR n l P) (e17 : n2 145 17 = n 145 17) (e23 : n2 145 23 = n 145 23) (e : ∀ (t : Nat) (x : Int), 152 ≤ t → t ≤ 155 → n2 t x = n t x) : MR n2 l P :=
  ⟨⟨e17.trans h.1.1, e23.trans h.1.2⟩, h.2.1, embM_congr _ _ (fun i _ _ => ⟨e 152 i (by decide) (by decide), e 153 i (by decide) (by decide)⟩) h.2.2.1, pile_congr (fun i _ _ => ⟨e 154 i (by decide) (by decide), e 155 i (by decide) (by decide)⟩) h.2.2.2.1, h.2.2.2.2⟩
theorem m_isWordK (h : MTk n T L j) (x : Int) : EI w d mX12_isWord [vr 145, vl x] B0 n (if jK T L j = 1 ∧ jW T L j = x then 1 else 0) n := by
  have e1 : n 145 11 = jK T L j := h.2.2.1
  have e2 : n 145 12 = jW T L j := h.2.2.2
  refine EI.of (by decide +kernel) (Nat.le_of_ble_eq_true rfl) rfl (fun _ G => gX12_isWord_0 ?_)
  rw [e1, e2]
  refine ⟨fun c => ⟨?_, rfl⟩, fun c => ⟨fun c2 => ⟨?_, rfl⟩, fun c2 => ⟨?_, rfl⟩⟩⟩
  · rw [if_neg (fun z => c z.1)]
  · rw [if_neg (fun z => c2 z.2)]
  · rw [if_pos ⟨c, c2⟩]
theorem m_isWordP (h : MTk n T L j) {p : Nat} {x : Int} (hp : p < 19) (hx : wgH p = x) : EI w d mX12_isWord [vr 145, vl x] B0 n (if AtK T L j 1 (p : Int) then 1 else 0) n := by
  have q := m_isWordK (w := w) (d := d) h x
  by_cases c : jK T L j = 1
  · have e := (jW_word c).2 p hp
    rw [hx] at e
    by_cases c2 : jV T L j = (p : Int)
    · rw [if_pos ⟨c, e.mp c2⟩] at q
      rw [if_pos ⟨c, c2⟩]
      exact q
    · rw [if_neg (fun z => c2 (e.mpr z.2))] at q
      rw [if_neg (fun z => c2 z.2)]
      exact q
  · rw [if_neg (fun z => c z.1)] at q
    rw [if_neg (fun z => c z.1)]
    exact q
theorem m_isSignK (h : MTk n T L j) (x : Int) : EI w d mX12_isSign [vr 145, vi x] B0 n (if AtK T L j 3 x then 1 else 0) n := by
  have e1 : n 145 11 = jK T L j := h.2.2.1
  have e2 : n 145 12 = jW T L j := h.2.2.2
  refine EI.of (by decide +kernel) (Nat.le_of_ble_eq_true rfl) rfl (fun _ G => gX12_isSign_0 ?_)
  rw [e1, e2]
  refine ⟨fun c => ⟨?_, rfl⟩, fun c => ?_⟩
  · rw [if_neg (fun z => c z.1)]
  · rw [← jW_sign c]
    refine ⟨fun c2 => ⟨?_, rfl⟩, fun c2 => ⟨?_, rfl⟩⟩
    · rw [if_neg (fun z => c2 z.2)]
    · rw [if_pos ⟨c, c2⟩]
theorem MS.next {n1 : NM} (h : MS T L m0 n j lf dep l P) (f : FrX n1 n) (t : MTk n1 T L (j + 1)) : MS T L m0 n1 (j + 1) lf dep l P :=
  ⟨h.1.fr f, (FrM2.ofX f).tr h.2.1, h.2.2.1.congr (f 145 17 (by omega)) (f 145 23 (by omega)) (fun t x a b => f t x (by omega)), t, ⟨(f 145 14 (by omega)).trans h.2.2.2.2.1.1, (f 145 13 (by omega)).trans h.2.2.2.2.1.2⟩, ⟨(f 145 20 (by omega)).trans h.2.2.2.2.2.1.1, (f 145 24 (by omega)).trans h.2.2.2.2.2.1.2⟩, by have := h.2.2.2.2.2.2.1; omega, by have := h.2.2.2.2.2.2.2; omega⟩
theorem m_mustY {b : Int} (hb : b ≠ 0) (h : MS T L m0 n j lf dep l P) : Ev w (d + 2) 0 0 mX12_must [vr 145, vi b] (B0, n) (fun r h' => ∃ n1 : NM, r = none ∧ h' = (B0, n1) ∧ MS T L m0 n1 (j + 1) lf dep l P) :=
  EV.ofP (by decide +kernel) (Nat.le_of_ble_eq_true rfl) rfl (fun _ G => gX12_must_0 ⟨fun c => absurd h.2.2.2.2.1.1 c, fun _ => ⟨fun _ => ⟨fun c => absurd h.2.2.2.2.1.1 c, fun _ => EV.usP (m_nextT h.1 h.2.2.2.1) (fun n1 z => ⟨n1, rfl, rfl, h.next z.1 z.2⟩)⟩, fun c => absurd c hb⟩⟩)
theorem m_mustN (h : MS T L m0 n j lf dep l P) : Ev w (d + 2) 0 0 mX12_must [vr 145, vi 0] (B0, n) (fun r h' => ∃ n1 : NM, r = none ∧ h' = (B0, n1) ∧ MB T L m0 n1 j) := by
  refine EV.ofP (by decide +kernel) (Nat.le_of_ble_eq_true rfl) rfl (fun _ G => gX12_must_0 ⟨fun c => absurd h.2.2.2.2.1.1 c, fun _ => ⟨fun c => absurd rfl c, fun _ => ⟨fun _ => ⟨_, rfl, rfl, (h.2.1.upd (by omega)).upd (by omega), ⟨l, P, h.2.2.1.congr ?_ ?_ (fun t x a b => ?_)⟩, ?_, ?_⟩, fun c => absurd c (by decide)⟩⟩⟩)
  · rw [upn_i (by decide), upn_i (by decide)]
  · rw [upn_i (by decide), upn_i (by decide)]
  · rw [upn_a (by omega), upn_a (by omega)]
  · rw [upn_i (by decide), upn_self]
  · rw [upn_self, h.2.2.2.1.1]
theorem bnd_lt {o : Int} (h : 1 ≤ bnd o) : o < 30 := by
  by_cases q : 30 ≤ o
  · unfold bnd at h
    rw [if_pos q] at h
    omega
  · omega
theorem stlA_len : ∀ {pend l : CLs}, (∀ x, x ∈ pend → 1 ≤ bnd x.1) → (stlA pend l).length = l.length + emc pend
  | [], _, _ => rfl
  | x :: pend, l, h => by
    have q := stl1_len (x := x) (l := l) (bnd_lt (h x (List.mem_cons_self ..)))
    have ih := stlA_len (pend := pend) (l := stl1 x l) (fun y hy => h y (List.mem_cons_of_mem _ hy))
    show (stlA pend (stl1 x l)).length = l.length + (_ + emc pend)
    omega
/-- an operator on the pile, then the next token; s: the state after settling -/
theorem MS.push {n1 n2 n3 : NM} {l1 P1 : CLs} {o at1 : Int} (h : MS T L m0 n j lf dep l P) (f1 : FrSt n1 n) (r1 : MR n1 l1 P1) (cap : l1.length + emc ((o, at1) :: P1) ≤ j + 1 ∧ P1.length ≤ j) (hj : j < 400) (ho : (20 ≤ o ∧ o ≤ 31) ∧ ((o = 28 ∨ o = 29) → 0 ≤ at1 ∧ at1 < (l1.length : Int)))
    (f2 : ∀ (t : Nat) (x : Int), (t ≠ 154 ∧ t ≠ 155 ∧ (t ≠ 145 ∨ x ≠ 23)) → n2 t x = n1 t x) (e23 : n2 145 23 = (P1.length : Int) + 1) (pe : PileE (n2 154) (n2 155) ((o, at1) :: P1)) (f3 : FrX n3 n2) (t3 : MTk n3 T L (j + 1)) : MS T L m0 n3 (j + 1) lf dep l1 ((o, at1) :: P1) := by
  have g2 : FrM2 n2 n1 := fun t x c => f2 t x (by omega)
  have g : FrM2 n3 n := (FrM2.ofX f3).tr (g2.tr (FrM2.ofS f1))
  refine ⟨h.1.fm g, g.tr h.2.1, ⟨⟨?_, ?_⟩, ⟨by omega, by rw [List.length_cons]; omega⟩, ?_, ?_, ?_⟩, t3, ⟨?_, ?_⟩, ⟨?_, ?_⟩, by omega, by rw [List.length_cons]; omega⟩
  · rw [f3 145 17 (by omega), f2 145 17 (by omega)]
    exact r1.1.1
  · rw [f3 145 23 (by omega), e23, List.length_cons]
    omega
  · refine embM_congr _ _ (fun i _ _ => ⟨?_, ?_⟩) r1.2.2.1
    · rw [f3 152 i (by omega), f2 152 i (by omega)]
    · rw [f3 153 i (by omega), f2 153 i (by omega)]
  · exact pile_congr (fun i _ _ => ⟨f3 154 i (by omega), f3 155 i (by omega)⟩) pe
  · intro x hx
    rcases List.mem_cons.mp hx with e | e
    · rw [e]
      exact ho
    · exact r1.2.2.2.2 x e
  · rw [f3 145 14 (by omega), f2 145 14 (by omega), f1 145 14 (by omega)]
    exact h.2.2.2.2.1.1
  · rw [f3 145 13 (by omega), f2 145 13 (by omega), f1 145 13 (by omega)]
    exact h.2.2.2.2.1.2
  · rw [f3 145 20 (by omega), f2 145 20 (by omega), f1 145 20 (by omega)]
    exact h.2.2.2.2.2.1.1
  · rw [f3 145 24 (by omega), f2 145 24 (by omega), f1 145 24 (by omega)]
    exact h.2.2.2.2.2.1.2
theorem m_openY {o : Int} (ho : o = 30 ∨ o = 31) (h : MS T L m0 n j lf dep l P) (hd : dep < 8) (hj : j < 400) : Ev w (d + 3) 0 0 mX12_openBracket [vr 145, vi o] (B0, n) (fun r h' => ∃ n1 : NM, r = none ∧ h' = (B0, n1) ∧ MS T L m0 n1 (j + 1) lf (dep + 1) l ((o, 0) :: P)) := by
  have e24 := h.2.2.2.2.2.1.2
  refine EV.ofP (by decide +kernel) (Nat.le_of_ble_eq_true rfl) rfl (fun _ G => gX12_openBracket_0 (fun z hz => ?_))
  rw [if_neg (by omega)] at hz
  subst hz
  refine EV.usP (m_mustY (by decide) h) (fun n1 s => ⟨fun c => absurd s.2.2.2.2.1.1 c, fun _ => ?_⟩)
  have e24' := s.2.2.2.2.2.1.2
  have hp := s.2.2.1.1.2
  have hpl := h.2.2.2.2.2.2.2
  rw [e24']
  refine ⟨⟨by omega, by omega⟩, EV.usP (m_push (P := P) (by rw [upn_i (by decide)]; exact hp) (by omega) (by rw [upn_ne (by decide), upn_ne (by decide)]; exact s.2.2.1.2.2.2.1)) (fun n2 q => ⟨n2, rfl, rfl, ?_⟩)⟩
  have f : ∀ (t : Nat) (x : Int), (t ≠ 154 ∧ t ≠ 155 ∧ (t ≠ 145 ∨ (x ≠ 23 ∧ x ≠ 24))) → n2 t x = n1 t x := fun t x c => by
    rw [q.1 t x (by omega), upn_ap, if_neg (by omega)]
  have g : FrM2 n2 n1 := fun t x c => f t x (by omega)
  have emc_c : emc ((o, 0) :: P) = emc P := by
    show (if o = 28 ∨ o = 29 ∨ 30 ≤ o then 0 else 1) + emc P = emc P
    rw [if_pos (by omega)]
    omega
  have cap := s.2.2.2.2.2.2.1
  have cap0 := h.2.2.2.2.2.2.1
  have cp := s.2.2.1.2.1
  refine ⟨s.1.fm g, g.tr s.2.1, ⟨⟨?_, ?_⟩, ⟨by omega, by rw [List.length_cons]; omega⟩, ?_, q.2.2, ?_⟩, s.2.2.2.1.fr (fun x a b => f 145 x (by omega)), ⟨?_, ?_⟩, ⟨?_, ?_⟩, by omega, by rw [List.length_cons]; omega⟩
  · rw [f 145 17 (by omega)]
    exact s.2.2.1.1.1
  · rw [q.2.1, List.length_cons]
    omega
  · exact embM_congr _ _ (fun i _ _ => ⟨f 152 i (by omega), f 153 i (by omega)⟩) s.2.2.1.2.2.1
  · intro x hx
    rcases List.mem_cons.mp hx with e | e
    · rw [e]
      exact ⟨by show 20 ≤ o ∧ o ≤ 31; omega, fun c => by have c' : o = 28 ∨ o = 29 := c; omega⟩
    · exact s.2.2.1.2.2.2.2 x e
  · rw [f 145 14 (by omega)]
    exact s.2.2.2.2.1.1
  · rw [f 145 13 (by omega)]
    exact s.2.2.2.2.1.2
  · rw [f 145 20 (by omega)]
    exact s.2.2.2.2.2.1.1
  · rw [q.1 145 24 (by omega), upn_self]
    omega
theorem m_openN {o : Int} (h : MS T L m0 n j lf dep l P) (hd : 8 ≤ dep) : Ev w (d + 3) 0 0 mX12_openBracket [vr 145, vi o] (B0, n) (fun r h' => ∃ n1 : NM, r = none ∧ h' = (B0, n1) ∧ MB T L m0 n1 j) := by
  have e24 := h.2.2.2.2.2.1.2
  refine EV.ofP (by decide +kernel) (Nat.le_of_ble_eq_true rfl) rfl (fun _ G => gX12_openBracket_0 (fun z hz => ?_))
  rw [if_pos (by omega)] at hz
  subst hz
  exact EV.usP (m_mustN h) (fun n1 s => ⟨fun _ => ⟨n1, rfl, rfl, s⟩, fun c => absurd (s.2.2.1.symm.trans c) (by decide)⟩)
theorem m_leafY {o a b : Int} (hb : b ≠ 0) (ho : o < 20) (h : MS T L m0 n j lf dep l P) (hl : lf < 50) (hj : j < 400) : Ev w (d + 3) 0 0 mX12_leaf [vr 145, vi b, vi o, vi a] (B0, n) (fun r h' => ∃ n1 : NM, r = none ∧ h' = (B0, n1) ∧ MS T L m0 n1 (j + 1) (lf + 1) dep (l ++ [(o, a)]) P) := by
  have e20 := h.2.2.2.2.2.1.1
  refine EV.ofP (by decide +kernel) (Nat.le_of_ble_eq_true rfl) rfl (fun _ G => gX12_leaf_0 (fun z hz => ?_))
  rw [if_neg hb, if_neg (by omega)] at hz
  subst hz
  refine EV.usP (m_mustY (by decide) h) (fun n1 s => ⟨fun c => absurd s.2.2.2.2.1.1 c, fun _ => ?_⟩)
  have e20' := s.2.2.2.2.2.1.1
  have cap := h.2.2.2.2.2.2
  refine EV.usP (m_emit (l := l) s.2.2.1.1.1 (by omega) s.2.2.1.2.2.1) (fun n2 q => ?_)
  have f : ∀ (t : Nat) (x : Int), (t ≠ 152 ∧ t ≠ 153 ∧ (t ≠ 145 ∨ (x ≠ 17 ∧ x ≠ 20 ∧ x ≠ 23))) → (t < 145 ∨ 155 < t ∨ (145 < t ∧ t < 152) ∨ t = 154 ∨ t = 155 ∨ t = 145) → (upn n2 145 20 (n2 145 20 + 1)) t x = n1 t x := fun t x c c2 => by
    rw [upn_ap, if_neg (by omega)]
    exact q.1 t x (by omega)
  have e2 : n2 145 20 = (lf : Int) := (q.1 145 20 (by omega)).trans e20'
  have g : FrM2 (upn n2 145 20 (n2 145 20 + 1)) n1 := fun t x c => f t x (by omega) (by omega)
  refine ⟨⟨by omega, by omega⟩, _, rfl, rfl, s.1.fm g, g.tr s.2.1, ⟨⟨?_, ?_⟩, ⟨?_, by omega⟩, ?_, ?_, ?_⟩, s.2.2.2.1.fr (fun x a b => f 145 x (by omega) (by omega)), ⟨?_, ?_⟩, ⟨?_, ?_⟩, ?_, by omega⟩
  · rw [upn_i (by decide), q.2.1, List.length_append]
    show _ = ((l.length + 1 : Nat) : Int)
    omega
  · rw [upn_i (by decide), q.2.2.1]
    exact s.2.2.1.1.2
  · rw [List.length_append]
    show l.length + 1 + emc P ≤ 400
    omega
  · rw [upn_ne (by decide), upn_ne (by decide)]
    exact q.2.2.2 a (by rw [if_neg (by omega)])
  · exact pile_congr (fun i _ _ => ⟨f 154 i (by omega) (by omega), f 155 i (by omega) (by omega)⟩) s.2.2.1.2.2.2.1
  · intro x hx
    have := s.2.2.1.2.2.2.2 x hx
    refine ⟨this.1, fun c => ?_⟩
    have := this.2 c
    rw [List.length_append]
    show 0 ≤ x.2 ∧ x.2 < ((l.length + 1 : Nat) : Int)
    omega
  · rw [f 145 14 (by omega) (by omega)]
    exact s.2.2.2.2.1.1
  · rw [f 145 13 (by omega) (by omega)]
    exact s.2.2.2.2.1.2
  · rw [upn_self, e2]
    omega
  · rw [f 145 24 (by omega) (by omega)]
    exact s.2.2.2.2.2.1.2
  · rw [List.length_append]
    show l.length + 1 + emc P ≤ j + 1
    omega
theorem m_leafN {o a b : Int} (h : MS T L m0 n j lf dep l P) (hb : b = 0 ∨ 50 ≤ lf) : Ev w (d + 3) 0 0 mX12_leaf [vr 145, vi b, vi o, vi a] (B0, n) (fun r h' => ∃ n1 : NM, r = none ∧ h' = (B0, n1) ∧ MB T L m0 n1 j) := by
  have e20 := h.2.2.2.2.2.1.1
  refine EV.ofP (by decide +kernel) (Nat.le_of_ble_eq_true rfl) rfl (fun _ G => gX12_leaf_0 (fun z hz => ?_))
  have hz0 : z = 0 := by
    rw [hz]
    by_cases c : b = 0
    · rw [if_pos c]
    · rw [if_neg c, if_pos (by omega)]
  subst hz0
  exact EV.usP (m_mustN h) (fun n1 s => ⟨fun _ => ⟨n1, rfl, rfl, s⟩, fun c => absurd (s.2.2.1.symm.trans c) (by decide)⟩)
/-- which of the nine words -/
def prt (T : Int → Int) (L : Int) (j : Nat) : Int := if jK T L j = 1 ∧ 6 ≤ jV T L j ∧ jV T L j ≤ 14 then jV T L j - 5 else -1
theorem prt_y {p : Int} (h : AtK T L j 1 p) (h0 : 6 ≤ p) (h1 : p ≤ 14) : prt T L j = p - 5 := by
  unfold prt
  rw [if_pos ⟨h.1, by have := h.2; omega, by have := h.2; omega⟩, h.2]
theorem m_partAt (h : MTk n T L j) : EI w (d + 1) mX12_partAt [vr 145] B0 n (prt T L j) n := by
  have fin : ∀ (p x : Int), AtK T L j 1 p → 6 ≤ p → p ≤ 14 → x = p - 5 → some (vi x) = some (vi (prt T L j)) ∧ ((B0, n) : Hp) = (B0, n) := fun p x a b c e => by
    rw [prt_y a b c, e]
    exact ⟨rfl, rfl⟩
  have a30 : ∀ G : GM, (AtK T L j 1 ((6 : Nat) : Int) ∨ AtK T L j 1 ((7 : Nat) : Int) ∨ AtK T L j 1 ((8 : Nat) : Int)) → Rn w mX12_partAt (d + 1) G (fun r h' => r = some (vi (prt T L j)) ∧ h' = (B0, n)) 30 [(0, vr 145)] [] (B0, n) := fun G o =>
    gX12_partAt_30 (EI.use (m_isWordP h (p := 6) (by decide) rfl) (ite01 (fun c6 => EI.use (m_isWordP h (p := 7) (by decide) rfl) (ite01 (fun c7 => fin 8 3 (by
      rcases o with o | o | o
      · exact absurd o c6
      · exact absurd o c7
      · exact o) (by decide) (by decide) (by decide)) (fun c7 => fin 7 2 c7 (by decide) (by decide) (by decide)))) (fun c6 => fin 6 1 c6 (by decide) (by decide) (by decide))))
  have a90 : ∀ G : GM, (AtK T L j 1 ((9 : Nat) : Int) ∨ AtK T L j 1 ((10 : Nat) : Int) ∨ AtK T L j 1 ((11 : Nat) : Int)) → Rn w mX12_partAt (d + 1) G (fun r h' => r = some (vi (prt T L j)) ∧ h' = (B0, n)) 90 [(0, vr 145)] [] (B0, n) := fun G o =>
    gX12_partAt_90 (EI.use (m_isWordP h (p := 9) (by decide) rfl) (ite01 (fun c6 => EI.use (m_isWordP h (p := 10) (by decide) rfl) (ite01 (fun c7 => fin 11 6 (by
      rcases o with o | o | o
      · exact absurd o c6
      · exact absurd o c7
      · exact o) (by decide) (by decide) (by decide)) (fun c7 => fin 10 5 c7 (by decide) (by decide) (by decide)))) (fun c6 => fin 9 4 c6 (by decide) (by decide) (by decide))))
  refine EI.of (by decide +kernel) (Nat.le_of_ble_eq_true rfl) rfl (fun _ G => gX12_partAt_0 (EI.use (m_isWordP h (p := 6) (by decide) rfl) (ite10 (fun c => a30 G (Or.inl c)) (fun c6 => EI.use (m_isWordP h (p := 7) (by decide) rfl) (ite10 (fun c => a30 G (Or.inr (Or.inl c))) (fun c7 => EI.use (m_isWordP h (p := 8) (by decide) rfl) (ite01 (fun c8 => EI.use (m_isWordP h (p := 9) (by decide) rfl) (ite10 (fun c => a90 G (Or.inl c)) (fun c9 => EI.use (m_isWordP h (p := 10) (by decide) rfl) (ite10 (fun c => a90 G (Or.inr (Or.inl c))) (fun c10 => EI.use (m_isWordP h (p := 11) (by decide) rfl) (ite01 (fun c11 => EI.use (m_isWordP h (p := 12) (by decide) rfl) (ite01 (fun c12 => EI.use (m_isWordP h (p := 13) (by decide) rfl) (ite01 (fun c13 => EI.use (m_isWordP h (p := 14) (by decide) rfl) (ite01 (fun c14 => ?_) (fun c => fin 14 9 c (by decide) (by decide) (by decide)))) (fun c => fin 13 8 c (by decide) (by decide) (by decide)))) (fun c => fin 12 7 c (by decide) (by decide) (by decide)))) (fun c => a90 G (Or.inr (Or.inr c))))))))) (fun c => a30 G (Or.inr (Or.inr c))))))))))
  have : prt T L j = -1 := by
    unfold prt
    rw [if_neg (fun z => ?_)]
    have z1 := z.1
    have : ∀ p : Int, jV T L j = p → AtK T L j 1 p := fun p e => ⟨z1, e⟩
    have k6 := fun e => c6 (this _ e)
    have k7 := fun e => c7 (this _ e)
    have k8 := fun e => c8 (this _ e)
    have k9 := fun e => c9 (this _ e)
    have k10 := fun e => c10 (this _ e)
    have k11 := fun e => c11 (this _ e)
    have k12 := fun e => c12 (this _ e)
    have k13 := fun e => c13 (this _ e)
    have k14 := fun e => c14 (this _ e)
    omega
  rw [this]
  exact ⟨rfl, rfl⟩
end MSTEP
