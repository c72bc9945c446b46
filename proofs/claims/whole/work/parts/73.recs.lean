section RECS
/-- a clause read: its head, its sum's codes (class's, reference's), its test's -/
abbrev CRec : Type := Int × CLs × CLs × CLs × CLs
def cAll : List CRec → CLs
  | [] => []
  | r :: R => (r.2.1 ++ r.2.2.2.1) ++ cAll R
def mAll : List CRec → CLs
  | [] => []
  | r :: R => (r.2.2.1 ++ r.2.2.2.2) ++ mAll R
def CROk (r : CRec) : Prop := (0 ≤ r.1 ∧ r.1 ≤ 5) ∧ (∃ (F : DEN) (a b : Nat), Gd r.2.1 r.2.2.1 F a b) ∧ ((r.2.2.2.1 = [] ∧ r.2.2.2.2 = []) ∨ ∃ (F : DEN) (a b : Nat), Gd r.2.2.2.1 r.2.2.2.2 F a b ∧ isTest F)
theorem cAll_app : ∀ {R : List CRec} {r : CRec}, cAll (R ++ [r]) = cAll R ++ (r.2.1 ++ r.2.2.2.1)
  | [], r => by
    show (r.2.1 ++ r.2.2.2.1) ++ [] = [] ++ (r.2.1 ++ r.2.2.2.1)
    rw [List.append_nil, List.nil_append]
  | s :: R, r => by
    show (s.2.1 ++ s.2.2.2.1) ++ cAll (R ++ [r]) = ((s.2.1 ++ s.2.2.2.1) ++ cAll R) ++ _
    rw [cAll_app]
    exact (List.append_assoc _ _ _).symm
theorem mAll_app : ∀ {R : List CRec} {r : CRec}, mAll (R ++ [r]) = mAll R ++ (r.2.2.1 ++ r.2.2.2.2)
  | [], r => by
    show (r.2.2.1 ++ r.2.2.2.2) ++ [] = [] ++ (r.2.2.1 ++ r.2.2.2.2)
    rw [List.append_nil, List.nil_append]
  | s :: R, r => by
    show (s.2.2.1 ++ s.2.2.2.2) ++ mAll (R ++ [r]) = ((s.2.2.1 ++ s.2.2.2.2) ++ mAll R) ++ _
    rw [mAll_app]
    exact (List.append_assoc _ _ _).symm
def TbC (f : Int → Int) : Int → Int → List CRec → Prop
  | _, _, [] => True
  | c, p, r :: R => (f (4 * c) = r.1 ∧ f (4 * c + 1) = p ∧ f (4 * c + 2) = p + r.2.1.length ∧ f (4 * c + 3) = p + r.2.1.length + r.2.2.2.1.length) ∧ TbC f (c + 1) (p + r.2.1.length + r.2.2.2.1.length) R
def TbM (g : Int → Int) : Int → Int → List CRec → Prop
  | _, _, [] => True
  | c, p, r :: R => (g (8 * c) = r.1 ∧ g (8 * c + 3) = p ∧ g (8 * c + 4) = p + r.2.2.1.length ∧ g (8 * c + 5) = p + r.2.2.1.length ∧ g (8 * c + 6) = p + r.2.2.1.length + r.2.2.2.2.length) ∧ TbM g (c + 1) (p + r.2.2.1.length + r.2.2.2.2.length) R
theorem tbC_congr {f f2 : Int → Int} : ∀ {R : List CRec} {c p : Int}, (∀ i : Int, 4 * c ≤ i → i < 4 * (c + R.length) → f2 i = f i) → TbC f c p R → TbC f2 c p R
  | [], _, _, _, _ => trivial
  | r :: R, c, p, h, t => by
    have h' : ∀ i : Int, 4 * c ≤ i → i < 4 * (c + ((R.length + 1 : Nat) : Int)) → f2 i = f i := h
    refine ⟨⟨?_, ?_, ?_, ?_⟩, tbC_congr (fun i a b => h' i (by omega) (by omega)) t.2⟩
    · rw [h' _ (by omega) (by omega)]
      exact t.1.1
    · rw [h' _ (by omega) (by omega)]
      exact t.1.2.1
    · rw [h' _ (by omega) (by omega)]
      exact t.1.2.2.1
    · rw [h' _ (by omega) (by omega)]
      exact t.1.2.2.2
theorem tbM_congr {f f2 : Int → Int} : ∀ {R : List CRec} {c p : Int}, (∀ i : Int, 8 * c ≤ i → i < 8 * (c + R.length) → f2 i = f i) → TbM f c p R → TbM f2 c p R
  | [], _, _, _, _ => trivial
  | r :: R, c, p, h, t => by
    have h' : ∀ i : Int, 8 * c ≤ i → i < 8 * (c + ((R.length + 1 : Nat) : Int)) → f2 i = f i := h
    refine ⟨⟨?_, ?_, ?_, ?_, ?_⟩, tbM_congr (fun i a b => h' i (by omega) (by omega)) t.2⟩
    · rw [h' _ (by omega) (by omega)]
      exact t.1.1
    · rw [h' _ (by omega) (by omega)]
      exact t.1.2.1
    · rw [h' _ (by omega) (by omega)]
      exact t.1.2.2.1
    · rw [h' _ (by omega) (by omega)]
      exact t.1.2.2.2.1
    · rw [h' _ (by omega) (by omega)]
      exact t.1.2.2.2.2
theorem tbC_app {f : Int → Int} {r : CRec} : ∀ {R : List CRec} {c p : Int}, TbC f c p R → (f (4 * (c + R.length)) = r.1 ∧ f (4 * (c + R.length) + 1) = p + (cAll R).length ∧ f (4 * (c + R.length) + 2) = p + (cAll R).length + r.2.1.length ∧ f (4 * (c + R.length) + 3) = p + (cAll R).length + r.2.1.length + r.2.2.2.1.length) → TbC f c p (R ++ [r])
  | [], c, p, _, h => by
    have e : ∀ x : Int, x + (([] : List CRec).length : Int) = x := fun x => Int.add_zero x
    have e2 : ∀ x : Int, x + ((cAll ([] : List CRec)).length : Int) = x := fun x => Int.add_zero x
    rw [e, e2] at h
    exact ⟨h, trivial⟩
  | s :: R, c, p, t, h => by
    refine ⟨t.1, tbC_app t.2 ?_⟩
    have e1 : c + (((s :: R).length : Nat) : Int) = c + 1 + (R.length : Int) := by rw [List.length_cons]; omega
    have e2 : p + ((cAll (s :: R)).length : Int) = p + s.2.1.length + s.2.2.2.1.length + (cAll R).length := by
      show p + (((s.2.1 ++ s.2.2.2.1) ++ cAll R).length : Int) = _
      rw [List.length_append, List.length_append]
      omega
    rw [e1, e2] at h
    exact h
theorem tbM_app {f : Int → Int} {r : CRec} : ∀ {R : List CRec} {c p : Int}, TbM f c p R → (f (8 * (c + R.length)) = r.1 ∧ f (8 * (c + R.length) + 3) = p + (mAll R).length ∧ f (8 * (c + R.length) + 4) = p + (mAll R).length + r.2.2.1.length ∧ f (8 * (c + R.length) + 5) = p + (mAll R).length + r.2.2.1.length ∧ f (8 * (c + R.length) + 6) = p + (mAll R).length + r.2.2.1.length + r.2.2.2.2.length) → TbM f c p (R ++ [r])
  | [], c, p, _, h => by
    have e : ∀ x : Int, x + (([] : List CRec).length : Int) = x := fun x => Int.add_zero x
    have e2 : ∀ x : Int, x + ((mAll ([] : List CRec)).length : Int) = x := fun x => Int.add_zero x
    rw [e, e2] at h
    exact ⟨h, trivial⟩
  | s :: R, c, p, t, h => by
    refine ⟨t.1, tbM_app t.2 ?_⟩
    have e1 : c + (((s :: R).length : Nat) : Int) = c + 1 + (R.length : Int) := by rw [List.length_cons]; omega
    have e2 : p + ((mAll (s :: R)).length : Int) = p + s.2.2.1.length + s.2.2.2.2.length + (mAll R).length := by
      show p + (((s.2.2.1 ++ s.2.2.2.2) ++ mAll R).length : Int) = _
      rw [List.length_append, List.length_append]
      omega
    rw [e1, e2] at h
    exact h
theorem wf_all : ∀ {R : List CRec}, (∀ r, r ∈ R → CROk r) → WfC (cAll R) ∧ WfM (mAll R)
  | [], _ => ⟨trivial, trivial⟩
  | r :: R, h => by
    have ih := wf_all (fun s hs => h s (List.mem_cons_of_mem _ hs))
    obtain ⟨_, ⟨F, a, b, g⟩, t⟩ := h r (List.mem_cons_self ..)
    rcases t with ⟨e1, e2⟩ | ⟨F2, a2, b2, g2, _⟩
    · refine ⟨wfC_app (wfC_app g.2.2.1 ?_) ih.1, wfM_app (wfM_app g.2.2.2.1 ?_) ih.2⟩
      · rw [e1]
        exact trivial
      · rw [e2]
        exact trivial
    · exact ⟨wfC_app (wfC_app g.2.2.1 g2.2.2.1) ih.1, wfM_app (wfM_app g.2.2.2.1 g2.2.2.2.1) ih.2⟩
theorem emb_wfC {K V : Int → Int} : ∀ {l : CLs} {c : Int}, EmbC K V c l → WfC l → ∀ i, c ≤ i → i < c + l.length → 0 ≤ K i ∧ K i ≤ 11 ∧ (K i = 0 → 0 ≤ V i ∧ V i ≤ 100000) ∧ (K i = 1 → 0 ≤ V i ∧ V i ≤ 8) ∧ ((K i = 10 ∨ K i = 11) → i < V i ∧ V i ≤ c + l.length)
  | [], c, _, _, i, a, b => by
    have b : i < c + ((0 : Nat) : Int) := b
    omega
  | (k, v) :: l, c, e, h, i, a, b => by
    have b' : i < c + ((l.length + 1 : Nat) : Int) := b
    show _ ∧ _ ∧ _ ∧ _ ∧ (_ → _ ∧ V i ≤ c + ((l.length + 1 : Nat) : Int))
    by_cases q : i = c
    · subst q
      have e2 := e.2.1
      rw [e.1]
      have w := h.1
      by_cases z : k = 10 ∨ k = 11
      · rw [if_pos z] at e2
        have := w.2.2.2 z
        refine ⟨w.1.1, w.1.2, fun c => by omega, fun c => by omega, fun _ => by omega⟩
      · rw [if_neg z] at e2
        rw [e2]
        exact ⟨w.1.1, w.1.2, w.2.1, w.2.2.1, fun y => absurd y z⟩
    · have ih := emb_wfC e.2.2 h.2 i (by omega) (by omega)
      refine ⟨ih.1, ih.2.1, ih.2.2.1, ih.2.2.2.1, fun y => ?_⟩
      have := ih.2.2.2.2 y
      omega
theorem emb_wfM {O A : Int → Int} : ∀ {l : CLs} {c : Int}, EmbM O A c l → WfM l → ∀ i, c ≤ i → i < c + l.length → ((0 ≤ O i ∧ O i ≤ 9) ∨ (20 ≤ O i ∧ O i ≤ 29)) ∧ (O i = 0 → 0 ≤ A i ∧ A i ≤ 100000) ∧ ((O i = 28 ∨ O i = 29) → i < A i ∧ A i ≤ c + l.length)
  | [], c, _, _, i, a, b => by
    have b : i < c + ((0 : Nat) : Int) := b
    omega
  | (k, v) :: l, c, e, h, i, a, b => by
    have b' : i < c + ((l.length + 1 : Nat) : Int) := b
    show _ ∧ _ ∧ (_ → _ ∧ A i ≤ c + ((l.length + 1 : Nat) : Int))
    by_cases q : i = c
    · subst q
      have e2 := e.2.1
      rw [e.1]
      have w := h.1
      by_cases z : k = 28 ∨ k = 29
      · rw [if_pos z] at e2
        have := w.2.2 z
        refine ⟨w.1, fun c => by omega, fun _ => by omega⟩
      · rw [if_neg z] at e2
        rw [e2]
        exact ⟨w.1, w.2.1, fun y => absurd y z⟩
    · have ih := emb_wfM e.2.2 h.2 i (by omega) (by omega)
      refine ⟨ih.1, ih.2.1, fun y => ?_⟩
      have := ih.2.2 y
      omega
theorem pushN_app {K V : Int → Int} : ∀ {l : CLs} {c : Nat}, EmbC K V (c : Int) l → pushN K (c + l.length) = pushN K c + pcn l
  | [], c, _ => by
    show pushN K c = pushN K c + 0
    omega
  | (k, v) :: l, c, e => by
    have e2 : EmbC K V ((c + 1 : Nat) : Int) l := by
      have := e.2.2
      rw [show ((c + 1 : Nat) : Int) = (c : Int) + 1 by omega]
      exact this
    have ih := pushN_app e2
    show pushN K (c + (l.length + 1)) = pushN K c + ((if k = 0 ∨ k = 1 then 1 else 0) + pcn l)
    rw [show c + (l.length + 1) = c + 1 + l.length by omega, ih]
    show (pushN K c + (if K (c : Int) = 0 ∨ K (c : Int) = 1 then 1 else 0)) + pcn l = _
    rw [e.1]
    omega
theorem clause_rel {K V C W : Int → Int} {NC NM : Int} : ∀ {R : List CRec} {c p pm : Int}, (∀ r, r ∈ R → CROk r) → TbC C c p R → TbM (fun y => W (902 + y)) c pm R → EmbC K V p (cAll R) → EmbM (rO W) (rA W) pm (mAll R) → 0 ≤ p → 0 ≤ pm → p + (cAll R).length ≤ NC → pm + (mAll R).length ≤ NM → ∀ i, c ≤ i → i < c + R.length → ClauseRel K V C W NC NM i
  | [], c, p, pm, _, _, _, _, _, _, _, _, _, i, a, b => by
    have b : i < c + ((0 : Nat) : Int) := b
    omega
  | r :: R, c, p, pm, ok, tc, tm, ec, em, p0, pm0, hc, hm, i, a, b => by
    have b' : i < c + ((R.length + 1 : Nat) : Int) := b
    have lc : (cAll (r :: R)).length = r.2.1.length + r.2.2.2.1.length + (cAll R).length := by
      show ((r.2.1 ++ r.2.2.2.1) ++ cAll R).length = _
      rw [List.length_append, List.length_append]
    have lm : (mAll (r :: R)).length = r.2.2.1.length + r.2.2.2.2.length + (mAll R).length := by
      show ((r.2.2.1 ++ r.2.2.2.2) ++ mAll R).length = _
      rw [List.length_append, List.length_append]
    have ec1 := (embC_app _ _ _).mp ec
    have ec2 := (embC_app _ _ _).mp ec1.1
    have em1 := (embM_app _ _ _).mp em
    have em2 := (embM_app _ _ _).mp em1.1
    rw [List.length_append] at ec1 em1
    rw [lc] at hc
    rw [lm] at hm
    by_cases q : i = c
    · subst q
      obtain ⟨t0, t1, t2, t3⟩ := tc.1
      obtain ⟨u0, u3, u4, u5, u6⟩ := tm.1
      dsimp only at u0 u3 u4 u5 u6
      rw [← Int.add_assoc] at u3 u4 u5 u6
      obtain ⟨hd, ⟨F, x, y, g⟩, ht⟩ := ok r (List.mem_cons_self ..)
      unfold ClauseRel
      rw [t0, t1, t2, t3, u0, u3, u4, u5, u6]
      refine ⟨rfl, hd.1, hd.2, p0, by omega, by omega, by omega, pm0, by omega, Int.le_refl _, by omega, by omega, ⟨F, g.1 K V p ec2.1, g.2.1 W pm em2.1⟩, ?_⟩
      rcases ht with ⟨e1, e2⟩ | ⟨F2, x2, y2, g2, tt⟩
      · refine Or.inl ⟨?_, ?_⟩
        · rw [e1]
          exact (Int.add_zero _).symm
        · rw [e2]
          exact (Int.add_zero _).symm
      · have := g2.2.2.2.2.2.1
        have := g2.2.2.2.2.2.2
        exact Or.inr ⟨by omega, by omega, F2, tt, g2.1 K V _ ec2.2, g2.2.1 W _ em2.2⟩
    · refine clause_rel (fun s hs => ok s (List.mem_cons_of_mem _ hs)) tc.2 tm.2 ?_ ?_ (by omega) (by omega) (by omega) (by omega) i (by omega) (by omega)
      · have := ec1.2
        rw [show p + ((r.2.1.length + r.2.2.2.1.length : Nat) : Int) = p + r.2.1.length + r.2.2.2.1.length by omega] at this
        exact this
      · have := em1.2
        rw [show pm + ((r.2.2.1.length + r.2.2.2.2.length : Nat) : Int) = pm + r.2.2.1.length + r.2.2.2.2.length by omega] at this
        exact this
/-- the clauses read make a law -/
theorem law_rel {K V C W : Int → Int} {R : List CRec} {lf : Nat} (ok : ∀ r, r ∈ R → CROk r) (tc : TbC C 0 0 R) (tm : TbM (fun y => W (902 + y)) 0 0 R) (ec : EmbC K V 0 (cAll R)) (em : EmbM (rO W) (rA W) 0 (mAll R)) (lc : (cAll R).length ≤ 400) (lm : (mAll R).length ≤ 400) (hn : R.length ≤ 12) (hw : W 901 = R.length) (hp : pcn (cAll R) = (lf : Int)) (hl : lf ≤ 50) : LawRelF ((cAll R).length : Int) K V (R.length : Int) C W := by
  have wf := wf_all ok
  refine ⟨hw.symm, by omega, by omega, ⟨by omega, by omega, ?_, fun p p0 p1 => ?_⟩, ((mAll R).length : Int), ⟨by omega, by omega, fun p p0 p1 => ?_⟩, fun c c0 c1 => clause_rel ok tc tm ec em (Int.le_refl _) (Int.le_refl _) (by omega) (by omega) c c0 (by omega)⟩
  · have q := pushN_app (c := 0) ec
    rw [Nat.zero_add] at q
    rw [show (((cAll R).length : Nat) : Int).toNat = (cAll R).length by omega, q, hp]
    show (0 : Int) + _ ≤ 50
    omega
  · have q := emb_wfC ec wf.1 p p0 (by omega)
    refine ⟨q.1, q.2.1, q.2.2.1, q.2.2.2.1, fun y => ?_⟩
    have := q.2.2.2.2 y
    omega
  · have q := emb_wfM em wf.2 p p0 (by omega)
    refine ⟨q.1, q.2.1, fun y => ?_⟩
    have := q.2.2 y
    exact ⟨this.1, by have h2 : rA W p ≤ 0 + ((mAll R).length : Int) := this.2; have h3 : rA W p = W (998 + 2 * p + 1) := rfl; omega⟩
end RECS
