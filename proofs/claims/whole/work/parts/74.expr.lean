section PEXPR
variable {w : WD} {d : Nat} {n m0 : NM} {T : Int → Int} {L : Int} {iE : Nat} {j lf : Nat} {l : CLs}
/-- the reference between two expressions -/
def LX (T : Int → Int) (L : Int) (n : NM) (j lf : Nat) (l : CLs) : Prop := TpM n T L ∧ MTk n T L j ∧ (n 145 14 = 0 ∧ n 145 13 = -1) ∧ n 145 20 = (lf : Int) ∧ n 145 17 = (l.length : Int) ∧ (l.length ≤ j ∧ l.length ≤ 400) ∧ EmbM (n 152) (n 153) 0 l
def LXF (T : Int → Int) (L : Int) (n : NM) (q : Nat) : Prop := n 145 14 = 1 ∧ n 145 13 = tkS T L q ∧ 0 ≤ n 145 17 ∧ n 145 17 ≤ 400
theorem LX.ms (h : LX T L n j lf l) : MS T L n (upn (upn n 145 23 0) 145 24 0) j lf 0 l [] := by
  have f : ∀ (t : Nat) (x : Int), (t ≠ 145 ∨ (x ≠ 23 ∧ x ≠ 24)) → (upn (upn n 145 23 0) 145 24 0) t x = n t x := fun t x c => by
    rw [upn_ap, if_neg (by omega), upn_ap, if_neg (by omega)]
  have g : FrM2 (upn (upn n 145 23 0) 145 24 0) n := fun t x c => f t x (by omega)
  have e0 : emc [] = 0 := rfl
  refine ⟨h.1.fm g, g, ⟨⟨(f 145 17 (by omega)).trans h.2.2.2.2.1, ?_⟩, ⟨by have := h.2.2.2.2.2.1.2; omega, Nat.zero_le _⟩, ?_, trivial, fun x hx => absurd hx (List.not_mem_nil)⟩, h.2.1.fr (fun x a b => f 145 x (by omega)), ⟨(f 145 14 (by omega)).trans h.2.2.1.1, (f 145 13 (by omega)).trans h.2.2.1.2⟩, ⟨(f 145 20 (by omega)).trans h.2.2.2.1, upn_self _ _ _ _⟩, by have := h.2.2.2.2.2.1.1; omega, Nat.zero_le _⟩
  · rw [upn_i (by decide), upn_self]
    rfl
  · exact embM_congr _ _ (fun i _ _ => ⟨f 152 i (by omega), f 153 i (by omega)⟩) h.2.2.2.2.2.2
theorem MS.lx {P : CLs} {dep : Nat} (h : MS T L m0 n j lf dep l P) : LX T L n j lf l :=
  ⟨h.1, h.2.2.2.1, h.2.2.2.2.1, h.2.2.2.2.2.1.1, h.2.2.1.1.1, ⟨by have := h.2.2.2.2.2.2.1; omega, by have := h.2.2.1.2.1.1; omega⟩, h.2.2.1.2.2.1⟩
/-- what the expression's reading leaves -/
theorem m_exprS {q : Nat} {lf' j' : Nat} {cm : CLs} (h : LX T L n j lf l) :
    (PmF w d T L (cTop 5) 1 q j lf 0 → Ev w (d + 6) 0 0 mX12_readExpression [vr 145, vi 0] (B0, n) (fun r h' => ∃ n1 : NM, r = none ∧ h' = (B0, n1) ∧ LXF T L n1 q ∧ FrM2 n1 n)) ∧
    (noOp T L j' → PmK w d T L (cTop 5) 5 1 3 j lf 0 j' lf' cm → Ev w (d + 6) 0 0 mX12_readExpression [vr 145, vi 0] (B0, n) (fun r h' => ∃ n1 : NM, r = none ∧ h' = (B0, n1) ∧ LX T L n1 j' lf' (l ++ cm) ∧ FrM2 n1 n)) := by
  have top : topLt 5 [] := fun x P' z => by cases z
  refine ⟨fun hF => EV.ofP (by decide +kernel) (Nat.le_of_ble_eq_true rfl) rfl (fun _ G => gX12_readExpression_0 (fun z hz => ?_)), fun hno hK => EV.ofP (by decide +kernel) (Nat.le_of_ble_eq_true rfl) rfl (fun _ G => gX12_readExpression_0 (fun z hz => ?_))⟩
  · rw [if_pos rfl] at hz
    subst hz
    exact hF n 0 G _ _ l [] top h.ms (fun n1 t1 b => ml_bad b (fun n2 f2 a b2 c => ⟨n2, rfl, rfl, ⟨a, b2, c⟩, f2⟩))
  · rw [if_pos rfl] at hz
    subst hz
    refine hK n 0 G _ _ l [] top h.ms (fun n1 l1 pend s hp es => ?_)
    have p1 : ∀ x, x ∈ pend ++ [] → 1 ≤ bnd x.1 := fun x hx => by
      rw [List.append_nil] at hx
      have := hp x hx
      omega
    refine ml3 s.2.2.2.2.1.1 (m_bsOver s hno ((innP_app (fun x hx => by have := hp x hx; omega)).trans rfl)) (fun x n2 z => ?_)
    rw [z.1, z.2]
    refine ml_4 s p1 (fun n3 s3 => ⟨n3, rfl, rfl, ?_, s3.2.1⟩)
    rw [List.append_nil, es] at s3
    exact s3.lx
theorem m_exprT {q : Nat} {lf' j' : Nat} {cm : CLs} (h : LX T L n j lf l) :
    (PmF w d T L (cTs 1) 0 q j lf 0 → Ev w (d + 6) 0 0 mX12_readExpression [vr 145, vi 1] (B0, n) (fun r h' => ∃ n1 : NM, r = none ∧ h' = (B0, n1) ∧ LXF T L n1 q ∧ FrM2 n1 n)) ∧
    (noSk T L j' → PmK w d T L (cTs 1) 1 0 2 j lf 0 j' lf' cm → Ev w (d + 6) 0 0 mX12_readExpression [vr 145, vi 1] (B0, n) (fun r h' => ∃ n1 : NM, r = none ∧ h' = (B0, n1) ∧ LX T L n1 j' lf' (l ++ cm) ∧ FrM2 n1 n)) := by
  have top : cTs 1 1 [] := ⟨fun x P' z => (by cases z), ⟨(by show (-1 : Int) ≠ 31; decide), Or.inr (by decide)⟩⟩
  refine ⟨fun hF => EV.ofP (by decide +kernel) (Nat.le_of_ble_eq_true rfl) rfl (fun _ G => gX12_readExpression_0 (fun z hz => ?_)), fun hno hK => EV.ofP (by decide +kernel) (Nat.le_of_ble_eq_true rfl) rfl (fun _ G => gX12_readExpression_0 (fun z hz => ?_))⟩
  · rw [if_neg (by decide)] at hz
    subst hz
    exact hF n 1 G _ _ l [] top h.ms (fun n1 t1 b => ml_bad b (fun n2 f2 a b2 c => ⟨n2, rfl, rfl, ⟨a, b2, c⟩, f2⟩))
  · rw [if_neg (by decide)] at hz
    subst hz
    refine hK n 1 G _ _ l [] top h.ms (fun n1 l1 pend s hp es => ?_)
    have p1 : ∀ x, x ∈ pend ++ [] → 1 ≤ bnd x.1 := fun x hx => by
      rw [List.append_nil] at hx
      exact hp x hx
    refine ml2 s.2.2.2.2.1.1 (m_btOver s hno ((innP_app hp).trans rfl)) (fun x n2 z => ?_)
    rw [z.1, z.2]
    refine ml_4 s p1 (fun n3 s3 => ⟨n3, rfl, rfl, ?_, s3.2.1⟩)
    rw [List.append_nil, es] at s3
    exact s3.lx
/-- which of the six heads -/
def hdV (T : Int → Int) (L : Int) (j : Nat) : Int := if jK T L j = 1 ∧ 0 ≤ jV T L j ∧ jV T L j ≤ 5 then jV T L j else -1
theorem m_headAt (h : MTk n T L j) : EI w (d + 1) mX12_headAt [vr 145] B0 n (hdV T L j) n := by
  have fin : ∀ (p x : Int), AtK T L j 1 p → 0 ≤ p → p ≤ 5 → x = p → some (vi x) = some (vi (hdV T L j)) ∧ ((B0, n) : Hp) = (B0, n) := fun p x a b c e => by
    have : hdV T L j = p := by
      unfold hdV
      rw [if_pos ⟨a.1, by have := a.2; omega, by have := a.2; omega⟩, a.2]
    rw [this, e]
    exact ⟨rfl, rfl⟩
  have a30 : ∀ G : GM, (AtK T L j 1 ((0 : Nat) : Int) ∨ AtK T L j 1 ((1 : Nat) : Int) ∨ AtK T L j 1 ((2 : Nat) : Int)) → Rn w mX12_headAt (d + 1) G (fun r h' => r = some (vi (hdV T L j)) ∧ h' = (B0, n)) 30 [(0, vr 145)] [] (B0, n) := fun G o =>
    gX12_headAt_30 (EI.use (m_isWordP h (p := 0) (by decide) rfl) (ite01 (fun c6 => EI.use (m_isWordP h (p := 1) (by decide) rfl) (ite01 (fun c7 => fin 2 2 (by
      rcases o with o | o | o
      · exact absurd o c6
      · exact absurd o c7
      · exact o) (by decide) (by decide) (by decide)) (fun c7 => fin 1 1 c7 (by decide) (by decide) (by decide)))) (fun c6 => fin 0 0 c6 (by decide) (by decide) (by decide))))
  refine EI.of (by decide +kernel) (Nat.le_of_ble_eq_true rfl) rfl (fun _ G => gX12_headAt_0 (EI.use (m_isWordP h (p := 0) (by decide) rfl) (ite10 (fun c => a30 G (Or.inl c)) (fun c0 => EI.use (m_isWordP h (p := 1) (by decide) rfl) (ite10 (fun c => a30 G (Or.inr (Or.inl c))) (fun c1 => EI.use (m_isWordP h (p := 2) (by decide) rfl) (ite01 (fun c2 => EI.use (m_isWordP h (p := 3) (by decide) rfl) (ite01 (fun c3 => EI.use (m_isWordP h (p := 4) (by decide) rfl) (ite01 (fun c4 => EI.use (m_isWordP h (p := 5) (by decide) rfl) (ite01 (fun c5 => ?_) (fun c => fin 5 5 c (by decide) (by decide) (by decide)))) (fun c => fin 4 4 c (by decide) (by decide) (by decide)))) (fun c => fin 3 3 c (by decide) (by decide) (by decide)))) (fun c => a30 G (Or.inr (Or.inr c))))))))))
  have : hdV T L j = -1 := by
    unfold hdV
    rw [if_neg (fun z => ?_)]
    have z1 := z.1
    have : ∀ p : Int, jV T L j = p → AtK T L j 1 p := fun p e => ⟨z1, e⟩
    have k0 := fun e => c0 (this _ e)
    have k1 := fun e => c1 (this _ e)
    have k2 := fun e => c2 (this _ e)
    have k3 := fun e => c3 (this _ e)
    have k4 := fun e => c4 (this _ e)
    have k5 := fun e => c5 (this _ e)
    omega
  rw [this]
  exact ⟨rfl, rfl⟩
/-! the class's clause -/
def FrL (n nB : NM) : Prop := ∀ t : Nat, t < 37 ∨ 46 < t → n t = nB t
theorem FrL.ofC {n1 n2 : NM} (h : FrC n2 n1) (g : FrL n1 m0) : FrL n2 m0 := fun t c => (h t (by omega)).trans (g t c)
/-- the class at token j, the clauses R read -/
def LC (T : Int → Int) (L : Int) (iE : Nat) (nB n : NM) (j lf : Nat) (R : List CRec) : Prop := C0 T L iE n ∧ KS n n j lf (cAll R) ∧ TW n 45 4 12 ∧ n 45 3 = (R.length : Int) ∧ TbC (n 46) 0 0 R ∧ FrL n nB
def LF (T : Int → Int) (L : Int) (nB n : NM) (q : Nat) : Prop := n 37 4 = tkS T L q ∧ TW n 45 4 12 ∧ FrL n nB
theorem s_addCl {a b c : Int} (hT : TW n 45 4 12) (hf : n 45 3 < 12) : EV w (d + 3) mX2_addClause [vr 42, vi a, vi b, vi c] B0 n (tadd n 45 46 4 a b c (n 42 2)) :=
  EV.of (by decide +kernel) (Nat.le_of_ble_eq_true rfl) rfl (fun _ G => gX2_addClause_0 ob_42 (k := 43) (v := 44) (t := 45) rfl rfl rfl ob_43 ob_44 ob_45 (EI.use (s_add (L := 48) (R := 12) (W := 4) ob_45 rfl ob_46 (by decide) hT (by decide) rfl (by decide) (by decide) hf a b c (n 42 2)) ⟨rfl, rfl⟩))
theorem tadd_o {a b c e : Int} {t : Nat} (h1 : t ≠ 45) (h2 : t ≠ 46) : tadd n 45 46 4 a b c e t = n t := by
  unfold tadd
  rw [wrow_ne h2, upn_ne h1]
theorem tadd_W {a b c e : Int} (hT : TW n 45 4 12) (hf : n 45 3 < 12) : TW (tadd n 45 46 4 a b c e) 45 4 12 ∧ tadd n 45 46 4 a b c e 45 3 = n 45 3 + 1 := by
  have e45 : tadd n 45 46 4 a b c e 45 = upn n 45 3 (n 45 3 + 1) 45 := by
    unfold tadd
    rw [wrow_ne (by decide)]
  unfold TW
  rw [e45, upn_i (by decide), upn_i (by decide), upn_self]
  exact ⟨⟨hT.1, hT.2.1, by have := hT.2.2.1; omega, by omega⟩, rfl⟩
theorem C0.fr {n1 : NM} (h : C0 T L iE n) (f : ∀ t : Nat, 37 < t → t < 42 → n1 t = n t) : C0 T L iE n1 := by
  refine ⟨⟨?_, fun i hi => ?_⟩, h.2⟩
  · rw [f 38 (by omega) (by omega)]
    exact h.1.1
  · rw [f 39 (by omega) (by omega), f 40 (by omega) (by omega), f 41 (by omega) (by omega)]
    exact h.1.2 i hi
theorem KS.self {n0 : NM} {cc : CLs} (h : KS n0 n j lf cc) : KS n n j lf cc := ⟨⟨fun _ _ => rfl, h.1.2⟩, h.2⟩
theorem KS.fr {n0 n1 : NM} {cc : CLs} (h : KS n0 n j lf cc) (f : ∀ t : Nat, t = 37 ∨ t = 42 ∨ t = 43 ∨ t = 44 → n1 t = n t) : KS n1 n1 j lf cc := by
  refine ⟨⟨fun _ _ => rfl, ?_⟩, ?_⟩
  · rw [f 37 (by omega), f 42 (by omega), f 43 (by omega), f 44 (by omega)]
    exact h.1.2
  · rw [f 37 (by omega)]
    exact h.2
theorem s_clEnd {nB n0 : NM} {G : GM} {R : List CRec} {r : CRec} (hc : C0 T L iE n0) (hn : KS n0 n j lf (cAll R ++ (r.2.1 ++ r.2.2.2.1))) (hT : TW n0 45 4 12) (hN : n0 45 3 = (R.length : Int)) (h12 : R.length < 12) (ht : TbC (n0 46) 0 0 R) (hf : FrL n0 nB) :
    Rn w mX3_clause (d + 4) G (fun x h' => ∃ n1 : NM, x = none ∧ h' = (B0, n1) ∧ LC T L iE nB n1 j lf (R ++ [r])) 87 [(0, vr 37), (1, vi r.1), (2, vi ((cAll R).length : Int)), (3, vi (((cAll R).length : Int) + r.2.1.length))] [] (B0, n) := by
  have e45 : n 45 = n0 45 := hn.1.1 45 (by omega)
  have e46 : n 46 = n0 46 := hn.1.1 46 (by omega)
  have hT' : TW n 45 4 12 := hT.congr e45
  have hN' : n 45 3 = (R.length : Int) := by rw [e45]; exact hN
  have tw := tadd_W (a := r.1) (b := ((cAll R).length : Int)) (c := ((cAll R).length : Int) + r.2.1.length) (e := n 42 2) hT' (by omega)
  have e42 := hn.1.2.2.2.1.1
  rw [List.length_append, List.length_append] at e42
  refine gX3_clause_87 (EV.use (s_addCl hT' (by omega)) ⟨_, rfl, rfl, hc.fr (fun t a b => (tadd_o (by omega) (by omega)).trans (hn.1.1 t (by omega))), ?_, tw.1, ?_, ?_, fun t c => (tadd_o (by omega) (by omega)).trans ((hn.1.1 t (by omega)).trans (hf t c))⟩)
  · rw [cAll_app]
    exact hn.fr (fun t c => tadd_o (by omega) (by omega))
  · rw [tw.2, hN', List.length_append, List.length_singleton]
    omega
  · have v : ∀ i : Int, tadd n 45 46 4 r.1 ((cAll R).length : Int) (((cAll R).length : Int) + r.2.1.length) (n 42 2) 46 i = if 4 * (R.length : Int) ≤ i ∧ i < 4 * (R.length : Int) + 4 then sel4 r.1 ((cAll R).length : Int) (((cAll R).length : Int) + r.2.1.length) (n 42 2) (i - 4 * R.length) else n 46 i := fun i => by
      unfold tadd
      rw [hN', show (R.length : Int) * 4 = 4 * R.length by omega, show min (4 : Int) 4 = 4 by decide]
      by_cases c : 4 * (R.length : Int) ≤ i ∧ i < 4 * (R.length : Int) + 4
      · rw [if_pos c, wrow_in c.1 c.2]
      · rw [if_neg c, wrow_out (by omega), upn_a (by decide)]
    refine tbC_app (tbC_congr (fun i i0 i1 => ?_) ht) ⟨?_, ?_, ?_, ?_⟩
    · rw [v, if_neg (by omega), e46]
    · rw [v, if_pos (by omega), show 4 * (0 + (R.length : Int)) - 4 * R.length = 0 by omega]
      rfl
    · rw [v, if_pos (by omega), show 4 * (0 + (R.length : Int)) + 1 - 4 * R.length = 1 by omega]
      show ((cAll R).length : Int) = _
      omega
    · rw [v, if_pos (by omega), show 4 * (0 + (R.length : Int)) + 2 - 4 * R.length = 2 by omega]
      show ((cAll R).length : Int) + r.2.1.length = _
      omega
    · rw [v, if_pos (by omega), show 4 * (0 + (R.length : Int)) + 3 - 4 * R.length = 3 by omega]
      show n 42 2 = _
      omega
theorem s_clEndF {nB n0 : NM} {q : Nat} {G : GM} {a b c : Int} (hn : KF T L n0 n q) (hT : TW n0 45 4 12) (h12 : n0 45 3 < 12) (hf : FrL n0 nB) :
    Rn w mX3_clause (d + 4) G (fun x h' => ∃ n1 : NM, x = none ∧ h' = (B0, n1) ∧ LF T L nB n1 q) 87 [(0, vr 37), (1, vi a), (2, vi b), (3, vi c)] [] (B0, n) := by
  have e45 : n 45 = n0 45 := hn.1 45 (by omega)
  have hT' : TW n 45 4 12 := hT.congr e45
  have hN' : n 45 3 < 12 := by rw [e45]; exact h12
  refine gX3_clause_87 (EV.use (s_addCl hT' hN') ⟨_, rfl, rfl, ?_, (tadd_W hT' hN').1, fun t c => (tadd_o (by omega) (by omega)).trans ((hn.1 t (by omega)).trans (hf t c))⟩)
  rw [tadd_o (by decide) (by decide)]
  exact hn.2.1
end PEXPR
