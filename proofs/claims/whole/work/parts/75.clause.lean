section PCLAUSE
variable {w : WD} {d : Nat} {n m0 : NM} {T : Int → Int} {L : Int} {iE : Nat} {j lf : Nat} {l : CLs} {R : List CRec}
theorem LX.fr {n1 : NM} (h : LX T L n j lf l) (f : ∀ (t : Nat) (x : Int), t ≠ 151 → (t ≠ 145 ∨ x ≠ 15) → n1 t x = n t x) : LX T L n1 j lf l :=
  ⟨⟨h.1.1, (f 145 8 (by decide) (by omega)).trans h.1.2.1, fun i a b => (f 150 i (by decide) (by omega)).trans (h.1.2.2.1 i a b), h.1.2.2.2⟩, h.2.1.fr (fun x a b => f 145 x (by decide) (by omega)), ⟨(f 145 14 (by decide) (by omega)).trans h.2.2.1.1, (f 145 13 (by decide) (by omega)).trans h.2.2.1.2⟩, (f 145 20 (by decide) (by omega)).trans h.2.2.2.1, (f 145 17 (by decide) (by omega)).trans h.2.2.2.2.1, h.2.2.2.2.2.1, embM_congr _ _ (fun i _ _ => ⟨f 152 i (by decide) (by omega), f 153 i (by decide) (by omega)⟩) h.2.2.2.2.2.2⟩
theorem LX.next {n1 : NM} (h : LX T L n j lf l) (f : FrX n1 n) (t : MTk n1 T L (j + 1)) : LX T L n1 (j + 1) lf l :=
  ⟨h.1.fr f, t, ⟨(f 145 14 (by omega)).trans h.2.2.1.1, (f 145 13 (by omega)).trans h.2.2.1.2⟩, (f 145 20 (by omega)).trans h.2.2.2.1, (f 145 17 (by omega)).trans h.2.2.2.2.1, ⟨by have := h.2.2.2.2.2.1.1; omega, h.2.2.2.2.2.1.2⟩, embM_congr _ _ (fun i _ _ => ⟨f 152 i (by omega), f 153 i (by omega)⟩) h.2.2.2.2.2.2⟩
theorem m_nextLX (h : LX T L n j lf l) : Ev w (d + 1) 0 0 mX12_next [vr 145] (B0, n) (fun r h' => ∃ n1 : NM, r = none ∧ h' = (B0, n1) ∧ FrX n1 n ∧ LX T L n1 (j + 1) lf l) :=
  EV.usP (m_nextT h.1 h.2.1) (fun n1 z => ⟨z.1, h.next z.1 z.2⟩)
theorem m_mustLY {b : Int} (hb : b ≠ 0) (h : LX T L n j lf l) : Ev w (d + 2) 0 0 mX12_must [vr 145, vi b] (B0, n) (fun r h' => ∃ n1 : NM, r = none ∧ h' = (B0, n1) ∧ FrX n1 n ∧ LX T L n1 (j + 1) lf l) :=
  EV.ofP (by decide +kernel) (Nat.le_of_ble_eq_true rfl) rfl (fun _ G => gX12_must_0 ⟨fun c => absurd h.2.2.1.1 c, fun _ => ⟨fun _ => ⟨fun c => absurd h.2.2.1.1 c, fun _ => EV.usP (m_nextLX h) (fun n1 z => ⟨n1, rfl, rfl, z⟩)⟩, fun c => absurd c hb⟩⟩)
theorem m_mustLN (h : LX T L n j lf l) : Ev w (d + 2) 0 0 mX12_must [vr 145, vi 0] (B0, n) (fun r h' => ∃ n1 : NM, r = none ∧ h' = (B0, n1) ∧ LXF T L n1 j ∧ FrM2 n1 n) := by
  have h17 := h.2.2.2.2.1
  have hl := h.2.2.2.2.2.1.2
  refine EV.ofP (by decide +kernel) (Nat.le_of_ble_eq_true rfl) rfl (fun _ G => gX12_must_0 ⟨fun c => absurd h.2.2.1.1 c, fun _ => ⟨fun c => absurd rfl c, fun _ => ⟨fun _ => ⟨_, rfl, rfl, ⟨?_, ?_, ?_⟩, FrM2.upd (FrM2.upd (fun _ _ _ => rfl) (by omega)) (by omega)⟩, fun c => absurd c (by decide)⟩⟩⟩)
  · rw [upn_i (by decide), upn_self]
  · rw [upn_self, h.2.1.1]
  · rw [upn_i (by decide), upn_i (by decide)]
    omega
def FrNm (n mB : NM) : Prop := ∀ (t : Nat) (x : Int), (t < 145 ∨ 155 < t ∨ (145 < t ∧ t < 151) ∨ (t = 145 ∧ (x < 9 ∨ 24 < x))) → n t x = mB t x
theorem FrNm.m2 {n1 mB : NM} (f : FrM2 n1 n) (h : FrNm n mB) : FrNm n1 mB := fun t x c => (f t x (by omega)).trans (h t x c)
theorem FrNm.x {n1 mB : NM} (f : FrX n1 n) (h : FrNm n mB) : FrNm n1 mB := fun t x c => (f t x (by omega)).trans (h t x c)
theorem FrNm.upd {mB : NM} {t : Nat} {i v : Int} (h : FrNm n mB) (ht : t = 151 ∨ (t = 145 ∧ 9 ≤ i ∧ i ≤ 24)) : FrNm (upn n t i v) mB := fun u x c => by
  rw [upn_ap, if_neg (by omega)]
  exact h u x c
/-- the reference at token j, the clauses R read -/
def LM (T : Int → Int) (L : Int) (mB n : NM) (j lf : Nat) (R : List CRec) : Prop := LX T L n j lf (mAll R) ∧ n 145 15 = (R.length : Int) ∧ TbM (n 151) 0 0 R ∧ FrNm n mB
def LMF (T : Int → Int) (L : Int) (mB n : NM) (q : Nat) : Prop := LXF T L n q ∧ FrNm n mB
theorem m_zero {G : GM} {Q : Option AV → Hp → Prop} {hd : Int} {N : Nat} (hN : N < 12) {n0 : NM} (K : ∀ n1 : NM, (∀ (t : Nat) (x : Int), (t ≠ 151 ∨ x < 8 * (N : Int)) → n1 t x = n0 t x) → Rn w mX12_readClause (d + 1) G Q 46 [(0, vr 145), (1, vi hd), (2, vi (8 * (N : Int))), (3, vi 8)] [] (B0, n1)) : ∀ (k : Nat) (x3 : Int) (n : NM), x3 + k = 8 → 0 ≤ x3 → (∀ (t : Nat) (x : Int), (t ≠ 151 ∨ x < 8 * (N : Int)) → n t x = n0 t x) → Rn w mX12_readClause (d + 1) G Q 46 [(0, vr 145), (1, vi hd), (2, vi (8 * (N : Int))), (3, vi x3)] [] (B0, n)
  | 0, x3, n, hk, h0, f => by
    have e : x3 = 8 := by omega
    subst e
    exact K n f
  | k + 1, x3, n, hk, h0, f => gX12_readClause_46 ⟨fun c => by omega, fun c => ⟨⟨by omega, by omega⟩, by omega, by omega, ⟨by omega, by omega⟩, m_zero hN K k (x3 + 1) _ (by omega) (by omega) (fun t x c2 => by
      rw [upn_ap, if_neg (by omega)]
      exact f t x c2)⟩⟩
theorem m_clEnd {mB : NM} {r : CRec} {G : GM} (hX : LX T L n j lf (mAll R ++ (r.2.2.1 ++ r.2.2.2.2))) (hN : R.length < 12) (h15 : n 145 15 = (R.length : Int) + 1) (ht : TbM (n 151) 0 0 R) (f : FrNm n mB) (c0 : n 151 (8 * (R.length : Int)) = r.1) (c3 : n 151 (8 * (R.length : Int) + 3) = ((mAll R).length : Int)) (c4 : n 151 (8 * (R.length : Int) + 4) = ((mAll R).length : Int) + r.2.2.1.length) (c5 : n 151 (8 * (R.length : Int) + 5) = ((mAll R).length : Int) + r.2.2.1.length) :
    Rn w mX12_readClause d G (fun x h' => ∃ n1 : NM, x = none ∧ h' = (B0, n1) ∧ LM T L mB n1 j lf (R ++ [r])) 151 [(0, vr 145), (2, vi (8 * (R.length : Int)))] [] (B0, n) := by
  have e17 := hX.2.2.2.2.1
  rw [List.length_append, List.length_append] at e17
  refine gX12_readClause_151 ⟨⟨by omega, by omega⟩, by omega, by omega, _, rfl, rfl, ?_, ?_, ?_, f.upd (by omega)⟩
  · rw [mAll_app]
    exact hX.fr (fun t x a b => upn_a a)
  · rw [upn_a (by decide), h15, List.length_append, List.length_singleton]
    omega
  · refine tbM_app (tbM_congr (fun i i0 i1 => upn_i (by omega)) ht) ⟨?_, ?_, ?_, ?_, ?_⟩
    · rw [upn_i (by omega), Int.zero_add, c0]
    · rw [upn_i (by omega), Int.zero_add, Int.zero_add, c3]
    · rw [upn_i (by omega), Int.zero_add, Int.zero_add, c4]
    · rw [upn_i (by omega), Int.zero_add, Int.zero_add, c5]
    · rw [Int.zero_add, Int.zero_add, upn_self]
      omega
/-- a clause, on both sides -/
def SpCl (w : WD) (d : Nat) (T : Int → Int) (L : Int) (iE j lf : Nat) : Prop :=
  (∃ q : Nat, q ≤ iE ∧ (∀ (nB n : NM) (R : List CRec), R.length < 12 → LC T L iE nB n j lf R → Ev w (d + 80) 0 0 mX3_clause [vr 37] (B0, n) (fun r h' => ∃ n1 : NM, r = none ∧ h' = (B0, n1) ∧ LF T L nB n1 q)) ∧
    ∀ (mB n : NM) (R : List CRec), R.length < 12 → LM T L mB n j lf R → Ev w (d + 80) 0 0 mX12_readClause [vr 145] (B0, n) (fun r h' => ∃ n1 : NM, r = none ∧ h' = (B0, n1) ∧ LMF T L mB n1 q)) ∨
  (∃ (j' lf' : Nat) (r : CRec), (j < j' ∧ j' ≤ iE) ∧ lf' ≤ 50 ∧ CROk r ∧ pcn (r.2.1 ++ r.2.2.2.1) + (lf : Int) = lf' ∧ (∀ (nB n : NM) (R : List CRec), R.length < 12 → LC T L iE nB n j lf R → Ev w (d + 80) 0 0 mX3_clause [vr 37] (B0, n) (fun x h' => ∃ n1 : NM, x = none ∧ h' = (B0, n1) ∧ LC T L iE nB n1 j' lf' (R ++ [r]))) ∧
    ∀ (mB n : NM) (R : List CRec), R.length < 12 → LM T L mB n j lf R → Ev w (d + 80) 0 0 mX12_readClause [vr 145] (B0, n) (fun x h' => ∃ n1 : NM, x = none ∧ h' = (B0, n1) ∧ LM T L mB n1 j' lf' (R ++ [r])))
theorem s_stepsA : EI w d mX2_steps [vr 42] B0 n (n 42 2) n :=
  EI.of (by decide +kernel) (Nat.le_of_ble_eq_true rfl) rfl (fun _ G => gX2_steps_0 ob_42 (k := 43) (v := 44) (t := 45) rfl rfl rfl ob_43 ob_44 ob_45 ⟨rfl, rfl⟩)
theorem sp_clause (hE : TkE T L iE) (hj : j ≤ iE) (hlf : lf ≤ 50) : SpCl w d T L iE j lf := by
  have h400 : (iE : Int) ≤ 400 := by have := hE.2.1; have := hE.2.2.2; omega
  by_cases hh : jK T L j = 1 ∧ 0 ≤ jV T L j ∧ jV T L j ≤ 5
  · have ehd : hdV T L j = jV T L j := by
      unfold hdV
      rw [if_pos hh]
    have hj2 : j < iE := by
      rcases jK_in hE hj with q | q
      · omega
      · exact q.2.2
    -- the class, up to its sum
    have clS : ∀ (V : NM → Prop) (nB n : NM) (R : List CRec), LC T L iE nB n j lf R → (∀ (G : GM) (n1 : NM), KS n n1 (j + 1) lf (cAll R) → Ev w (d + 79) 0 0 mX3_sum [vr 37, vi (0 : Int)] (B0, n1) (fun r h' => ∃ n33 : NM, r = none ∧ h' = (B0, n33) ∧ 
                  (Ev w (d + 79) 0 0 mX2_steps [vr 42] (B0, n33) (fun r h' => ∃ (x35 : Int) (n34 : NM), r = some (vi x35) ∧ h' = (B0, n34) ∧ 
                    (Ev w (d + 79) 0 0 mX3_take [vr 37, vi 1, vi 15] (B0, n34) (fun r h' => ∃ (x37 : Int) (n36 : NM), r = some (vi x37) ∧ h' = (B0, n36) ∧ 
                      ((x37 = 0 →
                        Rn w mX3_clause (d + 80) G (fun r h' => ∃ n1 : NM, r = none ∧ h' = (B0, n1) ∧ V n1) 87 [(0, vr 37), (1, vi (jV T L j)), (2, vi ((cAll R).length : Int)), (3, vi x35)] [] (B0, n36)) ∧
                      (x37 ≠ 0 →
                        (Ev w (d + 79) 0 0 mX3_test [vr 37, vi 0] (B0, n36) (fun r h' => ∃ n39 : NM, r = none ∧ h' = (B0, n39) ∧ 
                          Rn w mX3_clause (d + 80) G (fun r h' => ∃ n1 : NM, r = none ∧ h' = (B0, n1) ∧ V n1) 87 [(0, vr 37), (1, vi (jV T L j)), (2, vi ((cAll R).length : Int)), (3, vi x35)] [] (B0, n39))))))))))) →
        Ev w (d + 80) 0 0 mX3_clause [vr 37] (B0, n) (fun r h' => ∃ n1 : NM, r = none ∧ h' = (B0, n1) ∧ V n1) := fun V nB n R hL K => by
      have hk := hL.2.1
      refine EV.ofP (by decide +kernel) (Nat.le_of_ble_eq_true rfl) rfl (fun _ G => gX3_clause_0 ?_)
      rw [hk.2.1]
      refine EI.use (s_valueK hL.1 hk.1.1 hj) ?_
      rw [hk.2.1]
      refine EI.use (s_kindK hL.1 hk.1.1 hj) ⟨fun c => absurd hh.1 c, fun _ => EI.use (s_within _ _ _) ?_⟩
      rw [if_pos hh.2]
      refine ⟨fun _ => ⟨by rw [hk.2.1]; exact ⟨by omega, by omega⟩, ?_⟩, fun c => absurd c (by decide)⟩
      have h1 : KS n (upn n 37 2 (n 37 2 + 1)) (j + 1) lf (cAll R) := ⟨hk.1.at, by rw [upn_self, hk.2.1]; omega, by have := hk.2.2; omega⟩
      refine EI.use s_stepsA ?_
      rw [h1.1.2.2.2.1.1]
      exact K G _ h1
    -- the reference, up to its sum
    have mdS : ∀ (V : NM → Prop) (mB n : NM) (R : List CRec), R.length < 12 → LM T L mB n j lf R → (∀ (G : GM) (n3 : NM), LX T L n3 (j + 1) lf (mAll R) → n3 145 15 = (R.length : Int) + 1 → TbM (n3 151) 0 0 R → FrNm n3 mB → n3 151 (8 * (R.length : Int)) = jV T L j → n3 151 (8 * (R.length : Int) + 3) = ((mAll R).length : Int) →
        (Ev w (d + 79) 0 0 mX12_readExpression [vr 145, vi 0] (B0, n3) (fun r h' => ∃ n28 : NM, r = none ∧ h' = (B0, n28) ∧ 
        ((n28 145 14 ≠ 0 →
          Rn w mX12_readClause (d + 80) G (fun r h' => ∃ n1 : NM, r = none ∧ h' = (B0, n1) ∧ V n1) 151 [(0, vr 145), (2, vi (8 * (R.length : Int)))] [] (B0, upn (upn n28 151 (8 * (R.length : Int) + 4) (n28 145 17)) 151 (8 * (R.length : Int) + 5) (n28 145 17))) ∧
        (n28 145 14 = 0 →
          (Ev w (d + 79) 0 0 mX12_isWord [vr 145, vl 294] (B0, upn (upn n28 151 (8 * (R.length : Int) + 4) (n28 145 17)) 151 (8 * (R.length : Int) + 5) (n28 145 17)) (fun r h' => ∃ (x37 : Int) (n36 : NM), r = some (vi x37) ∧ h' = (B0, n36) ∧ 
            ((x37 = 0 →
              Rn w mX12_readClause (d + 80) G (fun r h' => ∃ n1 : NM, r = none ∧ h' = (B0, n1) ∧ V n1) 151 [(0, vr 145), (2, vi (8 * (R.length : Int)))] [] (B0, n36)) ∧
            (x37 ≠ 0 →
              (Ev w (d + 79) 0 0 mX12_next [vr 145] (B0, n36) (fun r h' => ∃ n39 : NM, r = none ∧ h' = (B0, n39) ∧ 
                (Ev w (d + 79) 0 0 mX12_readExpression [vr 145, vi 1] (B0, n39) (fun r h' => ∃ n40 : NM, r = none ∧ h' = (B0, n40) ∧ 
                  Rn w mX12_readClause (d + 80) G (fun r h' => ∃ n1 : NM, r = none ∧ h' = (B0, n1) ∧ V n1) 151 [(0, vr 145), (2, vi (8 * (R.length : Int)))] [] (B0, n40)))))))))))))) →
        Ev w (d + 80) 0 0 mX12_readClause [vr 145] (B0, n) (fun r h' => ∃ n1 : NM, r = none ∧ h' = (B0, n1) ∧ V n1) := fun V mB n R hR hM K => by
      refine EV.ofP (by decide +kernel) (Nat.le_of_ble_eq_true rfl) rfl (fun _ G => gX12_readClause_0 (EI.use (m_headAt (d := d + 78) hM.1.2.1) (fun z hz => ?_)))
      have h15 := hM.2.1
      rw [ehd, if_neg (by omega), if_neg (by omega)] at hz
      subst hz
      refine EV.usP (m_mustLY (d := d + 77) (by decide) hM.1) (fun n1 s => ⟨fun _ => ?_, fun c => absurd s.2.2.2.1.1 c⟩)
      have e15 : n1 145 15 = (R.length : Int) := (s.1 145 15 (by omega)).trans h15
      have fN := FrNm.x s.1 hM.2.2.2
      have t1 : TbM (n1 151) 0 0 R := tbM_congr (fun i _ _ => s.1 151 i (by omega)) hM.2.2.1
      have s2 := s.2
      rw [e15, ehd]
      refine ⟨⟨by omega, by omega⟩, m_zero hR (n0 := n1) (fun n2 f => ?_) 8 0 n1 rfl (by decide) (fun _ _ _ => rfl)⟩
      have hX2 : LX T L n2 (j + 1) lf (mAll R) := s2.fr (fun t x a b => f t x (by omega))
      refine gX12_readClause_46 ⟨fun _ => ⟨by omega, by omega, ?_, ⟨by omega, by omega⟩, by omega, by omega, ?_⟩, fun c => absurd c (by decide)⟩
      · rw [f 145 15 (by omega), e15]
        exact ⟨by omega, by omega⟩
      · have e17 : n2 145 17 = ((mAll R).length : Int) := hX2.2.2.2.2.1
        have kk := K G (upn (upn (upn n2 151 (8 * (R.length : Int)) (jV T L j)) 145 15 (n2 145 15 + 1)) 151 (8 * (R.length : Int) + 3) (n2 145 17)) (hX2.fr (fun t x a b => by rw [upn_ap, if_neg (by omega), upn_ap, if_neg (by omega), upn_ap, if_neg (by omega)])) (by rw [upn_a (by decide), upn_self, f 145 15 (by omega), e15]) (tbM_congr (fun i i0 i1 => by rw [upn_i (by omega), upn_a (by decide), upn_i (by omega), f 151 i (by omega)]) t1) (((FrNm.upd (FrNm.upd (FrNm.upd (fun t x c => (f t x (by omega)).trans (fN t x c)) (by omega)) (by omega)) (by omega)))) (by rw [upn_i (by omega), upn_a (by decide), upn_self]) (by rw [upn_self, e17])
        refine Ev.mono kk (fun r h' y => ?_)
        obtain ⟨n28, y1, y2, y3⟩ := y
        exact ⟨n28, y1, y2, ⟨by omega, by omega⟩, by omega, by omega, ⟨by omega, by omega⟩, by omega, by omega, y3⟩
    have sum1 := (sp_all (w := w) (d := d) hE (iE - (j + 1)) (j + 1) (Nat.le_refl _) (by omega)).2.2.1 lf 0 8 rfl hlf
    rcases sum1 with ⟨q, hq, hF, hM⟩ | ⟨j1, lf1, c1, m1, F1, hj1, hlf1, hG1, _, hnx1, hK1, hM1⟩
    · refine Or.inl ⟨q, hq, fun nB n R hR hL => clS _ nB n R hL (fun G n1 h1 => ?_), fun mB n R hR hL => mdS _ mB n R hR hL (fun G n3 hX h15 ht fN e0 e3 => ?_)⟩
      · refine EV.usP (Ev.deep (by omega) (hF n n1 _ hL.1 h1)) (fun n2 z => EI.use s_stepsA (EI.use (s_takeF (d := d + 78) (z.ne hE hq)) ⟨fun _ => s_clEndF (d := d + 76) z hL.2.2.1 (by have := hL.2.2.2.1; omega) hL.2.2.2.2.2, fun c => absurd rfl c⟩))
      · refine EV.usP (Ev.deep (by omega) ((m_exprS (j' := j) (lf' := lf) (cm := []) hX).1 (hM 1 (Or.inl rfl)))) (fun n28 z => ⟨fun _ => gX12_readClause_151 ⟨⟨by omega, by omega⟩, by omega, by omega, _, rfl, rfl, ⟨?_, ?_, ?_⟩, FrNm.upd (FrNm.upd (FrNm.upd (FrNm.m2 z.2 fN) (by omega)) (by omega)) (by omega)⟩, fun c => absurd (z.1.1.symm.trans c) (by decide)⟩)
        · rw [upn_a (by decide), upn_a (by decide), upn_a (by decide)]
          exact z.1.1
        · rw [upn_a (by decide), upn_a (by decide), upn_a (by decide)]
          exact z.1.2.1
        · rw [upn_a (by decide), upn_a (by decide), upn_a (by decide)]
          exact z.1.2.2
    · -- what the reference has behind its sum
      have mdT : ∀ (mB n3 n28 : NM) (R : List CRec), R.length < 12 → n3 145 15 = (R.length : Int) + 1 → TbM (n3 151) 0 0 R → FrNm n3 mB → n3 151 (8 * (R.length : Int)) = jV T L j → n3 151 (8 * (R.length : Int) + 3) = ((mAll R).length : Int) → LX T L n28 j1 lf1 (mAll R ++ m1) → FrM2 n28 n3 → (LX T L (upn (upn n28 151 (8 * (R.length : Int) + 4) (n28 145 17)) 151 (8 * (R.length : Int) + 5) (n28 145 17)) j1 lf1 (mAll R ++ m1) ∧ FrNm (upn (upn n28 151 (8 * (R.length : Int) + 4) (n28 145 17)) 151 (8 * (R.length : Int) + 5) (n28 145 17)) mB ∧ ∀ n5 : NM, (∀ i : Int, n5 151 i = (upn (upn n28 151 (8 * (R.length : Int) + 4) (n28 145 17)) 151 (8 * (R.length : Int) + 5) (n28 145 17)) 151 i) → n5 145 15 = n28 145 15 → n5 145 15 = (R.length : Int) + 1 ∧ TbM (n5 151) 0 0 R ∧ n5 151 (8 * (R.length : Int)) = jV T L j ∧ n5 151 (8 * (R.length : Int) + 3) = ((mAll R).length : Int) ∧ n5 151 (8 * (R.length : Int) + 4) = ((mAll R).length : Int) + m1.length ∧ n5 151 (8 * (R.length : Int) + 5) = ((mAll R).length : Int) + m1.length) := fun mB n3 n28 R hR h15 ht fN e0 e3 hX f => by
        have e17 := hX.2.2.2.2.1
        rw [List.length_append] at e17
        refine ⟨hX.fr (fun t x a b => by rw [upn_a a, upn_a a]), FrNm.upd (FrNm.upd (FrNm.m2 f fN) (by omega)) (by omega), fun n5 f5 g5 => ⟨?_, tbM_congr (fun i i0 i1 => ?_) ht, ?_, ?_, ?_, ?_⟩⟩
        · rw [g5, f 145 15 (by omega), h15]
        · rw [f5, upn_i (by omega), upn_i (by omega), f 151 i (by omega)]
        · rw [f5, upn_i (by omega), upn_i (by omega), f 151 _ (by omega), e0]
        · rw [f5, upn_i (by omega), upn_i (by omega), f 151 _ (by omega), e3]
        · rw [f5, upn_i (by omega), upn_self]
          omega
        · rw [f5, upn_self]
          omega
      by_cases hif : AtK T L j1 1 15
      · have hj3 : j1 < iE := atK_in hE hj1.2 (by decide) hif
        have clT : ∀ (V : NM → Prop) (nB n : NM) (R : List CRec), LC T L iE nB n j lf R → (∀ (G : GM) (n2 : NM), KS n n2 (j1 + 1) lf1 (cAll R ++ c1) → Ev w (d + 79) 0 0 mX3_test [vr 37, vi 0] (B0, n2) (fun r h' => ∃ n39 : NM, r = none ∧ h' = (B0, n39) ∧ Rn w mX3_clause (d + 80) G (fun r h' => ∃ n1 : NM, r = none ∧ h' = (B0, n1) ∧ V n1) 87 [(0, vr 37), (1, vi (jV T L j)), (2, vi ((cAll R).length : Int)), (3, vi (((cAll R).length : Int) + c1.length))] [] (B0, n39))) → Ev w (d + 80) 0 0 mX3_clause [vr 37] (B0, n) (fun r h' => ∃ n1 : NM, r = none ∧ h' = (B0, n1) ∧ V n1) := fun V nB n R hL K =>
          clS V nB n R hL (fun G n1 h1 => EV.usP (Ev.deep (by omega) (hK1 n n1 _ hL.1 h1)) (fun n2 z => EI.use s_stepsA (EI.usP (s_takeY (d := d + 78) hL.1 z hj3 hif) (fun x n3 y => ⟨fun c => absurd (y.1.symm.trans c) (by decide), fun _ => by
            have e42 := z.1.2.2.2.1.1
            rw [List.length_append] at e42
            rw [e42, show ((((cAll R).length + c1.length : Nat) : Int)) = ((cAll R).length : Int) + c1.length by omega]
            exact K G n3 y.2⟩))))
        have mdW : ∀ (V : NM → Prop) (mB n : NM) (R : List CRec), R.length < 12 → LM T L mB n j lf R → (∀ (G : GM) (n39 : NM), LX T L n39 (j1 + 1) lf1 (mAll R ++ m1) → FrNm n39 mB → (∀ n5 : NM, (∀ i : Int, n5 151 i = n39 151 i) → n5 145 15 = n39 145 15 → n5 145 15 = (R.length : Int) + 1 ∧ TbM (n5 151) 0 0 R ∧ n5 151 (8 * (R.length : Int)) = jV T L j ∧ n5 151 (8 * (R.length : Int) + 3) = ((mAll R).length : Int) ∧ n5 151 (8 * (R.length : Int) + 4) = ((mAll R).length : Int) + m1.length ∧ n5 151 (8 * (R.length : Int) + 5) = ((mAll R).length : Int) + m1.length) → 
            Ev w (d + 79) 0 0 mX12_readExpression [vr 145, vi 1] (B0, n39) (fun r h' => ∃ n40 : NM, r = none ∧ h' = (B0, n40) ∧ Rn w mX12_readClause (d + 80) G (fun r h' => ∃ n1 : NM, r = none ∧ h' = (B0, n1) ∧ V n1) 151 [(0, vr 145), (2, vi (8 * (R.length : Int)))] [] (B0, n40))) → Ev w (d + 80) 0 0 mX12_readClause [vr 145] (B0, n) (fun r h' => ∃ n1 : NM, r = none ∧ h' = (B0, n1) ∧ V n1) := fun V mB n R hR hL K =>
          mdS V mB n R hR hL (fun G n3 hX h15 ht fN e0 e3 => EV.usP (Ev.deep (by omega) ((m_exprS (q := 0) hX).2 hnx1 (hM1 1 (Or.inl rfl)))) (fun n28 z => ⟨fun c => absurd z.1.2.2.1.1 c, fun _ => by
            have t := mdT mB n3 n28 R hR h15 ht fN e0 e3 z.1 z.2
            refine EI.use (m_isWordP t.1.2.1 (p := 15) (by decide) rfl) ?_
            rw [if_pos (show AtK T L j1 1 ((15 : Nat) : Int) from hif)]
            refine ⟨fun c => absurd c (by decide), fun _ => EV.usP (m_nextLX (d := d + 78) t.1) (fun n39 y => K G n39 y.2 (FrNm.x y.1 t.2.1) (fun n5 a b => t.2.2 n5 (fun i => (a i).trans (y.1 151 i (by omega))) ?_))⟩
            rw [b, y.1 145 15 (by omega), upn_a (by decide), upn_a (by decide)]⟩))
        have test1 := (sp_all (w := w) (d := d) hE (iE - (j1 + 1)) (j1 + 1) (Nat.le_refl _) (by omega)).2.2.2.2.2.2 lf1 0 8 rfl hlf1
        rcases test1 with ⟨q, hq, hF, hM⟩ | ⟨j2, lf2, c2, m2, F2, hj22, hlf2, hG2, hT2, hnx2, hK2, hM2⟩
        · refine Or.inl ⟨q, hq, fun nB n R hR hL => clT _ nB n R hL (fun G n2 h2 => EV.usP (Ev.deep (by omega) (hF n n2 _ hL.1 h2)) (fun n3 z => s_clEndF (d := d + 76) z hL.2.2.1 (by have := hL.2.2.2.1; omega) hL.2.2.2.2.2)), fun mB n R hR hL => mdW _ mB n R hR hL (fun G n39 hX fN g => EV.usP (Ev.deep (by omega) ((m_exprT (j' := j) (lf' := lf) (cm := []) hX).1 (hM 0 rfl))) (fun n40 z => gX12_readClause_151 ⟨⟨by omega, by omega⟩, by omega, by omega, _, rfl, rfl, ⟨?_, ?_, ?_⟩, FrNm.upd (FrNm.m2 z.2 fN) (by omega)⟩))⟩
          · rw [upn_a (by decide)]
            exact z.1.1
          · rw [upn_a (by decide)]
            exact z.1.2.1
          · rw [upn_a (by decide)]
            exact z.1.2.2
        · refine Or.inr ⟨j2, lf2, (jV T L j, c1, m1, c2, m2), ⟨by omega, hj22.2⟩, hlf2, ⟨hh.2, ⟨F1, _, _, hG1⟩, Or.inr ⟨F2, _, _, hG2, hT2 trivial⟩⟩, ?_, fun nB n R hR hL => clT _ nB n R hL (fun G n2 h2 => EV.usP (Ev.deep (by omega) (hK2 n n2 _ hL.1 h2)) (fun n3 z => ?_)), fun mB n R hR hL => mdW _ mB n R hR hL (fun G n39 hX fN g => EV.usP (Ev.deep (by omega) ((m_exprT (q := 0) hX).2 hnx2 (hM2 0 rfl))) (fun n40 z => ?_))⟩
          · have a := hG1.2.2.2.2.1
            have b := hG2.2.2.2.2.1
            show pcn (c1 ++ c2) + (lf : Int) = lf2
            rw [pcn_app]
            omega
          · rw [List.append_assoc] at z
            exact s_clEnd (d := d + 76) (r := (jV T L j, c1, m1, c2, m2)) hL.1 z hL.2.2.1 hL.2.2.2.1 hR hL.2.2.2.2.1 hL.2.2.2.2.2
          · have z1 := z.1
            rw [List.append_assoc] at z1
            have g2 := g n40 (fun i => z.2 151 i (by omega)) (z.2 145 15 (by omega))
            exact m_clEnd (r := (jV T L j, c1, m1, c2, m2)) z1 hR g2.1 g2.2.1 (FrNm.m2 z.2 fN) g2.2.2.1 g2.2.2.2.1 g2.2.2.2.2.1 g2.2.2.2.2.2
      · refine Or.inr ⟨j1, lf1, (jV T L j, c1, m1, [], []), ⟨by omega, hj1.2⟩, hlf1, ⟨hh.2, ⟨F1, _, _, hG1⟩, Or.inl ⟨rfl, rfl⟩⟩, ?_, fun nB n R hR hL => clS _ nB n R hL (fun G n1 h1 => EV.usP (Ev.deep (by omega) (hK1 n n1 _ hL.1 h1)) (fun n2 z => EI.use s_stepsA (EI.use (s_takeN (d := d + 78) hL.1 z hj1.2 hif) ⟨fun _ => ?_, fun c => absurd rfl c⟩))), fun mB n R hR hL => mdS _ mB n R hR hL (fun G n3 hX h15 ht fN e0 e3 => EV.usP (Ev.deep (by omega) ((m_exprS (q := 0) hX).2 hnx1 (hM1 1 (Or.inl rfl)))) (fun n28 z => ⟨fun c => absurd z.1.2.2.1.1 c, fun _ => ?_⟩))⟩
        · have a := hG1.2.2.2.2.1
          show pcn (c1 ++ []) + (lf : Int) = lf1
          rw [List.append_nil]
          exact a
        · have e42 := z.1.2.2.2.1.1
          rw [List.length_append] at e42
          rw [e42, show ((((cAll R).length + c1.length : Nat) : Int)) = ((cAll R).length : Int) + c1.length by omega]
          exact s_clEnd (d := d + 76) (r := (jV T L j, c1, m1, [], [])) hL.1 (by rw [List.append_nil]; exact z) hL.2.2.1 hL.2.2.2.1 hR hL.2.2.2.2.1 hL.2.2.2.2.2
        · have t := mdT mB n3 n28 R hR h15 ht fN e0 e3 z.1 z.2
          have g2 := t.2.2 _ (fun i => rfl) (by rw [upn_a (by decide), upn_a (by decide)])
          refine EI.use (m_isWordP t.1.2.1 (p := 15) (by decide) rfl) ?_
          rw [if_neg (show ¬ AtK T L j1 1 ((15 : Nat) : Int) from hif)]
          exact ⟨fun _ => m_clEnd (r := (jV T L j, c1, m1, [], [])) (by rw [List.append_nil]; exact t.1) hR g2.1 g2.2.1 t.2.1 g2.2.2.1 g2.2.2.2.1 g2.2.2.2.2.1 g2.2.2.2.2.2, fun c => absurd rfl c⟩
  · refine Or.inl ⟨j, hj, fun nB n R hR hL => ?_, fun mB n R hR hL => ?_⟩
    · have hk := hL.2.1
      have fl : ∀ G : GM, Ev w (d + 79) 0 0 mX3_fail [vr 37] (B0, n) (fun r h' => ∃ n26 : NM, r = none ∧ h' = (B0, n26) ∧ ∃ n1 : NM, (none : Option AV) = none ∧ ((B0, n26) : Hp) = (B0, n1) ∧ LF T L nB n1 j) := fun G => EV.usP (s_failK (d := d + 78) hL.1 hk.1 hj hk.2.1) (fun n1 z => ⟨n1, rfl, rfl, z.2.1, hL.2.2.1.congr (z.1 45 (by omega)), FrL.ofC z.1 hL.2.2.2.2.2⟩)
      refine EV.ofP (by decide +kernel) (Nat.le_of_ble_eq_true rfl) rfl (fun _ G => gX3_clause_0 ?_)
      rw [hk.2.1]
      refine EI.use (s_valueK hL.1 hk.1.1 hj) ?_
      rw [hk.2.1]
      refine EI.use (s_kindK hL.1 hk.1.1 hj) ⟨fun c => fl G, fun c => EI.use (s_within _ _ _) (ite10 (fun c2 => absurd ⟨c, c2⟩ hh) (fun _ => fl G))⟩
    · have ehd : hdV T L j = -1 := by
        unfold hdV
        rw [if_neg hh]
      refine EV.ofP (by decide +kernel) (Nat.le_of_ble_eq_true rfl) rfl (fun _ G => gX12_readClause_0 (EI.use (m_headAt (d := d + 78) hL.1.2.1) (fun z hz => ?_)))
      rw [ehd, if_pos rfl] at hz
      subst hz
      exact EV.usP (m_mustLN (d := d + 77) hL.1) (fun n1 s => ⟨fun c => absurd (s.1.1.symm.trans c) (by decide), fun _ => ⟨n1, rfl, rfl, s.1, FrNm.m2 s.2 hL.2.2.2⟩⟩)
end PCLAUSE
