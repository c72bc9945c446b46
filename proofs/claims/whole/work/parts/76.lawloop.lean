section PLAW
variable {w : WD} {d : Nat} {n : NM} {T : Int → Int} {L : Int} {iE : Nat}
theorem s_kindA (x : Int) : ∃ v : Int, EI w d mX9_kindOf [vr 38, vi x] B0 n v n := by
  by_cases a : x < 0
  · exact ⟨0, EI.of (by decide +kernel) (Nat.le_of_ble_eq_true rfl) rfl (fun _ G => gX9_kindOf_0 ⟨fun _ => ⟨rfl, rfl⟩, fun c => absurd c (by omega)⟩)⟩
  · by_cases b : n 38 3 ≤ x
    · exact ⟨0, EI.of (by decide +kernel) (Nat.le_of_ble_eq_true rfl) rfl (fun _ G => gX9_kindOf_0 ⟨fun c => absurd c a, fun _ => ⟨fun _ => ⟨rfl, rfl⟩, fun c => absurd c (by omega)⟩⟩)⟩
    · by_cases e : 401 ≤ x
      · exact ⟨0, EI.of (by decide +kernel) (Nat.le_of_ble_eq_true rfl) rfl (fun _ G => gX9_kindOf_0 ⟨fun c => absurd c a, fun _ => ⟨fun c => absurd c b, fun _ => ⟨fun _ => ⟨rfl, rfl⟩, fun c => absurd c (by omega)⟩⟩⟩)⟩
      · exact ⟨n 39 x, EI.of (by decide +kernel) (Nat.le_of_ble_eq_true rfl) rfl (fun _ G => gX9_kindOf_0 ⟨fun c => absurd c a, fun _ => ⟨fun c => absurd c b, fun _ => ⟨fun c => absurd c e, fun _ => ⟨by omega, by omega, rfl, rfl⟩⟩⟩⟩)⟩
theorem read_F {G : GM} {Q : Option AV → Hp → Prop} {x2 : Int} (h : n 37 4 ≠ -1) (q : Q none (B0, n)) : Rn w mX3_read (d + 2) G Q 36 [(0, vr 37), (2, vi x2)] [] (B0, n) := by
  have f62 : Rn w mX3_read (d + 2) G Q 62 [(0, vr 37)] [] (B0, n) := by
    obtain ⟨v, hv⟩ := s_kindA (w := w) (d := d + 1) (n := n) (n 37 2)
    exact gX3_read_62 (EI.use hv ⟨fun _ => q, fun _ => EI.use (s_takeF h) (EV.use (s_failF h) q)⟩)
  exact gX3_read_36 ⟨fun _ => f62, fun _ => EI.use (s_takeF h) ⟨fun _ => f62, fun c => absurd rfl c⟩⟩
def SpLp (w : WD) (d : Nat) (T : Int → Int) (L : Int) (iE N j lf : Nat) : Prop :=
  (∃ q : Nat, q ≤ iE ∧ (∀ (nB n : NM) (R : List CRec) (G : GM) (Q : Option AV → Hp → Prop), R.length = N → LC T L iE nB n j lf R → (∀ n1, LF T L nB n1 q → Q none (B0, n1)) → Rn w mX3_read (d + 81) G Q 36 [(0, vr 37), (2, vi (N : Int))] [] (B0, n)) ∧
    ∀ (mB n : NM) (R : List CRec) (G : GM) (Q : Option AV → Hp → Prop), R.length = N → LM T L mB n j lf R → (∀ n1, LMF T L mB n1 q → Rn w mX12_law (d + 81) G Q 74 [(0, vr 145)] [] (B0, n1)) → Rn w mX12_law (d + 81) G Q 28 [(0, vr 145)] [] (B0, n)) ∨
  (∃ (lf' : Nat) (RS : List CRec), (∀ r, r ∈ RS → CROk r) ∧ N + RS.length ≤ 12 ∧ lf' ≤ 50 ∧ pcn (cAll RS) + (lf : Int) = lf' ∧ ∃ j' : Nat, (∀ (nB n : NM) (R : List CRec) (G : GM) (Q : Option AV → Hp → Prop), R.length = N → LC T L iE nB n j lf R → (∀ n1, LC T L iE nB n1 j' lf' (R ++ RS) → Q none (B0, n1)) → Rn w mX3_read (d + 81) G Q 36 [(0, vr 37), (2, vi (N : Int))] [] (B0, n)) ∧
    ∀ (mB n : NM) (R : List CRec) (G : GM) (Q : Option AV → Hp → Prop), R.length = N → LM T L mB n j lf R → (∀ n1, LM T L mB n1 j' lf' (R ++ RS) → Rn w mX12_law (d + 81) G Q 74 [(0, vr 145)] [] (B0, n1)) → Rn w mX12_law (d + 81) G Q 28 [(0, vr 145)] [] (B0, n))
theorem LF.ne {nB : NM} {q : Nat} (hE : TkE T L iE) (hq : q ≤ iE) (h : LF T L nB n q) : n 37 4 ≠ -1 := by
  have := jS_le hE hq
  have := h.1
  omega
theorem LF.of {nB n0 : NM} {q j lf : Nat} {R : List CRec} (hL : LC T L iE nB n0 j lf R) (z : KF T L n0 n q) : LF T L nB n q := ⟨z.2.1, hL.2.2.1.congr (z.1 45 (by omega)), FrL.ofC z.1 hL.2.2.2.2.2⟩
theorem lawM_F {mB : NM} {q : Nat} {G : GM} {Q : Option AV → Hp → Prop} (h : LMF T L mB n q) (k : Rn w mX12_law (d + 1) G Q 74 [(0, vr 145)] [] (B0, n)) : Rn w mX12_law (d + 1) G Q 28 [(0, vr 145)] [] (B0, n) :=
  gX12_law_28 ⟨fun _ => gX12_law_55 ⟨fun _ => k, fun c => absurd (h.1.1.symm.trans c) (by decide)⟩, fun c => absurd (h.1.1.symm.trans c) (by decide)⟩
theorem sp_loop (hE : TkE T L iE) : ∀ (f N j lf : Nat), 12 - N ≤ f → 1 ≤ N → N ≤ 12 → j ≤ iE → lf ≤ 50 → SpLp w d T L iE N j lf := by
  have h400 : (iE : Int) ≤ 400 := by have := hE.2.1; have := hE.2.2.2; omega
  have noS : ∀ N j lf : Nat, N ≤ 12 → j ≤ iE → lf ≤ 50 → ¬ AtK T L j 3 59 → SpLp w d T L iE N j lf := fun N j lf hN hj hlf no => by
    have c62 : ∀ (nB n : NM) (R : List CRec) (G : GM) (Q : Option AV → Hp → Prop), LC T L iE nB n j lf R → Rn w mX3_read (d + 81) G Q 62 [(0, vr 37)] [] (B0, n) → Rn w mX3_read (d + 81) G Q 36 [(0, vr 37), (2, vi (N : Int))] [] (B0, n) := fun nB n R G Q hL k =>
      gX3_read_36 ⟨fun _ => k, fun _ => EI.use (s_takeN (d := d + 79) hL.1 hL.2.1 hj no) ⟨fun _ => k, fun c => absurd rfl c⟩⟩
    have m28 : ∀ (mB n : NM) (R : List CRec) (G : GM) (Q : Option AV → Hp → Prop), LM T L mB n j lf R → Rn w mX12_law (d + 81) G Q 55 [(0, vr 145)] [] (B0, n) → Rn w mX12_law (d + 81) G Q 28 [(0, vr 145)] [] (B0, n) := fun mB n R G Q hM k => by
      refine gX12_law_28 ⟨fun c => absurd hM.1.2.2.1.1 c, fun _ => EI.use (m_isSignK hM.1.2.1 59) ?_⟩
      rw [if_neg no]
      exact ⟨fun _ => k, fun c => absurd rfl c⟩
    by_cases hK : jK T L j = 0
    · refine Or.inr ⟨lf, [], fun r hr => absurd hr (List.not_mem_nil), hN, hlf, Int.zero_add _, j, fun nB n R G Q hR hL k => c62 nB n R G Q hL (gX3_read_62 ?_), fun mB n R G Q hR hM k => m28 mB n R G Q hM (gX12_law_55 ⟨fun c => absurd hM.1.2.2.1.1 c, fun _ => ⟨fun _ => k n (by rw [List.append_nil]; exact hM), fun c => ?_⟩⟩)⟩
      · rw [hL.2.1.2.1]
        refine EI.use (s_kindK (d := d + 80) hL.1 hL.2.1.1.1 hj) ⟨fun _ => k n (by rw [List.append_nil]; exact hL), fun c => absurd hK c⟩
      · exact absurd (hM.1.2.1.2.2.1.trans hK) c
    · refine Or.inl ⟨j, hj, fun nB n R G Q hR hL k => c62 nB n R G Q hL (gX3_read_62 ?_), fun mB n R G Q hR hM k => m28 mB n R G Q hM (gX12_law_55 ⟨fun c => absurd hM.1.2.2.1.1 c, fun _ => ⟨fun c => absurd (hM.1.2.1.2.2.1.symm.trans c) hK, fun _ => EV.usP (m_mustLN (d := d + 78) hM.1) (fun n1 s => k n1 ⟨s.1, FrNm.m2 s.2 hM.2.2.2⟩)⟩⟩)⟩
      rw [hL.2.1.2.1]
      exact EI.use (s_kindK (d := d + 80) hL.1 hL.2.1.1.1 hj) ⟨fun c => absurd c hK, fun _ => EI.use (s_takeN (d := d + 79) hL.1 hL.2.1 hj no) (EV.usP (s_failK (d := d + 79) hL.1 hL.2.1.1 hj hL.2.1.2.1) (fun n1 z => k n1 (LF.of hL z)))⟩
  intro f
  induction f with
  | zero =>
    intro N j lf hf h1 h12 hj hlf
    by_cases a : AtK T L j 3 59
    · have hj2 : j < iE := atK_in hE hj (by decide) a
      have hN : N = 12 := by omega
      subst hN
      refine Or.inl ⟨j + 1, by omega, fun nB n R G Q hR hL k => gX3_read_36 ⟨fun _ => gX3_read_62 ?_, fun c => absurd c (by decide)⟩, fun mB n R G Q hR hM k => ?_⟩
      · rw [hL.2.1.2.1]
        refine EI.use (s_kindK (d := d + 80) hL.1 hL.2.1.1.1 hj) ⟨fun c => absurd (a.1.symm.trans c) (by decide), fun _ => EI.usP (s_takeY (d := d + 79) hL.1 hL.2.1 hj2 a) (fun x n1 y => EV.usP (s_failK (d := d + 79) hL.1 y.2.1 (by omega) y.2.2.1) (fun n2 z => k n2 (LF.of hL z)))⟩
      · refine gX12_law_28 ⟨fun c => absurd hM.1.2.2.1.1 c, fun _ => EI.use (m_isSignK hM.1.2.1 59) ?_⟩
        rw [if_pos a]
        refine ⟨fun c => absurd c (by decide), fun _ => EV.usP (m_nextLX (d := d + 79) hM.1) (fun n1 y => ?_)⟩
        have cl : Ev w (d + 80) 0 0 mX12_readClause [vr 145] (B0, n1) (fun r h' => ∃ n2 : NM, r = none ∧ h' = (B0, n2) ∧ LMF T L mB n2 (j + 1)) := by
          refine EV.ofP (by decide +kernel) (Nat.le_of_ble_eq_true rfl) rfl (fun _ G => gX12_readClause_0 (EI.use (m_headAt (d := d + 78) y.2.2.1) (fun z hz => ?_)))
          have e15 : n1 145 15 = 12 := by
            rw [y.1 145 15 (by omega), hM.2.1, hR]
            rfl
          have hz0 : z = 0 := by
            rw [hz]
            by_cases c : hdV T L (j + 1) = -1
            · rw [if_pos c]
            · rw [if_neg c, if_pos (by omega)]
          subst hz0
          exact EV.usP (m_mustLN (d := d + 77) y.2) (fun n2 s => ⟨fun c => absurd (s.1.1.symm.trans c) (by decide), fun _ => ⟨n2, rfl, rfl, s.1, FrNm.m2 s.2 (FrNm.x y.1 hM.2.2.2)⟩⟩)
        exact EV.usP cl (fun n2 s => lawM_F s (k n2 s))
    · exact noS N j lf h12 hj hlf a
  | succ f ih =>
    intro N j lf hf h1 h12 hj hlf
    by_cases h12' : N = 12
    · exact ih N j lf (by omega) h1 h12 hj hlf
    by_cases a : AtK T L j 3 59
    · have hj2 : j < iE := atK_in hE hj (by decide) a
      have clS : ∀ (V : NM → Prop) (nB n : NM) (R : List CRec) (G : GM) (Q : Option AV → Hp → Prop), LC T L iE nB n j lf R → (∀ n1, LC T L iE nB n1 (j + 1) lf R → Ev w (d + 80) 0 0 mX3_clause [vr 37] (B0, n1) (fun r h' => ∃ n1 : NM, r = none ∧ h' = (B0, n1) ∧ V n1)) → (∀ n1, V n1 → Rn w mX3_read (d + 81) G Q 36 [(0, vr 37), (2, vi ((N : Int) + 1))] [] (B0, n1)) → Rn w mX3_read (d + 81) G Q 36 [(0, vr 37), (2, vi (N : Int))] [] (B0, n) := fun V nB n R G Q hL E K =>
        gX3_read_36 ⟨fun c => by omega, fun _ => EI.usP (s_takeY (d := d + 79) hL.1 hL.2.1 hj2 a) (fun x n1 y => ⟨fun c => absurd (y.1.symm.trans c) (by decide), fun _ => EV.usP (E n1 ⟨hL.1.fr (fun t a b => y.2.1.1 t (by omega)), y.2.self, hL.2.2.1.congr (y.2.1.1 45 (by omega)), by rw [y.2.1.1 45 (by omega)]; exact hL.2.2.2.1, by rw [y.2.1.1 46 (by omega)]; exact hL.2.2.2.2.1, FrL.ofC y.2.1.1 hL.2.2.2.2.2⟩) (fun n2 z => ⟨⟨by omega, by omega⟩, K n2 z⟩)⟩)⟩
      have mdS : ∀ (V : NM → Prop) (mB n : NM) (R : List CRec) (G : GM) (Q : Option AV → Hp → Prop), LM T L mB n j lf R → (∀ n1, LM T L mB n1 (j + 1) lf R → Ev w (d + 80) 0 0 mX12_readClause [vr 145] (B0, n1) (fun r h' => ∃ n1 : NM, r = none ∧ h' = (B0, n1) ∧ V n1)) → (∀ n1, V n1 → Rn w mX12_law (d + 81) G Q 28 [(0, vr 145)] [] (B0, n1)) → Rn w mX12_law (d + 81) G Q 28 [(0, vr 145)] [] (B0, n) := fun V mB n R G Q hM E K => by
        refine gX12_law_28 ⟨fun c => absurd hM.1.2.2.1.1 c, fun _ => EI.use (m_isSignK hM.1.2.1 59) ?_⟩
        rw [if_pos a]
        exact ⟨fun c => absurd c (by decide), fun _ => EV.usP (m_nextLX (d := d + 79) hM.1) (fun n1 y => EV.usP (E n1 ⟨y.2, (y.1 145 15 (by omega)).trans hM.2.1, tbM_congr (fun i _ _ => y.1 151 i (by omega)) hM.2.2.1, FrNm.x y.1 hM.2.2.2⟩) K)⟩
      rcases sp_clause (w := w) (d := d) hE (j := j + 1) (by omega) hlf with ⟨q, hq, hF, hM⟩ | ⟨j1, lf1, r, hj1, hlf1, hr, hp, hK, hM⟩
      · exact Or.inl ⟨q, hq, fun nB n R G Q hR hL k => clS _ nB n R G Q hL (fun n1 h1 => hF nB n1 R (by omega) h1) (fun n1 z => read_F (d := d + 79) (z.ne hE hq) (k n1 z)), fun mB n R G Q hR hL k => mdS _ mB n R G Q hL (fun n1 h1 => hM mB n1 R (by omega) h1) (fun n1 z => lawM_F z (k n1 z))⟩
      · have cast : ((N + 1 : Nat) : Int) = (N : Int) + 1 := by omega
        rcases ih (N + 1) j1 lf1 (by omega) (by omega) (by omega) hj1.2 hlf1 with ⟨q, hq, hF2, hM2⟩ | ⟨lf2, RS, hok, hlen, hlf2, hp2, j2, hK2, hM2⟩
        · rw [cast] at hF2
          exact Or.inl ⟨q, hq, fun nB n R G Q hR hL k => clS _ nB n R G Q hL (fun n1 h1 => hK nB n1 R (by omega) h1) (fun n1 z => hF2 nB n1 _ G Q (by rw [List.length_append, List.length_singleton]; omega) z k), fun mB n R G Q hR hL k => mdS _ mB n R G Q hL (fun n1 h1 => hM mB n1 R (by omega) h1) (fun n1 z => hM2 mB n1 _ G Q (by rw [List.length_append, List.length_singleton]; omega) z k)⟩
        · rw [cast] at hK2
          refine Or.inr ⟨lf2, r :: RS, fun s hs => ?_, by rw [List.length_cons]; omega, hlf2, ?_, j2, fun nB n R G Q hR hL k => clS _ nB n R G Q hL (fun n1 h1 => hK nB n1 R (by omega) h1) (fun n1 z => hK2 nB n1 _ G Q (by rw [List.length_append, List.length_singleton]; omega) z (fun n2 y => k n2 (by rw [List.append_assoc] at y; exact y))), fun mB n R G Q hR hL k => mdS _ mB n R G Q hL (fun n1 h1 => hM mB n1 R (by omega) h1) (fun n1 z => hM2 mB n1 _ G Q (by rw [List.length_append, List.length_singleton]; omega) z (fun n2 y => k n2 (by rw [List.append_assoc] at y; exact y)))⟩
          · rcases List.mem_cons.mp hs with e | e
            · rw [e]
              exact hr
            · exact hok s e
          · show pcn ((r.2.1 ++ r.2.2.2.1) ++ cAll RS) + (lf : Int) = lf2
            rw [pcn_app]
            omega
    · exact noS N j lf h12 hj hlf a
/-- there is an end -/
theorem tkE_ex (hL : 0 ≤ L ∧ L ≤ 400) : ∃ iE : Nat, TkE T L iE := by
  have key : ∀ m : Nat, (∃ i : Nat, tkS T L i = L ∧ ∀ j : Nat, j < i → tkS T L j < L) ∨ ∀ j : Nat, j < m → tkS T L j < L := fun m => by
    induction m with
    | zero => exact Or.inr (fun j hj => by omega)
    | succ m ih =>
      rcases ih with ih | ih
      · exact Or.inl ih
      · by_cases c : tkS T L m < L
        · refine Or.inr (fun j hj => ?_)
          by_cases e : j = m
          · rw [e]
            exact c
          · exact ih j (by omega)
        · have := (tkS_le (T := T) hL.1 m).1.1
          exact Or.inl ⟨m, by omega, ih⟩
  rcases key (L.toNat + 1) with ⟨i, h1, h2⟩ | h
  · refine ⟨i, h1, ?_, h2, hL⟩
    by_cases c : i = 0
    · omega
    · have a := h2 (i - 1) (by omega)
      have b := (tkS_le (T := T) hL.1 (i - 1)).2.1 a
      omega
  · have a := h L.toNat (by omega)
    have b := (tkS_le (T := T) hL.1 L.toNat).2.1 a
    omega
theorem tkE_un {i1 i2 : Nat} (h1 : tkS T L i1 = L ∧ ∀ j : Nat, j < i1 → tkS T L j < L) (h2 : tkS T L i2 = L ∧ ∀ j : Nat, j < i2 → tkS T L j < L) : i1 = i2 := by
  by_cases a : i1 < i2
  · have := h2.2 i1 a
    omega
  · by_cases b : i2 < i1
    · have := h1.2 i2 b
      omega
    · omega
/-- the class before its first clause -/
def LC0 (nB n : NM) : Prop := FrL n nB
theorem s_fillCl (hT : TW n 45 4 12) : EV w (d + 3) mX7_fill [vr 45, vi 0, vi 0] B0 n (wrow (upn n 45 3 0) 46 0 48 (fun _ => 0)) := by
  have fa : EV w (d + 2) mJ7_fill_53178 [vr 46, vi 0] B0 (upn n 45 3 0) (wrow (upn n 45 3 0) 46 0 48 (fun _ => 0)) := by
    refine EV.of (by decide +kernel) (Nat.le_of_ble_eq_true rfl) rfl (fun _ G => gJ7_fill_53178_0 ob_46 ⟨⟨by decide, by decide⟩, ?_⟩)
    have := s_fillL (w := w) (d := d + 2) (G := G) (n := upn n 45 3 0) (x := 0) ob_46 (by decide) 48 0 rfl
    rw [show wrow (upn n 45 3 0) 46 0 ((0 : Nat) : Int) (fun _ => 0) = upn n 45 3 0 from wrow_0] at this
    exact this
  refine EV.of (by decide +kernel) (Nat.le_of_ble_eq_true rfl) rfl (fun _ G => gX7_fill_0 ob_45 (c := 46) rfl ob_46 ?_)
  rw [show max 0 (min 0 (n 45 2)) = 0 by have := hT.2.1; omega]
  exact EV.use fa ⟨rfl, rfl⟩
/-- the whole text, on both sides -/
def SpLaw (w : WD) (d : Nat) (T : Int → Int) (L : Int) : Prop :=
  (∃ q : Int, (0 ≤ q ∧ q ≤ 400) ∧ (∀ n : NM, TpC n T L → TW n 45 4 12 → Ev w (d + 81) 0 0 mX3_read [vr 37, vr 35] (B0, n) (fun r h' => ∃ n1 : NM, r = none ∧ h' = (B0, n1) ∧ n1 37 4 = q ∧ TW n1 45 4 12 ∧ FrL n1 n)) ∧
    ∀ (n : NM) (G : GM) (Q : Option AV → Hp → Prop), TpM n T L → (∀ n1, n1 145 14 = 1 → n1 145 13 = q → FrNm n1 (upn n 145 0 0) → Rn w mX12_law (d + 81) G Q 74 [(0, vr 145)] [] (B0, n1)) → Rn w mX12_law (d + 81) G Q 0 [(0, vr 145)] [] (B0, n)) ∨
  (∃ (R : List CRec) (lf : Nat), (∀ r, r ∈ R → CROk r) ∧ R.length ≤ 12 ∧ lf ≤ 50 ∧ pcn (cAll R) = (lf : Int) ∧ (∀ n : NM, TpC n T L → TW n 45 4 12 → Ev w (d + 81) 0 0 mX3_read [vr 37, vr 35] (B0, n) (fun r h' => ∃ n1 : NM, r = none ∧ h' = (B0, n1) ∧ n1 37 4 = -1 ∧ (n1 42 2 = ((cAll R).length : Int) ∧ (cAll R).length ≤ 400) ∧ EmbC (n1 43) (n1 44) 0 (cAll R) ∧ TW n1 45 4 12 ∧ n1 45 3 = (R.length : Int) ∧ TbC (n1 46) 0 0 R ∧ FrL n1 n)) ∧
    ∀ (n : NM) (G : GM) (Q : Option AV → Hp → Prop), TpM n T L → (∀ n1, n1 145 14 = 0 → n1 145 13 = -1 → n1 145 15 = (R.length : Int) → (n1 145 17 = ((mAll R).length : Int) ∧ (mAll R).length ≤ 400) → EmbM (n1 152) (n1 153) 0 (mAll R) → TbM (n1 151) 0 0 R → FrNm n1 (upn n 145 0 0) → Rn w mX12_law (d + 81) G Q 74 [(0, vr 145)] [] (B0, n1)) → Rn w mX12_law (d + 81) G Q 0 [(0, vr 145)] [] (B0, n))
theorem sp_law (hL : 0 ≤ L ∧ L ≤ 400) : SpLaw w d T L := by
  obtain ⟨iE, hE⟩ := tkE_ex (T := T) hL
  have clS : ∀ (V W : NM → Prop) (n : NM), TpC n T L → TW n 45 4 12 → (∀ n1, LC T L iE n n1 0 0 [] → Ev w (d + 80) 0 0 mX3_clause [vr 37] (B0, n1) (fun r h' => ∃ n1 : NM, r = none ∧ h' = (B0, n1) ∧ V n1)) → (∀ (G : GM) (n1 : NM), V n1 → Rn w mX3_read (d + 81) G (fun r h' => ∃ n1 : NM, r = none ∧ h' = (B0, n1) ∧ W n1) 36 [(0, vr 37), (2, vi 1)] [] (B0, n1)) → Ev w (d + 81) 0 0 mX3_read [vr 37, vr 35] (B0, n) (fun r h' => ∃ n1 : NM, r = none ∧ h' = (B0, n1) ∧ W n1) := fun V W n hT hW E K => by
    refine EV.ofP (by decide +kernel) (Nat.le_of_ble_eq_true rfl) rfl (fun _ G => gX3_read_0 (EV.usP (s_cut (d := d + 73) hT) (fun n1 z => ?_)))
    obtain ⟨fK, iE2, tk⟩ := z
    have ei : iE2 = iE := tkE_un ⟨tk.2.1, tk.2.2.2⟩ ⟨hE.1, hE.2.2.1⟩
    subst ei
    have hW1 : TW n1 45 4 12 := hW.congr (fK 45 (by omega))
    have cl : EV w (d + 80) mX2_clear [vr 42] B0 n1 (wrow (upn (upn n1 42 2 0) 45 3 0) 46 0 48 (fun _ => 0)) :=
      EV.of (by decide +kernel) (Nat.le_of_ble_eq_true rfl) rfl (fun _ G => gX2_clear_0 ob_42 (k := 43) (v := 44) (t := 45) rfl rfl rfl ob_43 ob_44 ob_45 (EV.use (s_fillCl (d := d + 76) (hW1.congr (upn_ne (by decide)))) ⟨rfl, rfl⟩))
    refine EV.use cl (EV.usP (E _ ⟨⟨?_, hE⟩, ⟨⟨fun _ _ => rfl, ?_, ?_, ⟨?_, Nat.zero_le _⟩, trivial⟩, ?_, Nat.le_refl _⟩, ?_, ?_, trivial, fun t c => ?_⟩) (fun n2 z => K G n2 z))
    · have f : ∀ t : Nat, 37 < t → t < 42 → (upn (upn (upn (wrow (upn (upn n1 42 2 0) 45 3 0) 46 0 48 (fun _ => 0)) 37 2 0) 37 3 0) 37 4 (-1)) t = n1 t := fun t a b => by
        rw [upn_ne (by omega), upn_ne (by omega), upn_ne (by omega), wrow_ne (by omega), upn_ne (by omega), upn_ne (by omega)]
      refine ⟨?_, fun i hi => ?_⟩
      · rw [f 38 (by omega) (by omega)]
        exact tk.1.1
      · rw [f 39 (by omega) (by omega), f 40 (by omega) (by omega), f 41 (by omega) (by omega)]
        exact tk.1.2 i hi
    · rw [upn_i (by decide), upn_self]
      exact ⟨rfl, by decide⟩
    · rw [upn_self]
    · rw [upn_a (by decide), upn_a (by decide), upn_a (by decide), wrow_a (by decide), upn_a (by decide), upn_self]
      rfl
    · rw [upn_i (by decide), upn_i (by decide), upn_self]
      rfl
    · have e : ∀ j : Int, j ≠ 3 → (upn (upn (upn (wrow (upn (upn n1 42 2 0) 45 3 0) 46 0 48 (fun _ => 0)) 37 2 0) 37 3 0) 37 4 (-1)) 45 j = n1 45 j := fun j c => by
        rw [upn_a (by decide), upn_a (by decide), upn_a (by decide), wrow_a (by decide), upn_i c, upn_a (by decide)]
      have e3 : (upn (upn (upn (wrow (upn (upn n1 42 2 0) 45 3 0) 46 0 48 (fun _ => 0)) 37 2 0) 37 3 0) 37 4 (-1)) 45 3 = 0 := by
        rw [upn_a (by decide), upn_a (by decide), upn_a (by decide), wrow_a (by decide), upn_self]
      exact ⟨(e 1 (by decide)).trans hW1.1, (e 2 (by decide)).trans hW1.2.1, by rw [e3]; decide, by rw [e3]; decide⟩
    · rw [upn_ne (by decide), upn_ne (by decide), upn_ne (by decide), wrow_ne (by decide), upn_self]
      rfl
    · rw [upn_ne (by omega), upn_ne (by omega), upn_ne (by omega), wrow_ne (by omega), upn_ne (by omega), upn_ne (by omega), fK t (by omega)]
  have mdS : ∀ (V : NM → Prop) (n : NM) (G : GM) (Q : Option AV → Hp → Prop), TpM n T L → (∀ n1, LM T L (upn n 145 0 0) n1 0 0 [] → Ev w (d + 80) 0 0 mX12_readClause [vr 145] (B0, n1) (fun r h' => ∃ n1 : NM, r = none ∧ h' = (B0, n1) ∧ V n1)) → (∀ n1, V n1 → Rn w mX12_law (d + 81) G Q 28 [(0, vr 145)] [] (B0, n1)) → Rn w mX12_law (d + 81) G Q 0 [(0, vr 145)] [] (B0, n) := fun V n G Q hT E K => by
    have hT2 : TpM (upn n 145 0 0) T L := ⟨hT.1, by rw [upn_i (by decide)]; exact hT.2.1, fun i a b => by rw [upn_a (by decide)]; exact hT.2.2.1 i a b, hT.2.2.2⟩
    refine gX12_law_0 (EV.usP (m_begin (d := d + 78) hT2) (fun n1 z => EV.usP (E _ ⟨⟨⟨hT.1, ?_, fun i a b => ?_, hT.2.2.2⟩, z.2.fr (fun x a b => ?_), ⟨?_, ?_⟩, ?_, ?_, ⟨Nat.le_refl _, Nat.zero_le _⟩, trivial⟩, ?_, trivial, fun t x c => ?_⟩) K))
    · rw [upn_i (by decide), upn_i (by decide), upn_i (by decide), z.1 145 8 (by omega), upn_i (by decide), upn_i (by decide), upn_i (by decide)]
      exact hT.2.1
    · rw [upn_a (by decide), upn_a (by decide), upn_a (by decide), z.1 150 i (by omega), upn_a (by decide), upn_a (by decide), upn_a (by decide)]
      exact hT.2.2.1 i a b
    · rw [upn_i (by omega), upn_i (by omega), upn_i (by omega)]
    · rw [upn_i (by decide), upn_i (by decide), upn_i (by decide), z.1 145 14 (by omega), upn_i (by decide), upn_self]
    · rw [upn_i (by decide), upn_i (by decide), upn_i (by decide), z.1 145 13 (by omega), upn_self]
    · rw [upn_self]
      rfl
    · rw [upn_i (by decide), upn_self]
      rfl
    · rw [upn_i (by decide), upn_i (by decide), upn_self]
      rfl
    · rw [upn_ap, if_neg (by omega), upn_ap, if_neg (by omega), upn_ap, if_neg (by omega), z.1 t x (by omega), upn_ap, if_neg (by omega), upn_ap, if_neg (by omega)]
  rcases sp_clause (w := w) (d := d) hE (j := 0) (lf := 0) (Nat.zero_le _) (Nat.zero_le _) with ⟨q, hq, hF, hM⟩ | ⟨j1, lf1, r, hj1, hlf1, hr, hp, hK, hM⟩
  · exact Or.inl ⟨tkS T L q, jS_le hE hq, fun n hT hW => clS _ _ n hT hW (fun n1 h1 => hF n n1 [] (by decide) h1) (fun G n1 z => read_F (d := d + 79) (z.ne hE hq) ⟨n1, rfl, rfl, z⟩), fun n G Q hT k => mdS _ n G Q hT (fun n1 h1 => hM _ n1 [] (by decide) h1) (fun n1 z => lawM_F z (k n1 z.1.1 z.1.2.1 z.2))⟩
  · rcases sp_loop (w := w) (d := d) hE 11 1 j1 lf1 (by omega) (by omega) (by omega) hj1.2 hlf1 with ⟨q, hq, hF2, hM2⟩ | ⟨lf2, RS, hok, hlen, hlf2, hp2, j2, hK2, hM2⟩
    · exact Or.inl ⟨tkS T L q, jS_le hE hq, fun n hT hW => clS _ _ n hT hW (fun n1 h1 => hK n n1 [] (by decide) h1) (fun G n1 z => hF2 n n1 _ G _ rfl z (fun n2 y => ⟨n2, rfl, rfl, y⟩)), fun n G Q hT k => mdS _ n G Q hT (fun n1 h1 => hM _ n1 [] (by decide) h1) (fun n1 z => hM2 _ n1 _ G Q rfl z (fun n2 y => k n2 y.1.1 y.1.2.1 y.2))⟩
    · refine Or.inr ⟨r :: RS, lf2, fun s hs => ?_, by rw [List.length_cons]; omega, hlf2, ?_, fun n hT hW => clS _ _ n hT hW (fun n1 h1 => hK n n1 [] (by decide) h1) (fun G n1 z => hK2 n n1 _ G _ rfl z (fun n2 y => ⟨n2, rfl, rfl, y.2.1.1.2.2.1, y.2.1.1.2.2.2.1, y.2.1.1.2.2.2.2, y.2.2.1, y.2.2.2.1, y.2.2.2.2.1, y.2.2.2.2.2⟩)), fun n G Q hT k => mdS _ n G Q hT (fun n1 h1 => hM _ n1 [] (by decide) h1) (fun n1 z => hM2 _ n1 _ G Q rfl z (fun n2 y => k n2 y.1.2.2.1.1 y.1.2.2.1.2 y.2.1 ⟨y.1.2.2.2.2.1, y.1.2.2.2.2.2.1.2⟩ y.1.2.2.2.2.2.2 y.2.2.1 y.2.2.2))⟩
      · rcases List.mem_cons.mp hs with e | e
        · rw [e]
          exact hr
        · exact hok s e
      · show pcn ((r.2.1 ++ r.2.2.2.1) ++ cAll RS) = lf2
        rw [pcn_app]
        omega
end PLAW
