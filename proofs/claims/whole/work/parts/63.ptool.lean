section PTOOL
variable {w : WD} {d : Nat} {n n0 : NM} {T : Int → Int} {L : Int} {iE : Nat}
def jK (T : Int → Int) (L : Int) (j : Nat) : Int := tkK T L (tkS T L j)
def jV (T : Int → Int) (L : Int) (j : Nat) : Int := tkV T L (tkS T L j)
def jW (T : Int → Int) (L : Int) (j : Nat) : Int := tkW T L (tkS T L j)
/-- token j is of kind k and has the value v -/
abbrev AtK (T : Int → Int) (L : Int) (j : Nat) (k v : Int) : Prop := jK T L j = k ∧ jV T L j = v
/-- iE is the end's place, behind all tokens -/
def TkE (T : Int → Int) (L : Int) (iE : Nat) : Prop := tkS T L iE = L ∧ (iE : Int) ≤ L ∧ (∀ j : Nat, j < iE → tkS T L j < L) ∧ (0 ≤ L ∧ L ≤ 400)
theorem jK_end (h : TkE T L iE) : jK T L iE = 0 := by
  unfold jK tkK
  rw [if_neg (by have := h.1; omega)]
theorem jK_in (h : TkE T L iE) {j : Nat} (hj : j ≤ iE) : (jK T L j = 0 ∧ j = iE) ∨ (1 ≤ jK T L j ∧ jK T L j ≤ 3 ∧ j < iE) := by
  by_cases c : j = iE
  · rw [c]
    exact Or.inl ⟨jK_end h, rfl⟩
  · have q := h.2.2.1 j (by omega)
    have k := kb_le (T (tkS T L j))
    refine Or.inr ?_
    unfold jK tkK
    rw [if_pos q]
    omega
theorem jS_le (h : TkE T L iE) {j : Nat} (hj : j ≤ iE) : 0 ≤ tkS T L j ∧ tkS T L j ≤ 400 := by
  have q := tkS_le (T := T) h.2.2.2.1 j
  have := h.2.2.2
  omega
theorem wdV_spec {T : Int → Int} {s : Int} {len : Nat} : ∀ q : Nat, q ≤ 19 → (wdV T s len q = -1 ∧ ∀ p : Nat, 19 - q ≤ p → p < 19 → hwF T s len ≠ wgH p) ∨ ∃ p : Nat, p < 19 ∧ wdV T s len q = (p : Int) ∧ hwF T s len = wgH p
  | 0, _ => Or.inl ⟨rfl, fun p a b => by omega⟩
  | q + 1, h => by
    have ih := wdV_spec (T := T) (s := s) (len := len) q (by omega)
    have e : wdV T s len (q + 1) = if hwF T s len = wgH (18 - q) then ((18 - q : Nat) : Int) else wdV T s len q := rfl
    rw [e]
    by_cases c : hwF T s len = wgH (18 - q)
    · rw [if_pos c]
      exact Or.inr ⟨18 - q, by omega, rfl, c⟩
    · rw [if_neg c]
      rcases ih with ih | ih
      · refine Or.inl ⟨ih.1, fun p a b => ?_⟩
        by_cases y : p = 18 - q
        · rw [y]
          exact c
        · exact ih.2 p (by omega) b
      · exact Or.inr ih
theorem jW_word {j : Nat} (hK : jK T L j = 1) : (-1 ≤ jV T L j ∧ jV T L j ≤ 18) ∧ ∀ p : Nat, p < 19 → (jV T L j = (p : Int) ↔ jW T L j = wgH p) := by
  unfold jK tkK at hK
  by_cases c : tkS T L j < L
  · rw [if_pos c] at hK
    have eV : jV T L j = wdV T (tkS T L j) (tkE T L (tkS T L j) - tkS T L j).toNat 19 := by
      unfold jV tkV
      rw [if_pos c, if_pos hK]
    have eW : jW T L j = hwF T (tkS T L j) (tkE T L (tkS T L j) - tkS T L j).toNat := by
      unfold jW tkW
      rw [if_pos c, if_pos hK]
    rw [eV, eW]
    rcases wdV_spec (T := T) (s := tkS T L j) (len := (tkE T L (tkS T L j) - tkS T L j).toNat) 19 (Nat.le_refl _) with q | ⟨p, q1, q2, q3⟩
    · rw [q.1]
      exact ⟨by decide, fun p hp => ⟨fun z => by omega, fun z => absurd z (q.2 p (by omega) hp)⟩⟩
    · rw [q2, q3]
      refine ⟨⟨by omega, by omega⟩, fun p' hp => ⟨fun z => ?_, fun z => ?_⟩⟩
      · rw [show p = p' by omega]
      · rw [w_inj p q1 p' hp z]
  · rw [if_neg c] at hK
    omega
theorem jW_num (hL : 0 ≤ L) {j : Nat} (hK : jK T L j = 2) : (jV T L j ≤ 100000 ↔ jW T L j ≤ 100000) ∧ (jV T L j ≤ 100000 → jV T L j = jW T L j) ∧ 0 ≤ jV T L j ∧ 0 ≤ jW T L j ∧ jW T L j ≤ 10000009 := by
  unfold jK tkK at hK
  by_cases c : tkS T L j < L
  · rw [if_pos c] at hK
    have sl := tkS_le (T := T) hL j
    have e : tkE T L (tkS T L j) = tRN T L 2 (tkS T L j + 1) := by
      unfold tkE
      rw [if_pos c, hK, if_neg (by decide)]
    have r := tRN_le (T := T) (L := L) (k := 2) _ (tkS T L j + 1) (Nat.le_refl _) (by omega)
    have eV : jV T L j = nvF T (tkS T L j) (tkE T L (tkS T L j) - tkS T L j).toNat := by
      unfold jV tkV
      rw [if_pos c, if_neg (by omega), if_pos hK]
    have eW : jW T L j = wnF T (tkS T L j) (tkE T L (tkS T L j) - tkS T L j).toNat := by
      unfold jW tkW
      rw [if_pos c, if_neg (by omega), if_pos hK]
    rw [eV, eW]
    have q := nv_wn (T := T) (s := tkS T L j) (tkE T L (tkS T L j) - tkS T L j).toNat (fun i i0 i1 => by
      refine kb2.mp ?_
      by_cases y : i = 0
      · rw [y, show tkS T L j + 0 = tkS T L j by omega]
        exact hK
      · exact r.2.2.2 _ (by omega) (by omega))
    omega
  · rw [if_neg c] at hK
    omega
theorem jW_sign {j : Nat} (hK : jK T L j = 3) : jV T L j = jW T L j := by
  unfold jK tkK at hK
  by_cases c : tkS T L j < L
  · rw [if_pos c] at hK
    unfold jV jW tkV tkW
    rw [if_pos c, if_pos c, if_neg (by omega), if_neg (by omega), if_neg (by omega), if_neg (by omega)]
  · rw [if_neg c] at hK
    omega
/-- what the class's reading of a phrase leaves as it was -/
def FrC (n n0 : NM) : Prop := ∀ t : Nat, t < 37 ∨ (37 < t ∧ t < 42) ∨ 44 < t → n t = n0 t
theorem FrC.upd {t : Nat} {i v : Int} (h : FrC n n0) (ht : t = 37 ∨ t = 42 ∨ t = 43 ∨ t = 44) : FrC (upn n t i v) n0 := fun u c => by
  rw [upn_ne (by omega)]
  exact h u c
/-- the class's reader without its place: l leaves read, the code cc -/
def KR (n0 n : NM) (l : Nat) (cc : CLs) : Prop := FrC n n0 ∧ (n 37 3 = (l : Int) ∧ l ≤ 50) ∧ n 37 4 = -1 ∧ (n 42 2 = (cc.length : Int) ∧ cc.length ≤ 400) ∧ EmbC (n 43) (n 44) 0 cc
/-- .. at token j -/
def KS (n0 n : NM) (j l : Nat) (cc : CLs) : Prop := KR n0 n l cc ∧ n 37 2 = (j : Int) ∧ cc.length ≤ j
/-- .. after a fault at token q -/
def KF (T : Int → Int) (L : Int) (n0 n : NM) (q : Nat) : Prop := FrC n n0 ∧ n 37 4 = tkS T L q ∧ (0 ≤ n 42 2 ∧ n 42 2 ≤ 400)
/-- the class's tokens -/
def C0 (T : Int → Int) (L : Int) (iE : Nat) (n0 : NM) : Prop := TkI n0 T L (iE + 1) ∧ TkE T L iE
theorem C0.tk {n1 : NM} (h : C0 T L iE n0) (f : FrC n1 n0) {j : Nat} (hj : j ≤ iE) : n1 38 3 = (iE : Int) + 1 ∧ n1 39 (j : Int) = jK T L j ∧ n1 40 (j : Int) = jV T L j ∧ n1 41 (j : Int) = tkS T L j ∧ (iE : Int) ≤ 400 := by
  have q := h.1.2 j (by omega)
  have h1 := h.1.1
  have h2 := h.2.2.1
  have h3 := h.2.2.2.2
  rw [f 38 (by omega), f 39 (by omega), f 40 (by omega), f 41 (by omega)]
  exact ⟨by omega, q.1, q.2.1, q.2.2, by omega⟩
theorem s_isAtK {j : Nat} (h : C0 T L iE n0) (f : FrC n n0) (hj : j ≤ iE) (k v : Int) : EI w d mX9_isAt [vr 38, vi (j : Int), vi k, vi v] B0 n (if AtK T L j k v then 1 else 0) n := by
  have q := h.tk f hj
  refine EI.of (by decide +kernel) (Nat.le_of_ble_eq_true rfl) rfl (fun _ G => gX9_isAt_0 (fun z hz => ?_))
  rw [if_neg (by omega), if_neg (by omega), if_neg (by omega)] at hz
  subst hz
  refine ⟨fun z => absurd z (by decide), fun _ => ⟨by omega, by omega, fun c => ⟨?_, rfl⟩, fun c => ⟨by omega, by omega, fun c2 => ⟨?_, rfl⟩, fun c2 => ⟨?_, rfl⟩⟩⟩⟩
  · rw [if_neg (fun z => c (q.2.1.trans z.1))]
  · rw [if_neg (fun z => c2 (q.2.2.1.trans z.2))]
  · rw [if_pos ⟨q.2.1.symm.trans c, q.2.2.1.symm.trans c2⟩]
theorem s_kindK {j : Nat} (h : C0 T L iE n0) (f : FrC n n0) (hj : j ≤ iE) : EI w d mX9_kindOf [vr 38, vi (j : Int)] B0 n (jK T L j) n := by
  have q := h.tk f hj
  exact EI.of (by decide +kernel) (Nat.le_of_ble_eq_true rfl) rfl (fun _ G => gX9_kindOf_0 ⟨fun z => absurd z (by omega), fun _ => ⟨fun z => absurd z (by omega), fun _ => ⟨fun z => absurd z (by omega), fun _ => ⟨by omega, by omega, by rw [q.2.1], rfl⟩⟩⟩⟩)
theorem s_valueK {j : Nat} (h : C0 T L iE n0) (f : FrC n n0) (hj : j ≤ iE) : EI w d mX9_valueOf [vr 38, vi (j : Int)] B0 n (jV T L j) n := by
  have q := h.tk f hj
  exact EI.of (by decide +kernel) (Nat.le_of_ble_eq_true rfl) rfl (fun _ G => gX9_valueOf_0 ⟨fun z => absurd z (by omega), fun _ => ⟨fun z => absurd z (by omega), fun _ => ⟨fun z => absurd z (by omega), fun _ => ⟨by omega, by omega, by rw [q.2.2.1], rfl⟩⟩⟩⟩)
theorem s_placeK {j : Nat} (h : C0 T L iE n0) (f : FrC n n0) (hj : j ≤ iE) : EI w d mX9_placeOf [vr 38, vi (j : Int)] B0 n (tkS T L j) n := by
  have q := h.tk f hj
  exact EI.of (by decide +kernel) (Nat.le_of_ble_eq_true rfl) rfl (fun _ G => gX9_placeOf_0 ⟨fun z => absurd z (by omega), fun _ => ⟨fun z => absurd z (by omega), fun _ => ⟨fun z => absurd z (by omega), fun _ => ⟨by omega, by omega, by rw [q.2.2.2.1], rfl⟩⟩⟩⟩)
theorem KR.at {l : Nat} {cc : CLs} {x : Int} (h : KR n0 n l cc) : KR n0 (upn n 37 2 x) l cc :=
  ⟨h.1.upd (by omega), by rw [upn_i (by decide)]; exact h.2.1, by rw [upn_i (by decide)]; exact h.2.2.1, by rw [upn_a (by decide)]; exact h.2.2.2.1, by rw [upn_ne (by decide), upn_ne (by decide)]; exact h.2.2.2.2⟩
theorem KR.leaf {l : Nat} {cc : CLs} (h : KR n0 n l cc) (hl : l < 50) : KR n0 (upn n 37 3 (n 37 3 + 1)) (l + 1) cc :=
  ⟨h.1.upd (by omega), by rw [upn_self, h.2.1.1]; omega, by rw [upn_i (by decide)]; exact h.2.2.1, by rw [upn_a (by decide)]; exact h.2.2.2.1, by rw [upn_ne (by decide), upn_ne (by decide)]; exact h.2.2.2.2⟩
theorem s_takeY {j l : Nat} {cc : CLs} {k v : Int} (h : C0 T L iE n0) (hn : KS n0 n j l cc) (hj : j < iE) (a : AtK T L j k v) : Ev w (d + 1) 0 0 mX3_take [vr 37, vi k, vi v] (B0, n) (fun r h' => ∃ (x1 : Int) (n1 : NM), r = some (vi x1) ∧ h' = (B0, n1) ∧ x1 = 1 ∧ KS n0 n1 (j + 1) l cc) := by
  have hlt : (iE : Int) ≤ 400 := (h.tk hn.1.1 (Nat.le_of_lt hj)).2.2.2.2
  refine EI.ofP (by decide +kernel) (Nat.le_of_ble_eq_true rfl) rfl (fun _ G => gX3_take_0 ⟨fun z => absurd hn.1.2.2.1 z, fun _ => ?_⟩)
  rw [hn.2.1]
  refine EI.use (s_isAtK h hn.1.1 (Nat.le_of_lt hj) k v) ?_
  rw [if_pos a]
  intro z hz
  rw [if_neg (by decide)] at hz
  subst hz
  have := hn.2.1
  refine ⟨fun z => absurd z (by decide), fun _ => ⟨⟨by omega, by omega⟩, Or.inr rfl, 1, _, rfl, rfl, rfl, hn.1.at, ?_, by have := hn.2.2; omega⟩⟩
  rw [upn_self, hn.2.1]
  omega
theorem s_takeN {j l : Nat} {cc : CLs} {k v : Int} (h : C0 T L iE n0) (hn : KS n0 n j l cc) (hj : j ≤ iE) (a : ¬ AtK T L j k v) : EI w (d + 1) mX3_take [vr 37, vi k, vi v] B0 n 0 n := by
  refine EI.of (by decide +kernel) (Nat.le_of_ble_eq_true rfl) rfl (fun _ G => gX3_take_0 ⟨fun z => absurd hn.1.2.2.1 z, fun _ => ?_⟩)
  rw [hn.2.1]
  refine EI.use (s_isAtK h hn.1.1 hj k v) ?_
  rw [if_neg a]
  intro z hz
  rw [if_pos rfl] at hz
  subst hz
  exact ⟨fun _ => ⟨Or.inl rfl, rfl, rfl⟩, fun z => absurd rfl z⟩
theorem KF.ne {q : Nat} (h : TkE T L iE) (hq : q ≤ iE) (hn : KF T L n0 n q) : n 37 4 ≠ -1 := by
  have := jS_le h hq
  have := hn.2.1
  omega
theorem s_takeF {k v : Int} (h : n 37 4 ≠ -1) : EI w (d + 1) mX3_take [vr 37, vi k, vi v] B0 n 0 n :=
  EI.of (by decide +kernel) (Nat.le_of_ble_eq_true rfl) rfl (fun _ G => gX3_take_0 ⟨fun _ => gX3_take_28 (gX3_take_29 ⟨fun _ => ⟨Or.inl rfl, rfl, rfl⟩, fun z => absurd rfl z⟩), fun z => absurd z h⟩)
theorem s_failF (h : n 37 4 ≠ -1) : EV w (d + 1) mX3_fail [vr 37] B0 n n :=
  EV.of (by decide +kernel) (Nat.le_of_ble_eq_true rfl) rfl (fun _ G => gX3_fail_0 ⟨fun _ => ⟨rfl, rfl⟩, fun z => absurd z h⟩)
theorem s_failK {j l : Nat} {cc : CLs} (h : C0 T L iE n0) (hn : KR n0 n l cc) (hj : j ≤ iE) (ha : n 37 2 = (j : Int)) : Ev w (d + 1) 0 0 mX3_fail [vr 37] (B0, n) (fun r h' => ∃ n1 : NM, r = none ∧ h' = (B0, n1) ∧ KF T L n0 n1 j) := by
  refine EV.ofP (by decide +kernel) (Nat.le_of_ble_eq_true rfl) rfl (fun _ G => gX3_fail_0 ⟨fun z => absurd hn.2.2.1 z, fun _ => ?_⟩)
  rw [ha]
  refine EI.use (s_placeK h hn.1 hj) ⟨_, rfl, rfl, hn.1.upd (by omega), upn_self _ _ _ _, ?_⟩
  rw [upn_a (by decide)]
  have := hn.2.2.2.1
  omega
theorem s_addR {l : Nat} {cc : CLs} {k v v' : Int} (hn : KR n0 n l cc) (hl : cc.length < 400) (hv : v = if k = 10 ∨ k = 11 then (cc.length : Int) + v' else v') : Ev w d 0 0 mX2_addStep [vr 42, vi k, vi v] (B0, n) (fun r h' => ∃ (x1 : Int) (n1 : NM), r = some (vi x1) ∧ h' = (B0, n1) ∧ x1 = (cc.length : Int) ∧ KR n0 n1 l (cc ++ [(k, v')]) ∧ n1 37 2 = n 37 2) := by
  have e := hn.2.2.2.1.1
  refine EI.ofP (by decide +kernel) (Nat.le_of_ble_eq_true rfl) rfl (fun _ G => gX2_addStep_0 ob_42 (k := 43) (v := 44) (t := 45) rfl rfl rfl ob_43 ob_44 ob_45 ⟨fun z => absurd z (by omega), fun _ => ?_⟩)
  rw [upn_self, upn_a (show (42 : Nat) ≠ 44 by decide), upn_a (show (42 : Nat) ≠ 43 by decide), e]
  refine ⟨by omega, by omega, by omega, by omega, ⟨by omega, by omega⟩, ⟨by omega, by omega⟩, _, _, rfl, rfl, by omega, ⟨((hn.1.upd (by omega)).upd (by omega)).upd (by omega), ?_, ?_, ?_, ?_⟩, ?_⟩
  · rw [upn_a (by decide), upn_a (by decide), upn_a (by decide)]
    exact hn.2.1
  · rw [upn_a (by decide), upn_a (by decide), upn_a (by decide)]
    exact hn.2.2.1
  · rw [upn_self, List.length_append]
    show _ = ((cc.length + 1 : Nat) : Int) ∧ cc.length + 1 ≤ 400
    omega
  · rw [upn_ne (show (43 : Nat) ≠ 42 by decide), upn_ne (show (43 : Nat) ≠ 44 by decide), upn_ne (show (44 : Nat) ≠ 42 by decide)]
    refine (embC_app _ _ _).mpr ⟨embC_congr _ _ (fun i i0 i1 => ?_) hn.2.2.2.2, ?_, ?_, trivial⟩
    · rw [upn_i (by omega), upn_i (by omega), upn_ne (show (44 : Nat) ≠ 43 by decide)]
      exact ⟨rfl, rfl⟩
    · rw [show (0 : Int) + (cc.length : Int) = cc.length by omega, upn_self]
    · rw [show (0 : Int) + (cc.length : Int) = cc.length by omega, upn_self]
      exact hv
  · rw [upn_a (by decide), upn_a (by decide), upn_a (by decide)]
theorem s_addF {q : Nat} {k v : Int} (hn : KF T L n0 n q) : Ev w d 0 0 mX2_addStep [vr 42, vi k, vi v] (B0, n) (fun r h' => ∃ (x1 : Int) (n1 : NM), r = some (vi x1) ∧ h' = (B0, n1) ∧ KF T L n0 n1 q) := by
  have e := hn.2.2
  refine EI.ofP (by decide +kernel) (Nat.le_of_ble_eq_true rfl) rfl (fun _ G => gX2_addStep_0 ob_42 (k := 43) (v := 44) (t := 45) rfl rfl rfl ob_43 ob_44 ob_45 ⟨fun z => ⟨⟨by omega, by omega⟩, _, _, rfl, rfl, hn⟩, fun z => ?_⟩)
  rw [upn_self, upn_a (show (42 : Nat) ≠ 44 by decide), upn_a (show (42 : Nat) ≠ 43 by decide)]
  refine ⟨by omega, by omega, by omega, by omega, ⟨by omega, by omega⟩, ⟨by omega, by omega⟩, _, _, rfl, rfl, ((hn.1.upd (by omega)).upd (by omega)).upd (by omega), ?_, ?_⟩
  · rw [upn_a (by decide), upn_a (by decide), upn_a (by decide)]
    exact hn.2.1
  · rw [upn_self]
    omega
theorem s_skipR {l : Nat} {c1 c2 : CLs} {k v : Int} (hk : k = 10 ∨ k = 11) (hn : KR n0 n l (c1 ++ (k, v) :: c2)) : Ev w d 0 0 mX2_letSkipEndHere [vr 42, vi (c1.length : Int)] (B0, n) (fun r h' => ∃ n1 : NM, r = none ∧ h' = (B0, n1) ∧ KR n0 n1 l (c1 ++ (k, (c2.length : Int) + 1) :: c2) ∧ n1 37 2 = n 37 2) := by
  have e := hn.2.2.2.1
  rw [List.length_append, List.length_cons] at e
  have em := (embC_app _ _ _).mp hn.2.2.2.2
  refine EV.ofP (by decide +kernel) (Nat.le_of_ble_eq_true rfl) rfl (fun _ G => gX2_letSkipEndHere_0 ob_42 (k := 43) (v := 44) (t := 45) rfl rfl rfl ob_43 ob_44 ob_45 ⟨fun z => absurd z (by omega), fun _ => ⟨fun z => absurd z (by omega), fun _ => ⟨by omega, by omega, _, rfl, rfl, ⟨hn.1.upd (by omega), ?_, ?_, ?_, ?_⟩, ?_⟩⟩⟩)
  · rw [upn_a (by decide)]
    exact hn.2.1
  · rw [upn_a (by decide)]
    exact hn.2.2.1
  · rw [upn_a (by decide), List.length_append, List.length_cons]
    exact e
  · rw [upn_ne (show (43 : Nat) ≠ 44 by decide)]
    refine (embC_app _ _ _).mpr ⟨embC_congr _ _ (fun i i0 i1 => ?_) em.1, em.2.1, ?_, embC_congr _ _ (fun i i0 i1 => ?_) em.2.2.2⟩
    · rw [upn_i (by omega)]
      exact ⟨rfl, rfl⟩
    · rw [show (0 : Int) + (c1.length : Int) = c1.length by omega, upn_self, if_pos hk]
      omega
    · rw [upn_i (by omega)]
      exact ⟨rfl, rfl⟩
  · rw [upn_a (by decide)]
theorem s_skipF {q : Nat} {x : Int} (hn : KF T L n0 n q) : Ev w d 0 0 mX2_letSkipEndHere [vr 42, vi x] (B0, n) (fun r h' => ∃ n1 : NM, r = none ∧ h' = (B0, n1) ∧ KF T L n0 n1 q) := by
  refine EV.ofP (by decide +kernel) (Nat.le_of_ble_eq_true rfl) rfl (fun _ G => gX2_letSkipEndHere_0 ob_42 (k := 43) (v := 44) (t := 45) rfl rfl rfl ob_43 ob_44 ob_45 ⟨fun z => ⟨_, rfl, rfl, hn⟩, fun _ => ⟨fun z => ⟨_, rfl, rfl, hn⟩, fun _ => ⟨by omega, by omega, _, rfl, rfl, hn.1.upd (by omega), ?_, ?_⟩⟩⟩)
  · rw [upn_a (by decide)]
    exact hn.2.1
  · rw [upn_a (by decide)]
    exact hn.2.2
end PTOOL
