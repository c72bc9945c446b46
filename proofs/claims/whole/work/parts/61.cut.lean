section CUT
variable {w : WD} {d : Nat} {n : NM}
theorem s_kob {c : Int} : EI w (d + 1) mX9_kindOfByte [vi c] B0 n (if c = -1 then 0 else kb c) n := by
  refine EI.of (by decide +kernel) (Nat.le_of_ble_eq_true rfl) rfl (fun _ G => gX9_kindOfByte_0 ⟨fun c1 => EI.use (s_within _ _ _) (ite01 (fun c2 => EI.use (s_within _ _ _) (ite01 (fun c3 => ⟨?_, rfl⟩) (fun c3 => ⟨?_, rfl⟩))) (fun c2 => ⟨?_, rfl⟩)), fun c1 => ⟨?_, rfl⟩⟩)
  · rw [if_neg c1, kb, if_neg c2, if_neg c3]
  · rw [if_neg c1, kb, if_neg c2, if_pos c3]
  · rw [if_neg c1, kb, if_pos c2]
  · rw [if_pos c1]
/-- the tape T with L bytes lies in n -/
def TpC (n : NM) (T : Int → Int) (L : Int) : Prop := (0 ≤ L ∧ L ≤ 400) ∧ n 35 1 = L ∧ n 36 = T ∧ ∀ i, 0 ≤ i → i < L → 0 ≤ T i ∧ T i ≤ 255
theorem TpC.congr {n2 : NM} {T : Int → Int} {L : Int} (h : TpC n T L) (e1 : n2 35 = n 35) (e2 : n2 36 = n 36) : TpC n2 T L := ⟨h.1, by rw [e1]; exact h.2.1, by rw [e2]; exact h.2.2.1, h.2.2.2⟩
theorem s_atT {T : Int → Int} {L p : Int} (h : TpC n T L) (p0 : 0 ≤ p) (p1 : p < L) : EI w d mX8_at [vr 35, vi p] B0 n (T p) n := by
  have q := s_at (w := w) (d := d) (n := n) (p := p) (by rw [h.2.1]; exact h.1.2) p0 (by rw [h.2.1]; exact p1)
  rw [h.2.2.1] at q
  exact q
theorem s_atE {T : Int → Int} {L p : Int} (h : TpC n T L) (p0 : L ≤ p) : EI w d mX8_at [vr 35, vi p] B0 n (-1) n := by
  have h1 := h.2.1
  exact EI.of (by decide +kernel) (Nat.le_of_ble_eq_true rfl) rfl (fun _ G => gX8_at_0 ⟨fun _ => ⟨rfl, rfl⟩, fun _ => ⟨fun _ => ⟨rfl, rfl⟩, fun z => absurd z (by omega)⟩⟩)
theorem s_eotL {G : GM} {T : Int → Int} {L k : Int} (h : TpC n T L) (hk : k ≠ 3) : ∀ (m : Nat) (p : Int), (L - p).toNat ≤ m → 0 ≤ p → p ≤ L → Rn w mX9_endOfToken (d + 2) G (fun r h' => r = some (vi (tRN T L k p)) ∧ h' = (B0, n)) 13 [(0, vr 35), (2, vi k), (3, vi p)] [] (B0, n)
  | 0, p, hm, p0, p1 => by
    have h1 := h.2.1
    refine gX9_endOfToken_13 ⟨fun z => absurd z hk, fun _ => EI.use s_tapeSize ⟨fun _ => ⟨?_, rfl⟩, fun z => absurd z (by omega)⟩⟩
    rw [tRN_eq, if_neg (by omega)]
  | m + 1, p, hm, p0, p1 => by
    have h1 := h.2.1
    have h4 := h.1.2
    refine gX9_endOfToken_13 ⟨fun z => absurd z hk, fun _ => EI.use s_tapeSize ⟨fun z => ⟨?_, rfl⟩, fun z => EI.use (s_atT h p0 (by omega)) (EI.use s_kob ?_)⟩⟩
    · rw [tRN_eq, if_neg (by omega)]
    · have b := h.2.2.2 p p0 (by omega)
      rw [if_neg (show ¬ T p = -1 by omega)]
      refine ⟨fun c => ⟨?_, rfl⟩, fun c => ⟨⟨by omega, by omega⟩, ?_⟩⟩
      · rw [tRN_eq, if_neg (fun z => c z.2)]
      · rw [tRN_eq, if_pos ⟨by omega, c⟩]
        exact s_eotL h hk m (p + 1) (by omega) (by omega) (by omega)
theorem s_eot {T : Int → Int} {L p : Int} (h : TpC n T L) (p0 : 0 ≤ p) (p1 : p < L) : EI w (d + 2) mX9_endOfToken [vr 35, vi p] B0 n (tkE T L p) n := by
  have h1 := h.2.1
  have h4 := h.1.2
  have b := h.2.2.2 p p0 p1
  refine EI.of (by decide +kernel) (Nat.le_of_ble_eq_true rfl) rfl (fun _ G => gX9_endOfToken_0 (EI.use (s_atT h p0 p1) (EI.use s_kob ?_)))
  rw [if_neg (show ¬ T p = -1 by omega)]
  refine ⟨⟨by omega, by omega⟩, ?_⟩
  unfold tkE
  rw [if_pos p1]
  by_cases c : kb (T p) = 3
  · rw [if_pos c]
    exact gX9_endOfToken_13 ⟨fun _ => ⟨rfl, rfl⟩, fun z => absurd c z⟩
  · rw [if_neg c]
    exact s_eotL h c _ (p + 1) (Nat.le_refl _) (by omega) (by omega)
theorem s_numL {G : GM} {T : Int → Int} {L s : Int} {len : Nat} (h : TpC n T L) (s0 : 0 ≤ s) (s1 : s + len ≤ L) (hd : ∀ i : Int, 0 ≤ i → i < (len : Int) → 48 ≤ T (s + i) ∧ T (s + i) ≤ 57) : ∀ (m k : Nat), k + m = len → Rn w mX9_numberAt (d + 1) G (fun r h' => r = some (vi (nvF T s len)) ∧ h' = (B0, n)) 5 [(0, vr 35), (2, vi (s + len)), (3, vi (nvF T s k)), (4, vi (s + k))] [] (B0, n)
  | 0, k, hk => by
    have e : k = len := by omega
    subst e
    exact gX9_numberAt_5 ⟨fun _ => ⟨rfl, rfl⟩, fun z => absurd z (by omega)⟩
  | m + 1, k, hk => by
    have h4 := h.1.2
    have q := nv_wn (T := T) (s := s) k (fun i i0 i1 => hd i i0 (by omega))
    have b := hd k (by omega) (by omega)
    have nxt := s_numL (G := G) h s0 s1 hd m (k + 1) (by omega)
    rw [show s + ((k + 1 : Nat) : Int) = s + (k : Int) + 1 by omega] at nxt
    exact gX9_numberAt_5 ⟨fun z => absurd z (by omega), fun _ => ⟨⟨by omega, by omega⟩, EI.use (s_atT h (by omega) (by omega)) ⟨⟨by omega, by omega⟩, ⟨by omega, by omega⟩, ⟨by omega, by omega⟩, nxt⟩⟩⟩
theorem s_likeW {G : GM} {T : Int → Int} {L s : Int} {len p : Nat} (h : TpC n T L) (s0 : 0 ≤ s) (s1 : s + len ≤ L) (hl : ∀ i : Nat, i < len → 97 ≤ T (s + (i : Int)) ∧ T (s + (i : Int)) ≤ 122) (hp : p < 19) (hlen : len = wgE p - wgB p) : ∀ (m k : Nat), k + m = len → (∀ i : Nat, i < k → T (s + (i : Int)) = strC ((wgB p + i : Nat) : Int)) → Rn w mX9_isAlike (d + 4) G (fun r h' => r = some (vi (if hwF T s len = wgH p then 1 else 0)) ∧ h' = (B0, n)) 3 [(0, vr 35), (1, vi s), (2, vi (wgB p : Int)), (3, vi (wgE p : Int)), (4, vi ((wgB p + k : Nat) : Int))] [] (B0, n)
  | 0, k, hk, he => by
    have t := w_tab p hp
    refine gX9_isAlike_3 ⟨fun _ => ⟨?_, rfl⟩, fun z => absurd z (by omega)⟩
    rw [if_pos ((eqWd_h hp hl).mp ⟨hlen, fun i hi => he i (by omega)⟩)]
  | m + 1, k, hk, he => by
    have t := w_tab p hp
    have h4 := h.1.2
    refine gX9_isAlike_3 ⟨fun z => absurd z (by omega), fun _ => ⟨fun z => absurd z (by omega), fun _ => ⟨by omega, by omega, ⟨by omega, by omega⟩, ⟨by omega, by omega⟩, ?_⟩⟩⟩
    rw [show s + ((wgB p + k : Nat) : Int) - (wgB p : Int) = s + (k : Int) by omega]
    refine EI.use (s_atT h (by omega) (by omega)) ⟨fun c => ⟨⟨by omega, by omega⟩, ?_⟩, fun c => ⟨?_, rfl⟩⟩
    · have nxt := s_likeW (G := G) h s0 s1 hl hp hlen m (k + 1) (by omega) (fun i hi => by
        by_cases q : i = k
        · rw [q]
          exact c.symm
        · exact he i (by omega))
      rw [show ((wgB p + (k + 1) : Nat) : Int) = ((wgB p + k : Nat) : Int) + 1 by omega] at nxt
      exact nxt
    · rw [if_neg (fun z => c (((eqWd_h hp hl).mpr z).2 k (by omega)).symm)]
theorem s_wordW {G : GM} {T : Int → Int} {L s : Int} {len : Nat} (h : TpC n T L) (s0 : 0 ≤ s) (s1 : s + len ≤ L) (hl : ∀ i : Nat, i < len → 97 ≤ T (s + (i : Int)) ∧ T (s + (i : Int)) ≤ 122) : ∀ (q p : Nat), p + q = 18 → ∀ (m e : Nat), e + m = wgE p → wgB p ≤ e → Rn w mX9_wordAt (d + 5) G (fun r h' => r = some (vi (wdV T s len (19 - p))) ∧ h' = (B0, n)) 8 [(0, vr 35), (1, vi s), (2, vi (s + len)), (3, vi (p : Int)), (4, vi (wgB p : Int)), (5, vi (e : Int))] [] (B0, n) := by
  have h4 := h.1.2
  intro q
  induction q with
  | zero =>
    intro p hp m
    have hp18 : p = 18 := by omega
    subst hp18
    have t := w_tab 18 (by decide)
    have lastQ : wdV T s len (19 - 18) = if hwF T s len = wgH 18 then 18 else -1 := rfl
    have no : hwF T s len ≠ wgH 18 → Rn w mX9_wordAt (d + 5) G (fun r h' => r = some (vi (wdV T s len (19 - 18))) ∧ h' = (B0, n)) 65 [(0, vr 35), (1, vi s), (2, vi (s + len)), (3, vi (18 : Int)), (5, vi (94 : Int))] [] (B0, n) := fun z => gX9_wordAt_65 ⟨⟨by decide, by decide⟩, ⟨by decide, by decide⟩, ⟨by decide, by decide⟩, gX9_wordAt_8 ⟨fun _ => ⟨by rw [lastQ, if_neg z], rfl⟩, fun z => absurd z (by decide)⟩⟩
    have at40 : Rn w mX9_wordAt (d + 5) G (fun r h' => r = some (vi (wdV T s len (19 - 18))) ∧ h' = (B0, n)) 40 [(0, vr 35), (1, vi s), (2, vi (s + len)), (3, vi (18 : Int)), (4, vi (wgB 18 : Int)), (5, vi (94 : Int))] [] (B0, n) := by
      refine gX9_wordAt_40 ⟨⟨by omega, by omega⟩, ⟨by omega, by omega⟩, fun c => no (fun z => ?_), fun c => ?_⟩
      · have := ((eqWd_h (T := T) (s := s) (by decide) hl).mpr z).1
        have t5 := t.2.2.2.2 rfl
        omega
      · have t5 := t.2.2.2.2 rfl
        have al : EI w (d + 4) mX9_isAlike [vr 35, vi s, vi (wgB 18 : Int), vi (94 : Int)] B0 n (if hwF T s len = wgH 18 then 1 else 0) n := EI.of (by decide +kernel) (Nat.le_of_ble_eq_true rfl) rfl (fun _ G => gX9_isAlike_0 (s_likeW h s0 s1 hl (p := 18) (by decide) (by omega) len 0 (by omega) (fun i hi => by omega)))
        refine EI.use al ⟨fun z => no (fun y => ?_), fun z => ⟨?_, rfl⟩⟩
        · rw [if_pos y] at z
          exact absurd z (by decide)
        · by_cases y : hwF T s len = wgH 18
          · rw [lastQ, if_pos y]
          · rw [if_neg y] at z
            exact absurd rfl z
    induction m with
    | zero =>
      intro e he hb
      have t5 := t.2.2.2.2 rfl
      have ee : (e : Int) = 94 := by omega
      rw [ee]
      exact gX9_wordAt_8 ⟨fun z => absurd z (by decide), fun _ => ⟨fun _ => at40, fun z => absurd rfl z⟩⟩
    | succ m ih =>
      intro e he hb
      have t5 := t.2.2.2.2 rfl
      have lt := w_let 18 (by decide) (e - wgB 18) (by omega)
      rw [show wgB 18 + (e - wgB 18) = e by omega] at lt
      have nxt := ih (e + 1) (by omega) (by omega)
      exact gX9_wordAt_8 ⟨fun z => absurd z (by omega), fun _ => ⟨fun z => absurd z (by omega), fun _ => ⟨by omega, by omega, fun _ => ⟨⟨by omega, by omega⟩, nxt⟩, fun z => absurd z (by omega)⟩⟩⟩
  | succ q ihq =>
    intro p hp m
    have t := w_tab p (by omega)
    have t4 := t.2.2.2.1 (by omega)
    have sp := w_sp p (by omega)
    have stepQ : wdV T s len (19 - p) = if hwF T s len = wgH p then (p : Int) else wdV T s len (19 - (p + 1)) := by
      rw [show 19 - p = (18 - p) + 1 by omega, show 19 - (p + 1) = 18 - p by omega]
      show (if hwF T s len = wgH (18 - (18 - p)) then ((18 - (18 - p) : Nat) : Int) else wdV T s len (18 - p)) = _
      rw [show 18 - (18 - p) = p by omega]
    have no : hwF T s len ≠ wgH p → Rn w mX9_wordAt (d + 5) G (fun r h' => r = some (vi (wdV T s len (19 - p))) ∧ h' = (B0, n)) 65 [(0, vr 35), (1, vi s), (2, vi (s + len)), (3, vi (p : Int)), (5, vi (wgE p : Int))] [] (B0, n) := fun z => by
      have t' := w_tab (p + 1) (by omega)
      have nxt := ihq (p + 1) (by omega) (wgE (p + 1) - wgB (p + 1)) (wgB (p + 1)) (by omega) (Nat.le_refl _)
      rw [stepQ, if_neg z]
      rw [t4.1, show ((wgE p + 1 : Nat) : Int) = (wgE p : Int) + 1 by omega] at nxt
      exact gX9_wordAt_65 ⟨⟨by omega, by omega⟩, ⟨by omega, by omega⟩, ⟨by omega, by omega⟩, nxt⟩
    have at40 : Rn w mX9_wordAt (d + 5) G (fun r h' => r = some (vi (wdV T s len (19 - p))) ∧ h' = (B0, n)) 40 [(0, vr 35), (1, vi s), (2, vi (s + len)), (3, vi (p : Int)), (4, vi (wgB p : Int)), (5, vi (wgE p : Int))] [] (B0, n) := by
      refine gX9_wordAt_40 ⟨⟨by omega, by omega⟩, ⟨by omega, by omega⟩, fun c => no (fun z => ?_), fun c => ?_⟩
      · have := ((eqWd_h (T := T) (s := s) (by omega) hl).mpr z).1
        omega
      · have al : EI w (d + 4) mX9_isAlike [vr 35, vi s, vi (wgB p : Int), vi (wgE p : Int)] B0 n (if hwF T s len = wgH p then 1 else 0) n := EI.of (by decide +kernel) (Nat.le_of_ble_eq_true rfl) rfl (fun _ G => gX9_isAlike_0 (s_likeW h s0 s1 hl (p := p) (by omega) (by omega) len 0 (by omega) (fun i hi => by omega)))
        refine EI.use al ⟨fun z => no (fun y => ?_), fun z => ⟨?_, rfl⟩⟩
        · rw [if_pos y] at z
          exact absurd z (by decide)
        · by_cases y : hwF T s len = wgH p
          · rw [stepQ, if_pos y]
          · rw [if_neg y] at z
            exact absurd rfl z
    induction m with
    | zero =>
      intro e he hb
      have ee : e = wgE p := by omega
      rw [ee]
      exact gX9_wordAt_8 ⟨fun z => absurd z (by omega), fun _ => ⟨fun z => absurd z (by omega), fun _ => ⟨by omega, by omega, fun z => absurd sp z, fun _ => at40⟩⟩⟩
    | succ m ih =>
      intro e he hb
      have lt := w_let p (by omega) (e - wgB p) (by omega)
      rw [show wgB p + (e - wgB p) = e by omega] at lt
      have nxt := ih (e + 1) (by omega) (by omega)
      exact gX9_wordAt_8 ⟨fun z => absurd z (by omega), fun _ => ⟨fun z => absurd z (by omega), fun _ => ⟨by omega, by omega, fun _ => ⟨⟨by omega, by omega⟩, nxt⟩, fun z => absurd z (by omega)⟩⟩⟩
theorem s_wordAtW {T : Int → Int} {L s : Int} {len : Nat} (h : TpC n T L) (s0 : 0 ≤ s) (s1 : s + len ≤ L) (hl : ∀ i : Nat, i < len → 97 ≤ T (s + (i : Int)) ∧ T (s + (i : Int)) ≤ 122) : EI w (d + 5) mX9_wordAt [vr 35, vi s, vi (s + len)] B0 n (wdV T s len 19) n := by
  refine EI.of (by decide +kernel) (Nat.le_of_ble_eq_true rfl) rfl (fun _ G => gX9_wordAt_0 ?_)
  exact s_wordW h s0 s1 hl 18 0 rfl 4 0 rfl (Nat.le_refl _)
/-- the tokens cut so far -/
def TkI (n : NM) (T : Int → Int) (L : Int) (i : Nat) : Prop := n 38 3 = (i : Int) ∧ ∀ j : Nat, j < i → n 39 (j : Int) = tkK T L (tkS T L j) ∧ n 40 (j : Int) = tkV T L (tkS T L j) ∧ n 41 (j : Int) = tkS T L j
/-- what cutting leaves as it was -/
def FrK (n2 n : NM) : Prop := ∀ t : Nat, t < 38 ∨ 41 < t → n2 t = n t
theorem s_addTok {T : Int → Int} {L : Int} {i : Nat} (h : TpC n T L) (hI : TkI n T L i) (hi : i < 401) (e : Int) (he : e = tkE T L (tkS T L i)) : Ev w (d + 6) 0 0 mX9_addToken [vr 38, vr 35, vi (tkS T L i), vi e] (B0, n) (fun r h' => ∃ n1 : NM, r = none ∧ h' = (B0, n1) ∧ TkI n1 T L (i + 1) ∧ FrK n1 n) := by
  have sl := tkS_le (T := T) h.1.1 i
  have el := tkE_le (T := T) sl.1.1
  have i3 := hI.1
  have key : ∀ (v : Int) (G : GM) (N : NM), N = upn (upn n 39 (i : Int) (tkK T L (tkS T L i))) 41 (i : Int) (tkS T L i) → v = tkV T L (tkS T L i) → Rn w mX9_addToken (d + 6) G (fun r h' => ∃ n1 : NM, r = none ∧ h' = (B0, n1) ∧ TkI n1 T L (i + 1) ∧ FrK n1 n) 86 [(0, vr 38)] [vi v, vi (i : Int), vr 40] (B0, N) := by
    intro v G N hN hv
    subst hN hv
    have e38 : (upn (upn n 39 (i : Int) (tkK T L (tkS T L i))) 41 (i : Int) (tkS T L i)) 38 3 = (i : Int) := by
      rw [upn_a (by decide), upn_a (by decide), i3]
    refine gX9_addToken_86 ⟨by omega, by omega, by rw [e38]; exact ⟨by omega, by omega⟩, _, rfl, rfl, ⟨?_, fun j hj => ?_⟩, fun t ht => ?_⟩
    · rw [upn_self, e38]
      rfl
    · by_cases c : j = i
      · subst c
        refine ⟨?_, ?_, ?_⟩
        · rw [upn_a (by decide), upn_a (by decide), upn_a (by decide), upn_self]
        · rw [upn_a (by decide), upn_self]
        · rw [upn_a (by decide), upn_a (by decide), upn_self]
      · have q := hI.2 j (by omega)
        have ji : (j : Int) ≠ (i : Int) := by omega
        refine ⟨?_, ?_, ?_⟩
        · rw [upn_a (by decide), upn_a (by decide), upn_a (by decide), upn_i ji]
          exact q.1
        · rw [upn_a (by decide), upn_i ji, upn_a (by decide), upn_a (by decide)]
          exact q.2.1
        · rw [upn_a (by decide), upn_a (by decide), upn_i ji, upn_a (by decide)]
          exact q.2.2
    · rw [upn_ne (by omega), upn_ne (by omega), upn_ne (by omega), upn_ne (by omega)]
  have hN : TpC (upn (upn n 39 (i : Int) (tkK T L (tkS T L i))) 41 (i : Int) (tkS T L i)) T L := h.congr (by rw [upn_ne (by decide), upn_ne (by decide)]) (by rw [upn_ne (by decide), upn_ne (by decide)])
  by_cases c : tkS T L i < L
  · have b := h.2.2.2 _ sl.2.2 c
    have kl := kb_le (T (tkS T L i))
    have eK : tkK T L (tkS T L i) = kb (T (tkS T L i)) := if_pos c
    refine EV.ofP (by decide +kernel) (Nat.le_of_ble_eq_true rfl) rfl (fun _ G => gX9_addToken_0 ⟨fun z => absurd z (by omega), fun _ => EI.use (s_atT h sl.2.2 c) (EI.use (s_kob (d := d + 4)) ?_)⟩)
    rw [if_neg (show ¬ T (tkS T L i) = -1 by omega), i3, ← eK]
    have elen : ((e - tkS T L i).toNat : Int) = e - tkS T L i := by omega
    have run : kb (T (tkS T L i)) ≠ 3 → ∀ y : Nat, y < (e - tkS T L i).toNat → kb (T (tkS T L i + (y : Int))) = kb (T (tkS T L i)) := fun c3 y hy => by
      have ee : e = tRN T L (kb (T (tkS T L i))) (tkS T L i + 1) := by
        rw [he]
        unfold tkE
        rw [if_pos c, if_neg c3]
      have r := tRN_le (T := T) (L := L) (k := kb (T (tkS T L i))) _ (tkS T L i + 1) (Nat.le_refl _) (by omega)
      by_cases y0 : y = 0
      · rw [y0, show tkS T L i + ((0 : Nat) : Int) = tkS T L i by omega]
      · exact r.2.2.2 _ (by omega) (by omega)
    refine ⟨by omega, by omega, by omega, by omega, fun k1 => ⟨fun k2 => EI.use (s_atT hN sl.2.2 c) (key _ G _ rfl ?_), fun k2 => ?_⟩, fun k1 => ?_⟩
    · unfold tkV
      rw [if_pos c, if_neg (by omega), if_neg (by omega)]
    · have hnum : EI w (d + 5) mX9_numberAt [vr 35, vi (tkS T L i), vi e] B0 (upn (upn n 39 (i : Int) (tkK T L (tkS T L i))) 41 (i : Int) (tkS T L i)) (nvF T (tkS T L i) (e - tkS T L i).toNat) _ := EI.of (by decide +kernel) (Nat.le_of_ble_eq_true rfl) rfl (fun _ G => gX9_numberAt_0 (by
        have q := s_numL (w := w) (d := d + 4) (G := G) (len := (e - tkS T L i).toNat) hN sl.2.2 (by omega) (fun y y0 y1 => by
          have := run (by omega) y.toNat (by omega)
          rw [show ((y.toNat : Nat) : Int) = y by omega, show kb (T (tkS T L i)) = 2 by omega] at this
          unfold kb at this
          revert this
          split
          · omega
          · split <;> omega) (e - tkS T L i).toNat 0 (Nat.zero_add _)
        rw [show tkS T L i + ((e - tkS T L i).toNat : Int) = e by omega, show tkS T L i + ((0 : Nat) : Int) = tkS T L i by omega] at q
        exact q))
      refine EI.use hnum (key _ G _ rfl ?_)
      unfold tkV
      rw [if_pos c, if_neg (by omega), if_pos (by omega), he]
    · have hw := s_wordAtW (w := w) (d := d) (len := (e - tkS T L i).toNat) hN sl.2.2 (by omega) (fun y hy => by
        have := run (by omega) y hy
        rw [show kb (T (tkS T L i)) = 1 by omega] at this
        unfold kb at this
        revert this
        split
        · omega
        · split <;> omega)
      rw [show tkS T L i + ((e - tkS T L i).toNat : Int) = e by omega] at hw
      refine EI.use hw (key _ G _ rfl ?_)
      unfold tkV
      rw [if_pos c, if_pos (by omega), he]
  · have eK : tkK T L (tkS T L i) = 0 := if_neg c
    have hL := sl.1.1
    refine EV.ofP (by decide +kernel) (Nat.le_of_ble_eq_true rfl) rfl (fun _ G => gX9_addToken_0 ⟨fun z => absurd z (by omega), fun _ => EI.use (s_atE h (by omega)) (EI.use (s_kob (d := d + 4)) ?_)⟩)
    rw [if_pos rfl, i3, ← eK]
    refine ⟨by omega, by omega, by omega, by omega, fun k1 => ⟨fun k2 => EI.use (s_atE hN (by omega)) (key _ G _ rfl ?_), fun k2 => absurd k2 (by omega)⟩, fun k1 => absurd k1 (by omega)⟩
    unfold tkV
    rw [if_neg c]
theorem s_cutL {G : GM} {T : Int → Int} {L : Int} {n0 : NM} (h : TpC n0 T L) : ∀ (m : Nat) (a x : Int) (i : Nat) (n : NM), (L - a).toNat ≤ m → 0 ≤ a → a ≤ L → 0 ≤ x → x ≤ a → tSK T L a = tkS T L i → (i : Int) ≤ a → TkI n T L i → FrK n n0 → (∀ j : Nat, j < i → tkS T L j < L) → Rn w mX9_cut (d + 7) G (fun r h' => ∃ n1 : NM, r = none ∧ h' = (B0, n1) ∧ FrK n1 n0 ∧ ∃ iE : Nat, TkI n1 T L (iE + 1) ∧ tkS T L iE = L ∧ (iE : Int) ≤ L ∧ ∀ j : Nat, j < iE → tkS T L j < L) 9 [(0, vr 38), (1, vr 35), (2, vi a), (3, vi x)] [] (B0, n)
  | m, a, x, i, n, hm, a0, a1, x0, x1, hs, hi, hI, f, hj => by
    have hn : TpC n T L := h.congr (f 35 (by decide)) (f 36 (by decide))
    have h4 := h.1.2
    have h35 := hn.2.1
    have fin : a = L → ∀ n3 : NM, n3 = n → Ev w (d + 6) 0 0 mX9_addToken [vr 38, vr 35, vi a, vi a] (B0, n3) (fun r h' => ∃ n22 : NM, r = none ∧ h' = (B0, n22) ∧ (∃ n1 : NM, (none : Option AV) = none ∧ ((B0, n22) : Hp) = (B0, n1) ∧ FrK n1 n0 ∧ ∃ iE : Nat, TkI n1 T L (iE + 1) ∧ tkS T L iE = L ∧ (iE : Int) ≤ L ∧ ∀ j : Nat, j < iE → tkS T L j < L)) := fun ha n3 e3 => by
      subst e3
      have es : tkS T L i = L := by
        rw [← hs, tSK_eq, if_neg (by omega)]
        exact ha
      have ad := s_addTok (w := w) (d := d) hn hI (by omega) L (by
        rw [es]
        unfold tkE
        rw [if_neg (by omega)])
      rw [es] at ad
      rw [ha]
      exact EV.usP ad (fun n1 z => ⟨_, rfl, rfl, fun t ht => (z.2 t ht).trans (f t ht), i, z.1, es, by omega, hj⟩)
    refine gX9_cut_9 ⟨fun z => fin (by omega) n rfl, fun _ => EI.use s_tapeSize ⟨fun z => fin (by omega) n rfl, fun z => ?_⟩⟩
    have aL : a < L := by omega
    have el := tkE_le (T := T) (L := L) (s := a) a1
    match m, hm with
    | 0, hm => omega
    | m + 1, hm =>
      refine EI.use (s_eot (d := d + 4) hn a0 aL) (EI.use (s_atT hn a0 aL) ⟨fun c => ⟨⟨by omega, by omega⟩, ?_⟩, fun c => ?_⟩)
      · have ee : tkE T L a = a + 1 := by
          unfold tkE
          rw [if_pos aL, c, if_pos (show kb 32 = 3 by decide)]
        rw [ee]
        refine s_cutL h m (a + 1) (x + 1) i n (by omega) (by omega) (by omega) (by omega) (by omega) ?_ (by omega) hI f hj
        rw [← hs, tSK_eq (p := a), if_pos ⟨aL, c⟩]
      · have es : tkS T L i = a := by
          rw [← hs, tSK_eq, if_neg (fun y => c y.2)]
        have ad := s_addTok (w := w) (d := d) hn hI (by omega) (tkE T L a) (by rw [es])
        rw [es] at ad
        refine EV.usP ad (fun n1 y => ⟨⟨by omega, by omega⟩, s_cutL h m (tkE T L a) (x + 1) (i + 1) n1 (by omega) (by omega) (by omega) (by omega) (by omega) ?_ (by omega) y.1 (fun t ht => (y.2 t ht).trans (f t ht)) (fun j hj2 => ?_)⟩)
        · show _ = tSK T L (tkE T L (tkS T L i))
          rw [es]
        · by_cases q : j = i
          · rw [q, es]
            exact aL
          · exact hj j (by omega)
/-- all tokens are cut: iE is the end's -/
def TkC (n : NM) (T : Int → Int) (L : Int) (iE : Nat) : Prop := TkI n T L (iE + 1) ∧ tkS T L iE = L ∧ (iE : Int) ≤ L ∧ ∀ j : Nat, j < iE → tkS T L j < L
theorem s_cut {T : Int → Int} {L : Int} (h : TpC n T L) : Ev w (d + 7) 0 0 mX9_cut [vr 38, vr 35] (B0, n) (fun r h' => ∃ n1 : NM, r = none ∧ h' = (B0, n1) ∧ FrK n1 n ∧ ∃ iE : Nat, TkC n1 T L iE) := by
  refine EV.ofP (by decide +kernel) (Nat.le_of_ble_eq_true rfl) rfl (fun _ G => gX9_cut_0 (s_cutL (n0 := n) h L.toNat 0 0 0 (upn n 38 3 0) (by omega) (Int.le_refl _) h.1.1 (Int.le_refl _) (Int.le_refl _) rfl (Int.le_refl _) ⟨upn_self _ _ _ _, fun j hj => by omega⟩ (fun t ht => upn_ne (by omega)) (fun j hj => by omega)))
end CUT
