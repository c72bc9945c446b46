section LCOPY
variable {w : WD} {d : Nat} {n : NM}
/-- what of each object of a lake is copied -/
def lcB : List (Int × Int) := [(0, 0), (3, 4), (0, 180), (3, 4), (0, 48), (3, 4), (0, 48), (3, 4), (0, 24), (3, 4), (0, 12), (3, 4), (0, 60), (3, 4), (0, 280), (2, 3), (0, 400), (0, 400), (3, 4), (0, 48), (3, 4), (0, 18), (3, 4), (0, 48), (3, 4), (0, 40), (3, 4), (0, 60), (3, 4), (0, 20), (3, 4), (0, 3)]
/-- the lake at t, its first k objects copied from the one at u -/
def cpK (n : NM) (t u k : Nat) : NM := fun q j => if (t < q ∧ q < t + k) ∧ (lcB.getD (q - t) (0, 0)).1 ≤ j ∧ j < (lcB.getD (q - t) (0, 0)).2 then n (u + (q - t)) j else n q j
theorem cpK_out {t u k q : Nat} (h : q ≤ t ∨ t + k ≤ q) : cpK n t u k q = n q := by
  funext j
  unfold cpK
  rw [if_neg (by omega)]
theorem cpK_u {t u k o : Nat} (hd : t + 32 ≤ u ∨ u + 32 ≤ t) (hk : k ≤ 32) (ho : o < 32) : cpK n t u k (u + o) = n (u + o) := cpK_out (by omega)
theorem cpK_in {t u k o : Nat} {a b j : Int} (h0 : 0 < o) (h1 : o < k) (hb : lcB.getD o (0, 0) = (a, b)) : cpK n t u k (t + o) j = if a ≤ j ∧ j < b then n (u + o) j else n (t + o) j := by
  unfold cpK
  rw [show t + o - t = o by omega, hb]
  by_cases c : a ≤ j ∧ j < b
  · rw [if_pos ⟨by omega, c.1, c.2⟩, if_pos c]
  · rw [if_neg (fun z => c z.2), if_neg c]
theorem cpK_step {t u o : Nat} {L : Int} (hd : t + 32 ≤ u ∨ u + 32 ≤ t) (h0 : 0 < o) (h1 : o + 1 < 32) (hb : lcB.getD o (0, 0) = (3, 4)) (hc : lcB.getD (o + 1) (0, 0) = (0, L)) : tcp (cpK n t u o) (t + o) (u + o) L = cpK n t u (o + 2) := by
  funext q j
  by_cases c1 : q = t + o
  · subst c1
    rw [tcp_t, cpK_u hd (by omega) (by omega), cpK_out (q := t + o) (by omega), cpK_in h0 (by omega) hb]
    by_cases z : j = 3
    · rw [if_pos z, if_pos (by omega), z]
    · rw [if_neg z, if_neg (by omega)]
  · by_cases c2 : q = t + o + 1
    · subst c2
      have e := cpK_in (n := n) (t := t) (u := u) (k := o + 2) (o := o + 1) (j := j) (by omega) (by omega) hc
      rw [← Nat.add_assoc] at e
      rw [e]
      by_cases z : 0 ≤ j ∧ j < L
      · rw [tcp_c z.1 z.2, if_pos z]
        exact congrFun (cpK_u (o := o + 1) hd (by omega) (by omega)) j
      · rw [if_neg z]
        unfold tcp
        rw [upn_ne (by omega)]
        unfold cpn
        rw [if_neg (fun x => z x.2)]
        exact congrFun (cpK_out (by omega)) j
    · rw [tcp_ne c1 c2]
      unfold cpK
      by_cases z : t < q ∧ q < t + o
      · by_cases z2 : (lcB.getD (q - t) (0, 0)).1 ≤ j ∧ j < (lcB.getD (q - t) (0, 0)).2
        · rw [if_pos ⟨z, z2⟩, if_pos ⟨by omega, z2⟩]
        · rw [if_neg (fun x => z2 x.2), if_neg (fun x => z2 x.2)]
      · rw [if_neg (fun x => z x.1), if_neg (fun x => by omega)]
theorem cpK_law {t u : Nat} (hd : t + 32 ≤ u ∨ u + 32 ≤ t) : tcp (upn (cpn (cpn (cpK n t u 15) (u + 16) (t + 16) 400) (u + 17) (t + 17) 400) (t + 15) 2 ((cpn (cpn (cpK n t u 15) (u + 16) (t + 16) 400) (u + 17) (t + 17) 400) (u + 15) 2)) (t + 18) (u + 18) 48 = cpK n t u 20 := by
  have ex : ∀ q : Nat, q ≠ t + 15 → q ≠ t + 16 → q ≠ t + 17 → (upn (cpn (cpn (cpK n t u 15) (u + 16) (t + 16) 400) (u + 17) (t + 17) 400) (t + 15) 2 ((cpn (cpn (cpK n t u 15) (u + 16) (t + 16) 400) (u + 17) (t + 17) 400) (u + 15) 2)) q = cpK n t u 15 q := fun q a b c => by
    rw [upn_ne a, cpn_ne c, cpn_ne b]
  generalize hX : (upn (cpn (cpn (cpK n t u 15) (u + 16) (t + 16) 400) (u + 17) (t + 17) 400) (t + 15) 2 ((cpn (cpn (cpK n t u 15) (u + 16) (t + 16) 400) (u + 17) (t + 17) 400) (u + 15) 2)) = X at ex ⊢
  have eu : ∀ o : Nat, o < 32 → X (u + o) = n (u + o) := fun o ho => by
    rw [ex _ (by omega) (by omega) (by omega)]
    exact cpK_u hd (by omega) ho
  funext q j
  by_cases c1 : q = t + 18
  · subst c1
    rw [tcp_t, eu 18 (by omega), ex _ (by omega) (by omega) (by omega), cpK_out (q := t + 18) (by omega), cpK_in (a := 3) (b := 4) (by omega) (by omega) rfl]
    by_cases z : j = 3
    · rw [if_pos z, if_pos (by omega), z]
    · rw [if_neg z, if_neg (by omega)]
  · by_cases c2 : q = t + 19
    · subst c2
      rw [cpK_in (a := 0) (b := 48) (by omega) (by omega) rfl]
      by_cases z : 0 ≤ j ∧ j < 48
      · rw [if_pos z]
        show tcp X (t + 18) (u + 18) 48 (t + 18 + 1) j = _
        rw [tcp_c z.1 z.2]
        exact congrFun (eu 19 (by omega)) j
      · rw [if_neg z]
        unfold tcp
        rw [upn_ne (by omega)]
        unfold cpn
        rw [if_neg (fun x => z x.2), ex _ (by omega) (by omega) (by omega)]
        exact congrFun (cpK_out (by omega)) j
    · rw [tcp_ne c1 c2]
      by_cases c3 : q = t + 15
      · subst c3
        rw [cpK_in (a := 2) (b := 3) (by omega) (by omega) rfl, ← hX]
        by_cases z : j = 2
        · rw [z, upn_self, if_pos (by decide), cpn_ne (by omega), cpn_ne (by omega)]
          exact congrFun (cpK_u (o := 15) hd (by omega) (by omega)) 2
        · rw [upn_i z, if_neg (by omega), cpn_ne (by omega), cpn_ne (by omega)]
          exact congrFun (cpK_out (by omega)) j
      · by_cases c4 : q = t + 16
        · subst c4
          rw [cpK_in (a := 0) (b := 400) (by omega) (by omega) rfl, ← hX, upn_ne (by omega), cpn_ne (by omega)]
          unfold cpn
          by_cases z : 0 ≤ j ∧ j < 400
          · rw [if_pos ⟨rfl, z⟩, if_pos z]
            exact congrFun (cpK_u (o := 16) hd (by omega) (by omega)) j
          · rw [if_neg (fun x => z x.2), if_neg z]
            exact congrFun (cpK_out (by omega)) j
        · by_cases c5 : q = t + 17
          · subst c5
            rw [cpK_in (a := 0) (b := 400) (by omega) (by omega) rfl, ← hX, upn_ne (by omega)]
            unfold cpn
            by_cases z : 0 ≤ j ∧ j < 400
            · rw [if_pos ⟨rfl, z⟩, if_pos z, if_neg (by omega)]
              exact congrFun (cpK_u (o := 17) hd (by omega) (by omega)) j
            · rw [if_neg (fun x => z x.2), if_neg z, if_neg (by omega)]
              exact congrFun (cpK_out (by omega)) j
          · rw [ex q c3 c4 c5]
            unfold cpK
            by_cases z : t < q ∧ q < t + 15
            · by_cases z2 : (lcB.getD (q - t) (0, 0)).1 ≤ j ∧ j < (lcB.getD (q - t) (0, 0)).2
              · rw [if_pos ⟨z, z2⟩, if_pos ⟨by omega, z2⟩]
              · rw [if_neg (fun x => z2 x.2), if_neg (fun x => z2 x.2)]
            · rw [if_neg (fun x => z x.1), if_neg (fun x => by omega)]
theorem cpK_1 {t u : Nat} : cpK n t u 1 = n := by
  funext q j
  unfold cpK
  rw [if_neg (by omega)]
theorem cpK_tt {t u o : Nat} {L : Int} (h0 : 0 < o) (h1 : o + 1 < 32) (hb : lcB.getD o (0, 0) = (3, 4)) : cpK n t u 32 (t + o) = tcp n (t + o) (u + o) L (t + o) := by
  funext j
  rw [cpK_in h0 (by omega) hb, tcp_t]
  by_cases z : j = 3
  · rw [if_pos (by omega), if_pos z, z]
  · rw [if_neg (by omega), if_neg z]
theorem cpK_cc {t u o : Nat} {L : Int} (h0 : 0 < o) (h1 : o + 1 < 32) (hc : lcB.getD (o + 1) (0, 0) = (0, L)) : cpK n t u 32 (t + o + 1) = tcp n (t + o) (u + o) L (t + o + 1) := by
  funext j
  have e := cpK_in (n := n) (t := t) (u := u) (k := 32) (o := o + 1) (j := j) (by omega) (by omega) hc
  rw [← Nat.add_assoc] at e
  rw [e]
  by_cases z : 0 ≤ j ∧ j < L
  · rw [if_pos z, tcp_c z.1 z.2]
    rfl
  · rw [if_neg z]
    unfold tcp cpn
    rw [upn_ne (by omega), if_neg (fun x => z x.2)]
theorem LakeRel.W {a : Nat} {r : Int → Int} (h : LakeRel n a r) : LakeW n a := by
  obtain ⟨p0, p1, p2, p3, p4, p5, p6, p7, p8, p9, p10, p11, p12, p13⟩ := h
  exact ⟨⟨p0.1, p0.2.1⟩, p1.1, p2.1, p3.1, p4.1, p5.1, p6.1, p7.1, p8.1, p9.1, p10.1, ⟨p11.1, p11.2.1⟩, ⟨p12.1, p12.2.1⟩, p13.1, p13.2.1⟩
theorem cut_eq {f g : Int → Int} {N : Int} (h : ∀ i, 0 ≤ i → i < N → f i = g i) : cutF f N = cutF g N := by
  funext i
  unfold cutF
  by_cases c : 0 ≤ i ∧ i < N
  · rw [if_pos c, if_pos c, h i c.1 c.2]
  · rw [if_neg c, if_neg c]
theorem LakeRel.copy {t u : Nat} {r : Int → Int} (h : LakeRel n u r) (hW : LakeW n t) : LakeRel (cpK n t u 32) t r := by
  obtain ⟨p0, p1, p2, p3, p4, p5, p6, p7, p8, p9, p10, p11, p12, p13⟩ := h
  obtain ⟨w0, w1, w2, w3, w4, w5, w6, w7, w8, w9, w10, w11, w12, w13, _⟩ := hW
  refine ⟨p0.copy (L := 180) w0.1 (by decide) (cpK_tt (by omega) (by omega) rfl) (cpK_cc (by omega) (by omega) rfl),
    p1.copy (L := 48) w1 (by decide) (by decide) (cpK_tt (by omega) (by omega) rfl) (cpK_cc (by omega) (by omega) rfl),
    p2.copy (L := 48) w2 (by decide) (by decide) (cpK_tt (by omega) (by omega) rfl) (cpK_cc (by omega) (by omega) rfl),
    p3.copy (L := 24) w3 (by decide) (by decide) (cpK_tt (by omega) (by omega) rfl) (cpK_cc (by omega) (by omega) rfl),
    p4.copy (L := 12) w4 (by decide) (by decide) (cpK_tt (by omega) (by omega) rfl) (cpK_cc (by omega) (by omega) rfl),
    p5.copy (L := 60) w5 (by decide) (by decide) (cpK_tt (by omega) (by omega) rfl) (cpK_cc (by omega) (by omega) rfl),
    p6.copy (L := 280) w6 (by decide) (by decide) (cpK_tt (by omega) (by omega) rfl) (cpK_cc (by omega) (by omega) rfl),
    ?_,
    p8.copy (L := 18) w8 (by decide) (by decide) (cpK_tt (by omega) (by omega) rfl) (cpK_cc (by omega) (by omega) rfl),
    p9.copy (L := 48) w9 (by decide) (by decide) (cpK_tt (by omega) (by omega) rfl) (cpK_cc (by omega) (by omega) rfl),
    p10.copy (L := 40) w10 (by decide) (by decide) (cpK_tt (by omega) (by omega) rfl) (cpK_cc (by omega) (by omega) rfl),
    p11.copy (L := 60) w11.1 (by decide) (cpK_tt (by omega) (by omega) rfl) (cpK_cc (by omega) (by omega) rfl),
    p12.copy (L := 20) w12.1 (by decide) (cpK_tt (by omega) (by omega) rfl) (cpK_cc (by omega) (by omega) rfl),
    p13.copy (L := 3) w13 (by decide) (cpK_tt (by omega) (by omega) rfl) (cpK_cc (by omega) (by omega) rfl)⟩
  obtain ⟨q0, q1⟩ := p7
  have e18 : ∀ j : Int, cpK n t u 32 (t + 18) j = if 3 ≤ j ∧ j < 4 then n (u + 18) j else n (t + 18) j := fun j => cpK_in (by omega) (by omega) rfl
  refine ⟨⟨?_, ?_, ?_, ?_⟩, ?_⟩
  · rw [e18, if_neg (by decide)]
    exact w7.1
  · rw [e18, if_neg (by decide)]
    exact w7.2.1
  · rw [e18, if_pos (by decide)]
    exact q0.2.2.1
  · rw [e18, if_pos (by decide)]
    exact q0.2.2.2
  · rw [e18, if_pos (by decide), cpK_in (a := 2) (b := 3) (by omega) (by omega) rfl, if_pos (by decide), cut_eq (f := cpK n t u 32 (t + 16)) (g := n (u + 16)) (fun i i0 i1 => ?_), cut_eq (f := cpK n t u 32 (t + 17)) (g := n (u + 17)) (fun i i0 i1 => ?_), cut_eq (f := cpK n t u 32 (t + 19)) (g := n (u + 19)) (fun i i0 i1 => ?_)]
    · exact q1
    · rw [cpK_in (a := 0) (b := 48) (by omega) (by omega) rfl, if_pos ⟨i0, i1⟩]
    · rw [cpK_in (a := 0) (b := 400) (by omega) (by omega) rfl, if_pos ⟨i0, i1⟩]
    · rw [cpK_in (a := 0) (b := 400) (by omega) (by omega) rfl, if_pos ⟨i0, i1⟩]
theorem s_copyT {t u o L : Nat} {W R : Int} (hd : t + 32 ≤ u ∨ u + 32 ≤ t) (h0 : 0 < o) (h1 : o + 1 < 32) (ot : Obj B0 (t + o) 7 4) (rt : rf B0 (t + o) 0 = some (t + o + 1)) (oc : Obj B0 (t + o + 1) 100 L) (ou : Obj B0 (u + o) 7 4) (ru : rf B0 (u + o) 0 = some (u + o + 1)) (oe : Obj B0 (u + o + 1) 100 L) (hb : lcB.getD o (0, 0) = (3, 4)) (hc : lcB.getD (o + 1) (0, 0) = (0, (L : Int))) (hT : TW n (t + o) W R) (hU : TW n (u + o) W R) (hL2 : (L : Int) ≤ 100000) : EV w (d + 2) mX7_copyFrom [vr (t + o), vr (u + o)] B0 (cpK n t u o) (cpK n t u (o + 2)) := by
  have q := s_copyTable (w := w) (d := d + 1) (n := cpK n t u o) (W := W) (R := R) ot rt oc ou ru oe (by omega) (by omega) (hT.congr (cpK_out (by omega))) (hU.congr (cpK_u hd (by omega) (by omega))) hL2
  rw [cpK_step hd h0 h1 hb hc] at q
  exact q
theorem s_copyLaw {t u : Nat} (hd : t + 32 ≤ u ∨ u + 32 ≤ t) (o1 : Obj B0 (t + 15) 2 4) (r1 : rf B0 (t + 15) 0 = some (t + 16)) (r2 : rf B0 (t + 15) 1 = some (t + 17)) (r3 : rf B0 (t + 15) 3 = some (t + 18)) (o2 : Obj B0 (t + 16) 100 400) (o3 : Obj B0 (t + 17) 100 400) (o4 : Obj B0 (t + 18) 7 4) (r4 : rf B0 (t + 18) 0 = some (t + 19)) (o5 : Obj B0 (t + 19) 100 48)
    (a1 : Obj B0 (u + 15) 2 4) (b1 : rf B0 (u + 15) 0 = some (u + 16)) (b2 : rf B0 (u + 15) 1 = some (u + 17)) (b3 : rf B0 (u + 15) 3 = some (u + 18)) (a2 : Obj B0 (u + 16) 100 400) (a3 : Obj B0 (u + 17) 100 400) (a4 : Obj B0 (u + 18) 7 4) (b4 : rf B0 (u + 18) 0 = some (u + 19)) (a5 : Obj B0 (u + 19) 100 48)
    (hT : TW n (t + 18) 4 12) (hU : TW n (u + 18) 4 12) : EV w (d + 2) mX2_copyFrom [vr (t + 15), vr (u + 15)] B0 (cpK n t u 15) (cpK n t u 20) := by
  refine EV.of (by decide +kernel) (Nat.le_of_ble_eq_true rfl) rfl (fun _ G => gX2_copyFrom_0 o1 r1 r2 r3 o2 o3 o4 a1 b1 b2 b3 a2 a3 a4 ?_)
  have e : ∀ q : Nat, q ≠ t + 15 → q ≠ t + 16 → q ≠ t + 17 → (upn (cpn (cpn (cpK n t u 15) (u + 16) (t + 16) 400) (u + 17) (t + 17) 400) (t + 15) 2 ((cpn (cpn (cpK n t u 15) (u + 16) (t + 16) 400) (u + 17) (t + 17) 400) (u + 15) 2)) q = cpK n t u 15 q := fun q a b c => by
    rw [upn_ne a, cpn_ne c, cpn_ne b]
  have q := s_copyTable (w := w) (d := d) (n := upn (cpn (cpn (cpK n t u 15) (u + 16) (t + 16) 400) (u + 17) (t + 17) 400) (t + 15) 2 ((cpn (cpn (cpK n t u 15) (u + 16) (t + 16) 400) (u + 17) (t + 17) 400) (u + 15) 2)) (t := t + 18) (u := u + 18) (W := 4) (R := 12) o4 r4 o5 a4 b4 a5 (by omega) (by omega) (hT.congr (by rw [e _ (by omega) (by omega) (by omega)]; exact cpK_out (by omega))) (hU.congr (by rw [e _ (by omega) (by omega) (by omega)]; exact cpK_u hd (by omega) (by omega))) (by decide)
  rw [show ((48 : Nat) : Int) = 48 from rfl, cpK_law hd] at q
  exact EV.use q ⟨rfl, rfl⟩
theorem s_lakeCopy_81_1 (hT : LakeW n 81) (hU : LakeW n 1) : EV w (d + 3) mX1_copyFrom [vr 81, vr 1] B0 n (cpK n 81 1 32) := by
  obtain ⟨t0, t1, t2, t3, t4, t5, t6, t7, t8, t9, t10, t11, t12, t13, _⟩ := hT
  obtain ⟨u0, u1, u2, u3, u4, u5, u6, u7, u8, u9, u10, u11, u12, u13, _⟩ := hU
  have c0 := s_copyT (w := w) (d := d) (n := n) (t := 81) (u := 1) (o := 1) (L := 180) (by omega) (by omega) (by omega) ob_82 rfl ob_83 ob_2 rfl ob_3 rfl rfl t0.1 u0.1 (by decide)
  have c1 := s_copyT (w := w) (d := d) (n := n) (t := 81) (u := 1) (o := 3) (L := 48) (by omega) (by omega) (by omega) ob_84 rfl ob_85 ob_4 rfl ob_5 rfl rfl t1 u1 (by decide)
  have c2 := s_copyT (w := w) (d := d) (n := n) (t := 81) (u := 1) (o := 5) (L := 48) (by omega) (by omega) (by omega) ob_86 rfl ob_87 ob_6 rfl ob_7 rfl rfl t2 u2 (by decide)
  have c3 := s_copyT (w := w) (d := d) (n := n) (t := 81) (u := 1) (o := 7) (L := 24) (by omega) (by omega) (by omega) ob_88 rfl ob_89 ob_8 rfl ob_9 rfl rfl t3 u3 (by decide)
  have c4 := s_copyT (w := w) (d := d) (n := n) (t := 81) (u := 1) (o := 9) (L := 12) (by omega) (by omega) (by omega) ob_90 rfl ob_91 ob_10 rfl ob_11 rfl rfl t4 u4 (by decide)
  have c5 := s_copyT (w := w) (d := d) (n := n) (t := 81) (u := 1) (o := 11) (L := 60) (by omega) (by omega) (by omega) ob_92 rfl ob_93 ob_12 rfl ob_13 rfl rfl t5 u5 (by decide)
  have c6 := s_copyT (w := w) (d := d) (n := n) (t := 81) (u := 1) (o := 13) (L := 280) (by omega) (by omega) (by omega) ob_94 rfl ob_95 ob_14 rfl ob_15 rfl rfl t6 u6 (by decide)
  have c7 := s_copyLaw (w := w) (d := d) (n := n) (t := 81) (u := 1) (by omega) ob_96 rfl rfl rfl ob_97 ob_98 ob_99 rfl ob_100 ob_16 rfl rfl rfl ob_17 ob_18 ob_19 rfl ob_20 t7 u7
  have c8 := s_copyT (w := w) (d := d) (n := n) (t := 81) (u := 1) (o := 20) (L := 18) (by omega) (by omega) (by omega) ob_101 rfl ob_102 ob_21 rfl ob_22 rfl rfl t8 u8 (by decide)
  have c9 := s_copyT (w := w) (d := d) (n := n) (t := 81) (u := 1) (o := 22) (L := 48) (by omega) (by omega) (by omega) ob_103 rfl ob_104 ob_23 rfl ob_24 rfl rfl t9 u9 (by decide)
  have c10 := s_copyT (w := w) (d := d) (n := n) (t := 81) (u := 1) (o := 24) (L := 40) (by omega) (by omega) (by omega) ob_105 rfl ob_106 ob_25 rfl ob_26 rfl rfl t10 u10 (by decide)
  have c11 := s_copyT (w := w) (d := d) (n := n) (t := 81) (u := 1) (o := 26) (L := 60) (by omega) (by omega) (by omega) ob_107 rfl ob_108 ob_27 rfl ob_28 rfl rfl t11.1 u11.1 (by decide)
  have c12 := s_copyT (w := w) (d := d) (n := n) (t := 81) (u := 1) (o := 28) (L := 20) (by omega) (by omega) (by omega) ob_109 rfl ob_110 ob_29 rfl ob_30 rfl rfl t12.1 u12.1 (by decide)
  have c13 := s_copyT (w := w) (d := d) (n := n) (t := 81) (u := 1) (o := 30) (L := 3) (by omega) (by omega) (by omega) ob_111 rfl ob_112 ob_31 rfl ob_32 rfl rfl t13 u13 (by decide)
  rw [cpK_1] at c0
  exact EV.of (by decide +kernel) (Nat.le_of_ble_eq_true rfl) rfl (fun _ G => gX1_copyFrom_81_1_0 (EV.use c0 (EV.use c1 (EV.use c2 (EV.use c3 (EV.use c4 (EV.use c5 (EV.use c6 (EV.use c7 (EV.use c8 (EV.use c9 (EV.use c10 (EV.use c11 (EV.use c12 (EV.use c13 ⟨rfl, rfl⟩)))))))))))))))
theorem s_lakeCopy_113_1 (hT : LakeW n 113) (hU : LakeW n 1) : EV w (d + 3) mX1_copyFrom [vr 113, vr 1] B0 n (cpK n 113 1 32) := by
  obtain ⟨t0, t1, t2, t3, t4, t5, t6, t7, t8, t9, t10, t11, t12, t13, _⟩ := hT
  obtain ⟨u0, u1, u2, u3, u4, u5, u6, u7, u8, u9, u10, u11, u12, u13, _⟩ := hU
  have c0 := s_copyT (w := w) (d := d) (n := n) (t := 113) (u := 1) (o := 1) (L := 180) (by omega) (by omega) (by omega) ob_114 rfl ob_115 ob_2 rfl ob_3 rfl rfl t0.1 u0.1 (by decide)
  have c1 := s_copyT (w := w) (d := d) (n := n) (t := 113) (u := 1) (o := 3) (L := 48) (by omega) (by omega) (by omega) ob_116 rfl ob_117 ob_4 rfl ob_5 rfl rfl t1 u1 (by decide)
  have c2 := s_copyT (w := w) (d := d) (n := n) (t := 113) (u := 1) (o := 5) (L := 48) (by omega) (by omega) (by omega) ob_118 rfl ob_119 ob_6 rfl ob_7 rfl rfl t2 u2 (by decide)
  have c3 := s_copyT (w := w) (d := d) (n := n) (t := 113) (u := 1) (o := 7) (L := 24) (by omega) (by omega) (by omega) ob_120 rfl ob_121 ob_8 rfl ob_9 rfl rfl t3 u3 (by decide)
  have c4 := s_copyT (w := w) (d := d) (n := n) (t := 113) (u := 1) (o := 9) (L := 12) (by omega) (by omega) (by omega) ob_122 rfl ob_123 ob_10 rfl ob_11 rfl rfl t4 u4 (by decide)
  have c5 := s_copyT (w := w) (d := d) (n := n) (t := 113) (u := 1) (o := 11) (L := 60) (by omega) (by omega) (by omega) ob_124 rfl ob_125 ob_12 rfl ob_13 rfl rfl t5 u5 (by decide)
  have c6 := s_copyT (w := w) (d := d) (n := n) (t := 113) (u := 1) (o := 13) (L := 280) (by omega) (by omega) (by omega) ob_126 rfl ob_127 ob_14 rfl ob_15 rfl rfl t6 u6 (by decide)
  have c7 := s_copyLaw (w := w) (d := d) (n := n) (t := 113) (u := 1) (by omega) ob_128 rfl rfl rfl ob_129 ob_130 ob_131 rfl ob_132 ob_16 rfl rfl rfl ob_17 ob_18 ob_19 rfl ob_20 t7 u7
  have c8 := s_copyT (w := w) (d := d) (n := n) (t := 113) (u := 1) (o := 20) (L := 18) (by omega) (by omega) (by omega) ob_133 rfl ob_134 ob_21 rfl ob_22 rfl rfl t8 u8 (by decide)
  have c9 := s_copyT (w := w) (d := d) (n := n) (t := 113) (u := 1) (o := 22) (L := 48) (by omega) (by omega) (by omega) ob_135 rfl ob_136 ob_23 rfl ob_24 rfl rfl t9 u9 (by decide)
  have c10 := s_copyT (w := w) (d := d) (n := n) (t := 113) (u := 1) (o := 24) (L := 40) (by omega) (by omega) (by omega) ob_137 rfl ob_138 ob_25 rfl ob_26 rfl rfl t10 u10 (by decide)
  have c11 := s_copyT (w := w) (d := d) (n := n) (t := 113) (u := 1) (o := 26) (L := 60) (by omega) (by omega) (by omega) ob_139 rfl ob_140 ob_27 rfl ob_28 rfl rfl t11.1 u11.1 (by decide)
  have c12 := s_copyT (w := w) (d := d) (n := n) (t := 113) (u := 1) (o := 28) (L := 20) (by omega) (by omega) (by omega) ob_141 rfl ob_142 ob_29 rfl ob_30 rfl rfl t12.1 u12.1 (by decide)
  have c13 := s_copyT (w := w) (d := d) (n := n) (t := 113) (u := 1) (o := 30) (L := 3) (by omega) (by omega) (by omega) ob_143 rfl ob_144 ob_31 rfl ob_32 rfl rfl t13 u13 (by decide)
  rw [cpK_1] at c0
  exact EV.of (by decide +kernel) (Nat.le_of_ble_eq_true rfl) rfl (fun _ G => gX1_copyFrom_113_1_0 (EV.use c0 (EV.use c1 (EV.use c2 (EV.use c3 (EV.use c4 (EV.use c5 (EV.use c6 (EV.use c7 (EV.use c8 (EV.use c9 (EV.use c10 (EV.use c11 (EV.use c12 (EV.use c13 ⟨rfl, rfl⟩)))))))))))))))
theorem s_lakeCopy_1_81 (hT : LakeW n 1) (hU : LakeW n 81) : EV w (d + 3) mX1_copyFrom [vr 1, vr 81] B0 n (cpK n 1 81 32) := by
  obtain ⟨t0, t1, t2, t3, t4, t5, t6, t7, t8, t9, t10, t11, t12, t13, _⟩ := hT
  obtain ⟨u0, u1, u2, u3, u4, u5, u6, u7, u8, u9, u10, u11, u12, u13, _⟩ := hU
  have c0 := s_copyT (w := w) (d := d) (n := n) (t := 1) (u := 81) (o := 1) (L := 180) (by omega) (by omega) (by omega) ob_2 rfl ob_3 ob_82 rfl ob_83 rfl rfl t0.1 u0.1 (by decide)
  have c1 := s_copyT (w := w) (d := d) (n := n) (t := 1) (u := 81) (o := 3) (L := 48) (by omega) (by omega) (by omega) ob_4 rfl ob_5 ob_84 rfl ob_85 rfl rfl t1 u1 (by decide)
  have c2 := s_copyT (w := w) (d := d) (n := n) (t := 1) (u := 81) (o := 5) (L := 48) (by omega) (by omega) (by omega) ob_6 rfl ob_7 ob_86 rfl ob_87 rfl rfl t2 u2 (by decide)
  have c3 := s_copyT (w := w) (d := d) (n := n) (t := 1) (u := 81) (o := 7) (L := 24) (by omega) (by omega) (by omega) ob_8 rfl ob_9 ob_88 rfl ob_89 rfl rfl t3 u3 (by decide)
  have c4 := s_copyT (w := w) (d := d) (n := n) (t := 1) (u := 81) (o := 9) (L := 12) (by omega) (by omega) (by omega) ob_10 rfl ob_11 ob_90 rfl ob_91 rfl rfl t4 u4 (by decide)
  have c5 := s_copyT (w := w) (d := d) (n := n) (t := 1) (u := 81) (o := 11) (L := 60) (by omega) (by omega) (by omega) ob_12 rfl ob_13 ob_92 rfl ob_93 rfl rfl t5 u5 (by decide)
  have c6 := s_copyT (w := w) (d := d) (n := n) (t := 1) (u := 81) (o := 13) (L := 280) (by omega) (by omega) (by omega) ob_14 rfl ob_15 ob_94 rfl ob_95 rfl rfl t6 u6 (by decide)
  have c7 := s_copyLaw (w := w) (d := d) (n := n) (t := 1) (u := 81) (by omega) ob_16 rfl rfl rfl ob_17 ob_18 ob_19 rfl ob_20 ob_96 rfl rfl rfl ob_97 ob_98 ob_99 rfl ob_100 t7 u7
  have c8 := s_copyT (w := w) (d := d) (n := n) (t := 1) (u := 81) (o := 20) (L := 18) (by omega) (by omega) (by omega) ob_21 rfl ob_22 ob_101 rfl ob_102 rfl rfl t8 u8 (by decide)
  have c9 := s_copyT (w := w) (d := d) (n := n) (t := 1) (u := 81) (o := 22) (L := 48) (by omega) (by omega) (by omega) ob_23 rfl ob_24 ob_103 rfl ob_104 rfl rfl t9 u9 (by decide)
  have c10 := s_copyT (w := w) (d := d) (n := n) (t := 1) (u := 81) (o := 24) (L := 40) (by omega) (by omega) (by omega) ob_25 rfl ob_26 ob_105 rfl ob_106 rfl rfl t10 u10 (by decide)
  have c11 := s_copyT (w := w) (d := d) (n := n) (t := 1) (u := 81) (o := 26) (L := 60) (by omega) (by omega) (by omega) ob_27 rfl ob_28 ob_107 rfl ob_108 rfl rfl t11.1 u11.1 (by decide)
  have c12 := s_copyT (w := w) (d := d) (n := n) (t := 1) (u := 81) (o := 28) (L := 20) (by omega) (by omega) (by omega) ob_29 rfl ob_30 ob_109 rfl ob_110 rfl rfl t12.1 u12.1 (by decide)
  have c13 := s_copyT (w := w) (d := d) (n := n) (t := 1) (u := 81) (o := 30) (L := 3) (by omega) (by omega) (by omega) ob_31 rfl ob_32 ob_111 rfl ob_112 rfl rfl t13 u13 (by decide)
  rw [cpK_1] at c0
  exact EV.of (by decide +kernel) (Nat.le_of_ble_eq_true rfl) rfl (fun _ G => gX1_copyFrom_1_81_0 (EV.use c0 (EV.use c1 (EV.use c2 (EV.use c3 (EV.use c4 (EV.use c5 (EV.use c6 (EV.use c7 (EV.use c8 (EV.use c9 (EV.use c10 (EV.use c11 (EV.use c12 (EV.use c13 ⟨rfl, rfl⟩)))))))))))))))
theorem s_lakeCopy_1_113 (hT : LakeW n 1) (hU : LakeW n 113) : EV w (d + 3) mX1_copyFrom [vr 1, vr 113] B0 n (cpK n 1 113 32) := by
  obtain ⟨t0, t1, t2, t3, t4, t5, t6, t7, t8, t9, t10, t11, t12, t13, _⟩ := hT
  obtain ⟨u0, u1, u2, u3, u4, u5, u6, u7, u8, u9, u10, u11, u12, u13, _⟩ := hU
  have c0 := s_copyT (w := w) (d := d) (n := n) (t := 1) (u := 113) (o := 1) (L := 180) (by omega) (by omega) (by omega) ob_2 rfl ob_3 ob_114 rfl ob_115 rfl rfl t0.1 u0.1 (by decide)
  have c1 := s_copyT (w := w) (d := d) (n := n) (t := 1) (u := 113) (o := 3) (L := 48) (by omega) (by omega) (by omega) ob_4 rfl ob_5 ob_116 rfl ob_117 rfl rfl t1 u1 (by decide)
  have c2 := s_copyT (w := w) (d := d) (n := n) (t := 1) (u := 113) (o := 5) (L := 48) (by omega) (by omega) (by omega) ob_6 rfl ob_7 ob_118 rfl ob_119 rfl rfl t2 u2 (by decide)
  have c3 := s_copyT (w := w) (d := d) (n := n) (t := 1) (u := 113) (o := 7) (L := 24) (by omega) (by omega) (by omega) ob_8 rfl ob_9 ob_120 rfl ob_121 rfl rfl t3 u3 (by decide)
  have c4 := s_copyT (w := w) (d := d) (n := n) (t := 1) (u := 113) (o := 9) (L := 12) (by omega) (by omega) (by omega) ob_10 rfl ob_11 ob_122 rfl ob_123 rfl rfl t4 u4 (by decide)
  have c5 := s_copyT (w := w) (d := d) (n := n) (t := 1) (u := 113) (o := 11) (L := 60) (by omega) (by omega) (by omega) ob_12 rfl ob_13 ob_124 rfl ob_125 rfl rfl t5 u5 (by decide)
  have c6 := s_copyT (w := w) (d := d) (n := n) (t := 1) (u := 113) (o := 13) (L := 280) (by omega) (by omega) (by omega) ob_14 rfl ob_15 ob_126 rfl ob_127 rfl rfl t6 u6 (by decide)
  have c7 := s_copyLaw (w := w) (d := d) (n := n) (t := 1) (u := 113) (by omega) ob_16 rfl rfl rfl ob_17 ob_18 ob_19 rfl ob_20 ob_128 rfl rfl rfl ob_129 ob_130 ob_131 rfl ob_132 t7 u7
  have c8 := s_copyT (w := w) (d := d) (n := n) (t := 1) (u := 113) (o := 20) (L := 18) (by omega) (by omega) (by omega) ob_21 rfl ob_22 ob_133 rfl ob_134 rfl rfl t8 u8 (by decide)
  have c9 := s_copyT (w := w) (d := d) (n := n) (t := 1) (u := 113) (o := 22) (L := 48) (by omega) (by omega) (by omega) ob_23 rfl ob_24 ob_135 rfl ob_136 rfl rfl t9 u9 (by decide)
  have c10 := s_copyT (w := w) (d := d) (n := n) (t := 1) (u := 113) (o := 24) (L := 40) (by omega) (by omega) (by omega) ob_25 rfl ob_26 ob_137 rfl ob_138 rfl rfl t10 u10 (by decide)
  have c11 := s_copyT (w := w) (d := d) (n := n) (t := 1) (u := 113) (o := 26) (L := 60) (by omega) (by omega) (by omega) ob_27 rfl ob_28 ob_139 rfl ob_140 rfl rfl t11.1 u11.1 (by decide)
  have c12 := s_copyT (w := w) (d := d) (n := n) (t := 1) (u := 113) (o := 28) (L := 20) (by omega) (by omega) (by omega) ob_29 rfl ob_30 ob_141 rfl ob_142 rfl rfl t12.1 u12.1 (by decide)
  have c13 := s_copyT (w := w) (d := d) (n := n) (t := 1) (u := 113) (o := 30) (L := 3) (by omega) (by omega) (by omega) ob_31 rfl ob_32 ob_143 rfl ob_144 rfl rfl t13 u13 (by decide)
  rw [cpK_1] at c0
  exact EV.of (by decide +kernel) (Nat.le_of_ble_eq_true rfl) rfl (fun _ G => gX1_copyFrom_1_113_0 (EV.use c0 (EV.use c1 (EV.use c2 (EV.use c3 (EV.use c4 (EV.use c5 (EV.use c6 (EV.use c7 (EV.use c8 (EV.use c9 (EV.use c10 (EV.use c11 (EV.use c12 (EV.use c13 ⟨rfl, rfl⟩)))))))))))))))
end LCOPY
