section STLAW
variable {w : WD} {d : Nat} {n : NM}
theorem Rel.law {k : Int} {z : NM} (h : Rel k n) (f : ∀ t : Nat, ((0 < t ∧ t < 37 ∧ t ≠ 35 ∧ (t < 16 ∨ 20 < t)) ∨ (76 < t ∧ t < 145 ∧ t ≠ 80) ∨ (146 < t ∧ t ≤ 150 ∧ t ≠ 147) ∨ t = 164) → z t = n t) (h35 : z 35 1 = 0) (h8 : z 145 8 = 0) (h37 : z 145 37 = n 145 37) (hW : TW z 45 4 12) (hm : MiscRel (k + 1) z) (hl : LakeRel z 1 (z 147)) (hr : RowOk (z 147)) : Rel (k + 1) z :=
  ⟨hl, hr, h.2.2.1.congr (fun t a b => f t (by omega)) (f 34 (by omega)) (f 148 (by omega)) (f 149 (by omega)), h.2.2.2.1.congr (fun t a b => f t (by omega)) (f 34 (by omega)) (f 148 (by omega)) (f 149 (by omega)), ⟨by omega, by omega, by omega, fun i a b => by omega⟩, hm, h.2.2.2.2.2.2.1.congr (f 77 (by omega)) (f 78 (by omega)) (f 79 (by omega)) (f 164 (by omega)) h37, hW⟩
theorem s_draft : Ev w d 0 0 mX3_draft [vr 37] (B0, n) (fun r h' => ∃ n26 : NM, r = some (vr 42) ∧ h' = (B0, n26) ∧ n26 = n) :=
  Ev.ofB (by decide +kernel) (Nat.le_of_ble_eq_true rfl) rfl (fun r h' z => by obtain ⟨n1, _, b, _⟩ := z; rw [b]) (fun _ G => gX3_draft_0 ⟨n, rfl, rfl, rfl⟩)
theorem s_lawCopy (hT : TW n 19 4 12) (hU : TW n 45 4 12) : Ev w (d + 2) 0 0 mX2_copyFrom [vr 16, vr 42] (B0, n) (fun r h' => ∃ n1 : NM, r = none ∧ h' = (B0, n1) ∧ (∀ t : Nat, t < 16 ∨ 20 < t → n1 t = n t) ∧ n1 16 2 = n 42 2 ∧ (∀ i : Int, 0 ≤ i → i < 400 → n1 17 i = n 43 i ∧ n1 18 i = n 44 i) ∧ TW n1 19 4 12 ∧ n1 19 3 = n 45 3 ∧ ∀ i : Int, 0 ≤ i → i < 48 → n1 20 i = n 46 i) := by
  refine EV.ofP (by decide +kernel) (Nat.le_of_ble_eq_true rfl) rfl (fun _ G => gX2_copyFrom_0 ob_16 (k := 17) (v := 18) (t := 19) rfl rfl rfl ob_17 ob_18 ob_19 ob_42 (k2 := 43) (v2 := 44) (t2 := 45) rfl rfl rfl ob_43 ob_44 ob_45 ?_)
  have e : ∀ q : Nat, q ≠ 16 → q ≠ 17 → q ≠ 18 → (upn (cpn (cpn n 43 17 400) 44 18 400) 16 2 ((cpn (cpn n 43 17 400) 44 18 400) 42 2)) q = n q := fun q a b c => by
    rw [upn_ne a, cpn_ne c, cpn_ne b]
  have q := s_copyTable (w := w) (d := d) (n := upn (cpn (cpn n 43 17 400) 44 18 400) 16 2 ((cpn (cpn n 43 17 400) 44 18 400) 42 2)) (t := 19) (u := 45) (L := 48) (W := 4) (R := 12) ob_19 rfl ob_20 ob_45 rfl ob_46 (by decide) (by decide) (hT.congr (e 19 (by decide) (by decide) (by decide))) (hU.congr (e 45 (by decide) (by decide) (by decide))) (by decide)
  refine EV.use q ⟨_, rfl, rfl, fun t c => ?_, ?_, fun i i0 i1 => ⟨?_, ?_⟩, ?_, ?_, fun i i0 i1 => ?_⟩
  · rw [tcp_ne (by omega) (by omega), e t (by omega) (by omega) (by omega)]
  · rw [tcp_ne (by decide) (by decide), upn_self, cpn_ne (by decide), cpn_ne (by decide)]
  · rw [tcp_ne (by decide) (by decide), upn_ne (by decide), cpn_ne (by decide)]
    unfold cpn
    rw [if_pos ⟨rfl, i0, i1⟩]
  · rw [tcp_ne (by decide) (by decide), upn_ne (by decide)]
    show cpn (cpn n 43 17 400) 44 18 400 18 i = _
    have : cpn (cpn n 43 17 400) 44 18 400 18 i = (cpn n 43 17 400) 44 i := if_pos ⟨rfl, i0, i1⟩
    rw [this, cpn_ne (by decide)]
  · unfold TW
    rw [tcp_t, tcp_t, tcp_t, if_neg (by decide), if_neg (by decide), if_pos rfl, e 19 (by decide) (by decide) (by decide), e 45 (by decide) (by decide) (by decide)]
    exact ⟨hT.1, hT.2.1, hU.2.2⟩
  · rw [tcp_t, if_pos rfl, e 45 (by decide) (by decide) (by decide)]
  · have := tcp_c (n := upn (cpn (cpn n 43 17 400) 44 18 400) 16 2 ((cpn (cpn n 43 17 400) 44 18 400) 42 2)) (t := 19) (u := 45) (L := ((48 : Nat) : Int)) i0 i1
    rw [this, e 46 (by decide) (by decide) (by decide)]
/-- the reference's row as the law is laid down in it -/
def RwP (m2 n' : NM) (N x y : Int) : Prop := (∀ (t : Nat) (i : Int), (t ≠ 147 ∨ i < 901) → n' t i = m2 t i) ∧ n' 147 901 = N ∧ (∀ i : Int, 0 ≤ i → i < x → n' 147 (902 + i) = m2 151 i) ∧ ∀ i : Int, 0 ≤ i → i < y → n' 147 (998 + 2 * i) = m2 152 i ∧ n' 147 (998 + 2 * i + 1) = m2 153 i
theorem m_law142 {G : GM} {Q : Option AV → Hp → Prop} {m2 : NM} {N M : Int} (hN : 0 ≤ N ∧ N ≤ 12) (hM : 0 ≤ M ∧ M ≤ 400) (h15 : m2 145 15 = N) (h17 : m2 145 17 = M) (K : ∀ n' : NM, RwP m2 n' N (8 * N) M → Q (some (vi N)) (B0, upn n' 145 1 0)) : ∀ (k : Nat) (x : Int) (n' : NM), x + k = M → 0 ≤ x → RwP m2 n' N (8 * N) x → Rn w mX12_law (d + 1) G Q 142 [(0, vr 145), (1, vi x)] [] (B0, n')
  | 0, x, n', hk, x0, h => by
    have ex : x = M := by omega
    subst ex
    refine gX12_law_142 ⟨fun _ => ?_, fun c => ?_⟩
    · rw [h.1 145 15 (by omega), h15]
      exact EI.use (m_tell0 hN.1) (K n' h)
    · rw [h.1 145 17 (by omega)] at c
      omega
  | k + 1, x, n', hk, x0, h => by
    have e17 := h.1 145 17 (by omega)
    refine gX12_law_142 ⟨fun c => by omega, fun c => ⟨⟨by omega, by omega⟩, ⟨by omega, by omega⟩, by omega, by omega, by omega, by omega, ⟨by omega, by omega⟩, ⟨by omega, by omega⟩, ⟨by omega, by omega⟩, by omega, by omega, by omega, by omega, ⟨by omega, by omega⟩, m_law142 hN hM h15 h17 K k (x + 1) _ (by omega) (by omega) ⟨fun t i c2 => ?_, ?_, fun i i0 i1 => ?_, fun i i0 i1 => ⟨?_, ?_⟩⟩⟩⟩
    · rw [upn_ap, if_neg (by omega), upn_ap, if_neg (by omega)]
      exact h.1 t i c2
    · rw [upn_i (by omega), upn_i (by omega)]
      exact h.2.1
    · rw [upn_i (by omega), upn_i (by omega)]
      exact h.2.2.1 i i0 i1
    · by_cases q : i = x
      · rw [q, upn_i (by omega), upn_self]
        exact h.1 152 x (by omega)
      · rw [upn_i (by omega), upn_i (by omega)]
        exact (h.2.2.2 i i0 (by omega)).1
    · by_cases q : i = x
      · rw [q, upn_self]
        exact h.1 153 x (by omega)
      · rw [upn_i (by omega), upn_i (by omega)]
        exact (h.2.2.2 i i0 (by omega)).2
theorem m_law107 {G : GM} {Q : Option AV → Hp → Prop} {m2 : NM} {N : Int} (hN : 0 ≤ N ∧ N ≤ 12) (h15 : m2 145 15 = N) (K : ∀ n' : NM, RwP m2 n' N (8 * N) 0 → Rn w mX12_law d G Q 142 [(0, vr 145), (1, vi 0)] [] (B0, n')) : ∀ (k : Nat) (x : Int) (n' : NM), x + k = 8 * N → 0 ≤ x → RwP m2 n' N x 0 → Rn w mX12_law d G Q 107 [(0, vr 145), (1, vi x)] [] (B0, n')
  | 0, x, n', hk, x0, h => by
    have e15 := h.1 145 15 (by omega)
    have ex : x = 8 * N := by omega
    refine gX12_law_107 ⟨⟨by omega, by omega⟩, fun _ => K n' (by rw [← ex]; exact h), fun c => by omega⟩
  | k + 1, x, n', hk, x0, h => by
    have e15 := h.1 145 15 (by omega)
    refine gX12_law_107 ⟨⟨by omega, by omega⟩, fun c => by omega, fun c => ⟨⟨by omega, by omega⟩, by omega, by omega, by omega, by omega, ⟨by omega, by omega⟩, m_law107 hN h15 K k (x + 1) _ (by omega) (by omega) ⟨fun t i c2 => ?_, ?_, fun i i0 i1 => ?_, fun i i0 i1 => by omega⟩⟩⟩
    · rw [upn_ap, if_neg (by omega)]
      exact h.1 t i c2
    · rw [upn_i (by omega)]
      exact h.2.1
    · by_cases q : i = x
      · rw [q, upn_self]
        exact h.1 151 x (by omega)
      · rw [upn_i (by omega)]
        exact h.2.2.1 i i0 (by omega)
theorem cut_in {f : Int → Int} {N i : Int} (h0 : 0 ≤ i) (h1 : i < N) : cutF f N i = f i := if_pos ⟨h0, h1⟩
theorem rowL_in {r : Int → Int} {i : Int} (h0 : 901 ≤ i) (h1 : i < 1800) : rowL r i = r i := if_pos ⟨h0, h1⟩
theorem st_law {k : Int} (h : Rel k n) (hk : k ≤ 900) : LS2 w (d + 83) k n mX11_law [] mX12_law [] := by
  have hm := h.2.2.2.2.2.1
  unfold MiscRel at hm
  have tp := h.2.2.2.2.1
  have hcl : TpC n (n 36) (n 35 1) := ⟨⟨tp.1, tp.2.1⟩, rfl, rfl, fun i a b => (tp.2.2.2 i a b).2⟩
  have hmd : ∀ c : NM, (∀ j : Int, c 145 j = n 145 j) → (∀ j : Int, c 150 j = n 150 j) → TpM c (n 36) (n 35 1) := fun c a b => ⟨⟨tp.1, tp.2.1⟩, (a 8).trans tp.2.2.1, fun i i0 i1 => (b i).trans (tp.2.2.2 i i0 i1).1, fun i i0 i1 => (tp.2.2.2 i i0 i1).2⟩
  have few := h.few (by omega)
  rcases sp_law (w := w) (d := d) (T := n 36) (L := n 35 1) ⟨tp.1, tp.2.1⟩ with ⟨q, hq, hC, hM⟩ | ⟨R, lf, hok, h12, hlf, hp, hC, hM⟩
  · refine ⟨-6, fun c => ∃ n1 : NM, FrL n1 n ∧ TW n1 45 4 12 ∧ c = cref (upn (upn n1 0 11 q) 35 1 0) (-6), ?_, fun c hc => ?_⟩
    · refine EI.ofP (by decide +kernel) (Nat.le_of_ble_eq_true rfl) rfl (fun _ G => gX11_law_0 (EV.usP (Ev.deep (by omega) (hC n hcl h.2.2.2.2.2.2.2)) (fun n1 z => ?_)))
      have fp : EI w (d + 82) mX3_faultPlace [vr 37] B0 n1 q n1 := EI.of (by decide +kernel) (Nat.le_of_ble_eq_true rfl) rfl (fun _ G => gX3_faultPlace_0 ⟨by rw [z.1], rfl⟩)
      have ct : EV w (d + 82) mX8_cutTo [vr 35, vi 0] B0 (upn n1 0 11 q) (upn (upn n1 0 11 q) 35 1 0) := EV.of (by decide +kernel) (Nat.le_of_ble_eq_true rfl) rfl (fun _ G => gX8_cutTo_0 ⟨rfl, by
        have e35 : (upn n1 0 11 q) 35 1 = n 35 1 := by rw [upn_a (by decide), z.2.2 35 (by omega)]
        rw [e35, show max 0 (min 0 (n 35 1)) = 0 by have := tp.1; omega]⟩)
      refine EI.use fp (EV.use ct ⟨fun c => ?_, fun _ => EI.use (s_refuse (Or.inr (Or.inr (Or.inr rfl))) (fun i a b => ?_)) ⟨_, _, rfl, rfl, rfl, n1, z.2.2, z.2.1, rfl⟩⟩)
      · rw [upn_a (by decide), upn_self] at c
        omega
      · rw [upn_a (by decide), upn_a (by decide), z.2.2 80 (by omega)]
        exact few i a b
    · obtain ⟨n1, f1, w1, rfl⟩ := hc
      have hcv : ∀ (t : Nat) (x : Int), cref (upn (upn n1 0 11 q) 35 1 0) (-6) t x = if t = 80 ∧ x = 3 then n 80 3 + 1 else if t = 0 ∧ x = 10 then -6 else if t = 35 ∧ x = 1 then 0 else if t = 0 ∧ x = 11 then q else n1 t x := fun t x => by
        have e : cref (upn (upn n1 0 11 q) 35 1 0) (-6) = upn (upn (upn (upn n1 0 11 q) 35 1 0) 0 10 (-6)) 80 3 (upn (upn n1 0 11 q) 35 1 0 80 3 + 1) := rfl
        rw [e, upn_a (show (80 : Nat) ≠ 35 by decide), upn_a (show (80 : Nat) ≠ 0 by decide), f1 80 (by omega), upn_ap, upn_ap, upn_ap, upn_ap]
      generalize hcc : cref (upn (upn n1 0 11 q) 35 1 0) (-6) = c at hcv ⊢
      have c145 : ∀ j : Int, c 145 j = n 145 j := fun j => by
        rw [hcv, if_neg (by omega), if_neg (by omega), if_neg (by omega), if_neg (by omega), f1 145 (by omega)]
      have c150 : ∀ j : Int, c 150 j = n 150 j := fun j => by
        rw [hcv, if_neg (by omega), if_neg (by omega), if_neg (by omega), if_neg (by omega), f1 150 (by omega)]
      have cf : ∀ (t : Nat) (x : Int), t ≠ 0 → t ≠ 35 → t ≠ 80 → c t x = n1 t x := fun t x a b e => by
        rw [hcv, if_neg (by omega), if_neg (by omega), if_neg (by omega), if_neg (by omega)]
      refine Ev.deep (d := d + 81) (by omega) (EI.ofP (by decide +kernel) (Nat.le_of_ble_eq_true rfl) rfl (fun _ G => ?_))
      refine hM c G _ (hmd c c145 c150) (fun m1 a14 a13 fN => ?_)
      have m146 : ∀ x : Int, m1 146 x = n 146 x := fun x => by
        rw [fN 146 x (by omega), upn_a (by decide), cf 146 x (by decide) (by decide) (by decide), f1 146 (by omega)]
      have mt : ∀ (t : Nat) (x : Int), t ≠ 145 → (t < 145 ∨ 155 < t ∨ (145 < t ∧ t < 151)) → m1 t x = c t x := fun t x a b => by
        rw [fN t x (by omega), upn_a a]
      refine gX12_law_74 ⟨fun z => absurd (a14.symm.trans z) (by decide), fun _ => EI.use (m_tellR (Or.inr (Or.inr (Or.inr rfl))) ?_) ⟨-6, _, rfl, rfl, rfl, ?_⟩⟩
      · rw [upn_a (by decide), m146]
        have := few 3 (by decide) (by decide)
        have e6 := hm.2.2.2.2.2.2.1
        rw [show (-(-6 : Int)) = 6 by decide]
        omega
      · have zv : ∀ (t : Nat) (x : Int), mref (upn m1 145 8 0) (-6) t x = if t = 146 ∧ x = 6 then n 146 6 + 1 else if t = 145 ∧ x = 1 then -6 else if t = 145 ∧ x = 8 then 0 else m1 t x := fun t x => by
          have e : mref (upn m1 145 8 0) (-6) = upn (upn (upn m1 145 8 0) 145 1 (-6)) 146 6 (upn m1 145 8 0 146 6 + 1) := rfl
          rw [e, upn_a (show (146 : Nat) ≠ 145 by decide), m146, upn_ap, upn_ap, upn_ap]
        generalize mref (upn m1 145 8 0) (-6) = z at zv ⊢
        have zt : ∀ (t : Nat) (x : Int), t ≠ 145 → t ≠ 146 → (t < 145 ∨ 155 < t ∨ (145 < t ∧ t < 151)) → z t x = c t x := fun t x a b e => by
          rw [zv, if_neg (by omega), if_neg (by omega), if_neg (by omega), mt t x a e]
        have zn : ∀ t : Nat, t ≠ 145 → t ≠ 146 → t ≠ 0 → t ≠ 35 → t ≠ 80 → (t < 37 ∨ (46 < t ∧ t < 145) ∨ 155 < t ∨ (145 < t ∧ t < 151)) → z t = n t := fun t a b a1 b1 e1 e => by
          funext x
          rw [zt t x a b (by omega), cf t x a1 b1 e1, f1 t (by omega)]
        have z145 : ∀ x : Int, x ≠ 1 → x ≠ 8 → (x < 9 ∨ 24 < x) → x ≠ 0 → z 145 x = n 145 x := fun x a b e e0 => by
          rw [zv, if_neg (by omega), if_neg (by omega), if_neg (by omega), fN 145 x (by omega), upn_i e0, c145]
        have e147 : z 147 = n 147 := zn 147 (by decide) (by decide) (by decide) (by decide) (by decide) (by omega)
        refine h.law (fun t a => zn t (by omega) (by omega) (by omega) (by omega) (by omega) (by omega)) ?_ ?_ (z145 37 (by decide) (by decide) (by omega) (by decide)) ?_ ?_ ?_ ?_
        · rw [zt 35 1 (by decide) (by decide) (by omega), hcv, if_neg (by omega), if_neg (by omega), if_pos ⟨rfl, rfl⟩]
        · rw [zv, if_neg (by omega), if_neg (by omega), if_pos ⟨rfl, rfl⟩]
        · refine w1.congr ?_
          funext x
          rw [zt 45 x (by decide) (by decide) (by omega), cf 45 x (by decide) (by decide) (by decide)]
        · unfold MiscRel
          have n80 : ∀ x : Int, x ≠ 3 → z 80 x = n 80 x := fun x a => by
            rw [zt 80 x (by decide) (by decide) (by omega), hcv, if_neg (by omega), if_neg (by omega), if_neg (by omega), if_neg (by omega), f1 80 (by omega)]
          have n146 : ∀ x : Int, x ≠ 6 → z 146 x = n 146 x := fun x a => by
            rw [zv, if_neg (by omega), if_neg (by omega), if_neg (by omega), m146]
          have v1 : z 145 1 = -6 := by rw [zv, if_neg (by omega), if_pos ⟨rfl, rfl⟩]
          have v2 : z 0 10 = -6 := by rw [zt 0 10 (by decide) (by decide) (by omega), hcv, if_neg (by omega), if_pos ⟨rfl, rfl⟩]
          have v3 : z 145 13 = q := by rw [zv, if_neg (by omega), if_neg (by omega), if_neg (by omega), a13]
          have v4 : z 0 11 = q := by rw [zt 0 11 (by decide) (by decide) (by omega), hcv, if_neg (by omega), if_neg (by omega), if_neg (by omega), if_pos ⟨rfl, rfl⟩]
          have v5 : z 0 12 = n 0 12 := by rw [zt 0 12 (by decide) (by decide) (by omega), hcv, if_neg (by omega), if_neg (by omega), if_neg (by omega), if_neg (by omega), f1 0 (by omega)]
          have v6 : z 146 6 = n 146 6 + 1 := by rw [zv, if_pos ⟨rfl, rfl⟩]
          have v7 : z 80 3 = n 80 3 + 1 := by rw [zt 80 3 (by decide) (by decide) (by omega), hcv, if_pos ⟨rfl, rfl⟩]
          rw [v1, v2, v3, v4, v5, v6, v7, z145 6 (by decide) (by decide) (by omega) (by decide), n146 1 (by decide), n146 2 (by decide), n146 5 (by decide), n80 0 (by decide), n80 1 (by decide), n80 2 (by decide)]
          omega
        · rw [e147]
          exact h.1.congr (fun t a b => zn t (by omega) (by omega) (by omega) (by omega) (by omega) (by omega)) (fun _ _ _ => rfl)
        · rw [e147]
          exact h.2.1
  · refine ⟨(R.length : Int), fun c => (∀ t : Nat, ((0 < t ∧ t < 37 ∧ t ≠ 35 ∧ (t < 16 ∨ 20 < t)) ∨ 46 < t) → c t = n t) ∧ (c 0 10 = 0 ∧ c 0 11 = -1 ∧ c 0 12 = n 0 12) ∧ c 35 1 = 0 ∧ (c 16 2 = ((cAll R).length : Int) ∧ (cAll R).length ≤ 400) ∧ EmbC (c 17) (c 18) 0 (cAll R) ∧ TW c 19 4 12 ∧ c 19 3 = (R.length : Int) ∧ TbC (c 20) 0 0 R ∧ TW c 45 4 12, ?_, fun c hc => ?_⟩
    · refine EI.ofP (by decide +kernel) (Nat.le_of_ble_eq_true rfl) rfl (fun _ G => gX11_law_0 (EV.usP (Ev.deep (by omega) (hC n hcl h.2.2.2.2.2.2.2)) (fun n1 z => ?_)))
      obtain ⟨z1, z2, z3, z4, z5, z6, zf⟩ := z
      have fp : EI w (d + 82) mX3_faultPlace [vr 37] B0 n1 (-1) n1 := EI.of (by decide +kernel) (Nat.le_of_ble_eq_true rfl) rfl (fun _ G => gX3_faultPlace_0 ⟨by rw [z1], rfl⟩)
      have ct : EV w (d + 82) mX8_cutTo [vr 35, vi 0] B0 (upn n1 0 11 (-1)) (upn (upn n1 0 11 (-1)) 35 1 0) := EV.of (by decide +kernel) (Nat.le_of_ble_eq_true rfl) rfl (fun _ G => gX8_cutTo_0 ⟨rfl, by
        have e35 : (upn n1 0 11 (-1)) 35 1 = n 35 1 := by rw [upn_a (by decide), zf 35 (by omega)]
        rw [e35, show max 0 (min 0 (n 35 1)) = 0 by have := tp.1; omega]⟩)
      have e : ∀ t : Nat, t ≠ 0 → t ≠ 35 → (upn (upn n1 0 11 (-1)) 35 1 0) t = n1 t := fun t a b => by rw [upn_ne b, upn_ne a]
      have w19 : TW n 19 4 12 := h.1.W.2.2.2.2.2.2.2.1
      refine EI.use fp (EV.use ct ⟨fun _ => ?_, fun c => ?_⟩)
      · refine Ev.mono (s_draft (w := w) (d := d + 82)) (fun r h' y => ?_)
        obtain ⟨n26, y1, y2, y3⟩ := y
        subst y3
        refine ⟨_, y1, y2, EV.usP (s_lawCopy (d := d + 80) (w19.congr (by rw [e 19 (by decide) (by decide), zf 19 (by omega)])) (z4.congr (e 45 (by decide) (by decide)))) (fun n2 c => ?_)⟩
        obtain ⟨c1, c2, c3, c4, c5, c6⟩ := c
        have sz : EI w (d + 82) mX2_size [vr 16] B0 n2 (n2 19 3) n2 := EI.of (by decide +kernel) (Nat.le_of_ble_eq_true rfl) rfl (fun _ G => gX2_size_0 ob_16 (k := 17) (v := 18) (t := 19) rfl rfl rfl ob_17 ob_18 ob_19 (EI.use (s_size ob_19 (c := 20) rfl ob_20) ⟨rfl, rfl⟩))
        have e19 : n2 19 3 = (R.length : Int) := by rw [c5, e 45 (by decide) (by decide), z5]
        rw [e19] at sz
        have g : ∀ t : Nat, t ≠ 0 → (upn n2 0 10 0) t = n2 t := fun t a => upn_ne a
        refine EI.use sz (EI.use (s_accept _) ⟨_, _, rfl, rfl, rfl, fun t a => ?_, ⟨upn_self _ _ _ _, ?_, ?_⟩, ?_, ⟨?_, z2.2⟩, ?_, ?_, ?_, ?_, ?_⟩)
        · rw [g t (by omega), c1 t (by omega), e t (by omega) (by omega), zf t (by omega)]
        · rw [upn_i (by decide), c1 0 (by omega), upn_a (by decide), upn_self]
        · rw [upn_i (by decide), c1 0 (by omega), upn_a (by decide), upn_i (by decide), zf 0 (by omega)]
        · rw [g 35 (by decide), c1 35 (by omega), upn_self]
        · rw [g 16 (by decide), c2, e 42 (by decide) (by decide)]
          exact z2.1
        · rw [g 17 (by decide), g 18 (by decide)]
          refine embC_congr _ _ (fun i i0 i1 => ?_) z3
          have := c3 i i0 (by have := z2.2; omega)
          rw [e 43 (by decide) (by decide), e 44 (by decide) (by decide)] at this
          exact this
        · exact c4.congr (g 19 (by decide))
        · rw [g 19 (by decide)]
          exact e19
        · rw [g 20 (by decide)]
          refine tbC_congr (fun i i0 i1 => ?_) z6
          rw [c6 i (by omega) (by omega), e 46 (by decide) (by decide)]
        · refine z4.congr ?_
          rw [g 45 (by decide), c1 45 (by omega), e 45 (by decide) (by decide)]
      · rw [upn_a (by decide), upn_self] at c
        exact absurd rfl c
    · obtain ⟨cf, ⟨c10, c11, c12⟩, c35, ⟨c16, cl⟩, ce, cw, c19, ct, cw45⟩ := hc
      refine Ev.deep (d := d + 81) (by omega) (EI.ofP (by decide +kernel) (Nat.le_of_ble_eq_true rfl) rfl (fun _ G => ?_))
      refine hM c G _ (hmd c (fun j => by rw [cf 145 (by omega)]) (fun j => by rw [cf 150 (by omega)])) (fun m1 a14 a13 a15 a17 em tm fN => ?_)
      have mt : ∀ (t : Nat) (x : Int), t ≠ 145 → (t < 145 ∨ 155 < t ∨ (145 < t ∧ t < 151)) → m1 t x = c t x := fun t x a b => by
        rw [fN t x (by omega), upn_a a]
      have hN : 0 ≤ (R.length : Int) ∧ (R.length : Int) ≤ 12 := by omega
      have hMl : 0 ≤ ((mAll R).length : Int) ∧ ((mAll R).length : Int) ≤ 400 := by have := a17.2; omega
      refine gX12_law_74 ⟨fun _ => ?_, fun c => absurd a14 c⟩
      rw [a15]
      have b15 : (upn (upn m1 145 8 0) 147 901 (R.length : Int)) 145 15 = (R.length : Int) := by rw [upn_a (by decide), upn_i (by decide), a15]
      have b17 : (upn (upn m1 145 8 0) 147 901 (R.length : Int)) 145 17 = ((mAll R).length : Int) := by rw [upn_a (by decide), upn_i (by decide)]; exact a17.1
      refine m_law107 (N := (R.length : Int)) (d := d + 81) (m2 := upn (upn m1 145 8 0) 147 901 (R.length : Int)) hN b15 (fun n2 p2 => m_law142 (d := d + 80) (m2 := upn (upn m1 145 8 0) 147 901 (R.length : Int)) hN hMl b15 b17 (fun n3 p3 => ?_) (mAll R).length 0 n2 (by omega) (Int.le_refl _) p2) (8 * R.length) 0 _ (by omega) (Int.le_refl _) ⟨fun _ _ _ => rfl, upn_self _ _ _ _, fun i a b => by omega, fun i a b => by omega⟩
      refine ⟨_, _, rfl, rfl, rfl, ?_⟩
      obtain ⟨p1, p901, pc, pm⟩ := p3
      have zv : ∀ (t : Nat) (x : Int), (t ≠ 147 ∨ x < 901) → (upn n3 145 1 0) t x = if t = 145 ∧ x = 1 then 0 else if t = 145 ∧ x = 8 then 0 else m1 t x := fun t x a => by
        rw [upn_ap, p1 t x a, upn_ap, if_neg (show ¬ (t = 147 ∧ x = 901) by omega), upn_ap]
      have z147 : ∀ x : Int, (upn n3 145 1 0) 147 x = n3 147 x := fun x => upn_a (by decide)
      generalize upn n3 145 1 0 = z at zv z147 ⊢
      have zt : ∀ (t : Nat) (x : Int), t ≠ 145 → (t ≠ 147 ∨ x < 901) → (t < 145 ∨ 155 < t ∨ (145 < t ∧ t < 151)) → z t x = c t x := fun t x a b e => by
        rw [zv t x b, if_neg (by omega), if_neg (by omega), mt t x a e]
      have zc : ∀ t : Nat, t ≠ 145 → t ≠ 147 → (t < 145 ∨ 155 < t ∨ (145 < t ∧ t < 151)) → z t = c t := fun t a b e => by
        funext x
        exact zt t x a (Or.inl b) e
      have zn : ∀ t : Nat, t ≠ 145 → t ≠ 147 → ((0 < t ∧ t < 37 ∧ t ≠ 35 ∧ (t < 16 ∨ 20 < t)) ∨ (46 < t ∧ t < 151) ∨ 155 < t) → z t = n t := fun t a b e => by
        rw [zc t a b (by omega), cf t (by omega)]
      have z145 : ∀ x : Int, x ≠ 0 → x ≠ 1 → x ≠ 8 → (x < 9 ∨ 24 < x) → z 145 x = n 145 x := fun x a a1 b e => by
        rw [zv 145 x (Or.inl (by decide)), if_neg (by omega), if_neg (by omega), fN 145 x (by omega), upn_i a, cf 145 (by omega)]
      have r147 : ∀ x : Int, x < 901 → z 147 x = n 147 x := fun x a => by
        rw [zt 147 x (by decide) (Or.inr a) (by omega), cf 147 (by omega)]
      refine h.law (fun t a => zn t (by omega) (by omega) (by omega)) ?_ ?_ (z145 37 (by decide) (by decide) (by decide) (by omega)) ?_ ?_ ?_ ?_
      · rw [zc 35 (by decide) (by decide) (by omega)]
        exact c35
      · rw [zv 145 8 (Or.inl (by decide)), if_neg (by omega), if_pos ⟨rfl, rfl⟩]
      · exact cw45.congr (zc 45 (by decide) (by decide) (by omega))
      · unfold MiscRel
        have v1 : z 145 1 = 0 := by rw [zv 145 1 (Or.inl (by decide)), if_pos ⟨rfl, rfl⟩]
        have v3 : z 145 13 = -1 := by rw [zv 145 13 (Or.inl (by decide)), if_neg (by omega), if_neg (by omega), a13]
        rw [v1, v3, zc 0 (by decide) (by decide) (by omega), c10, c11, c12, z145 6 (by decide) (by decide) (by decide) (by omega), zn 146 (by decide) (by decide) (by omega), zn 80 (by decide) (by decide) (by omega)]
        omega
      · refine h.1.upd_law (fun t a b e1 e2 e3 e4 e5 => zn t (by omega) (by omega) (by omega)) (fun i i0 i1 e => r147 i (by omega)) ⟨cw.congr (zc 19 (by decide) (by decide) (by omega)), ?_⟩
        have e16 : z (1 + 15) = c 16 := zc 16 (by decide) (by decide) (by omega)
        have e17 : z (1 + 16) = c 17 := zc 17 (by decide) (by decide) (by omega)
        have e18 : z (1 + 17) = c 18 := zc 18 (by decide) (by decide) (by omega)
        have e19 : z (1 + 18) = c 19 := zc 19 (by decide) (by decide) (by omega)
        have e20 : z (1 + 19) = c 20 := zc 20 (by decide) (by decide) (by omega)
        rw [e16, e17, e18, e19, e20, c16, c19]
        refine law_rel hok (tbC_congr (fun i i0 i1 => cut_in (by omega) (by omega)) ct) (tbM_congr (fun i i0 i1 => ?_) tm) (embC_congr _ _ (fun i i0 i1 => ⟨cut_in i0 (by omega), cut_in i0 (by omega)⟩) ce) (embM_congr _ _ (fun i i0 i1 => ⟨?_, ?_⟩) em) cl a17.2 h12 ?_ hp hlf
        · show rowL (z 147) (902 + i) = m1 151 i
          rw [rowL_in (by omega) (by omega), z147, pc i (by omega) (by omega), upn_a (by decide), upn_a (by decide)]
        · show rowL (z 147) (998 + 2 * i) = m1 152 i
          have := a17.2
          rw [rowL_in (by omega) (by omega), z147, (pm i i0 (by omega)).1, upn_a (by decide), upn_a (by decide)]
        · show rowL (z 147) (998 + 2 * i + 1) = m1 153 i
          have := a17.2
          rw [rowL_in (by omega) (by omega), z147, (pm i i0 (by omega)).2, upn_a (by decide), upn_a (by decide)]
        · rw [rowL_in (by decide) (by decide), z147]
          exact p901
      · exact h.2.1.upd_law (fun i i0 i1 e => r147 i (by omega)) h.cnt
end STLAW
