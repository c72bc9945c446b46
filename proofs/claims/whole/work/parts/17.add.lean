def sel4 (a b e f : Int) (j : Int) : Int := if j = 0 then a else if j = 1 then b else if j = 2 then e else f
/-- a stretch of cells written anew -/
def wrow (n : NM) (c : Nat) (base len : Int) (g : Int → Int) : NM := fun b j => if b = c ∧ base ≤ j ∧ j < base + len then g (j - base) else n b j
theorem wrow_a {n : NM} {c b : Nat} {base len j : Int} {g : Int → Int} (h : b ≠ c) : wrow n c base len g b j = n b j := by simp [wrow, h]
theorem wrow_out {n : NM} {c b : Nat} {base len j : Int} {g : Int → Int} (h : j < base ∨ base + len ≤ j) : wrow n c base len g b j = n b j := by
  unfold wrow
  rw [if_neg (by omega)]
theorem wrow_in {n : NM} {c : Nat} {base len j : Int} {g : Int → Int} (h0 : base ≤ j) (h1 : j < base + len) : wrow n c base len g c j = g (j - base) := by
  unfold wrow
  rw [if_pos ⟨rfl, h0, h1⟩]
theorem tset_eq {n : NM} {t c : Nat} {i j v W R : Int} (hT : TW n t W R) (h0 : 0 ≤ i) (h1 : i < n t 3) (h2 : 0 ≤ j) : tset n t c i j v = if j < W then upn n c (i * W + j) v else n := by
  unfold tset
  rw [hT.1]
  by_cases q : j < W
  · rw [if_pos ⟨h0, h1, h2, q⟩, if_pos q]
  · rw [if_neg (by omega), if_neg q]
theorem tset4 {n : NM} {t c : Nat} {i a b e f W R : Int} (htc : t ≠ c) (hT : TW n t W R) (hW : 1 ≤ W) (h0 : 0 ≤ i) (h1 : i < n t 3) : tset (tset (tset (tset n t c i 0 a) t c i 1 b) t c i 2 e) t c i 3 f = wrow n c (i * W) (min W 4) (sel4 a b e f) := by
  have k1 : ∀ (n' : NM), n' t = n t → ∀ (j v : Int), 0 ≤ j → tset n' t c i j v = if j < W then upn n' c (i * W + j) v else n' := fun n' hn j v hj => tset_eq (R := R) (by unfold TW; rw [hn]; exact hT) h0 (by rw [hn]; exact h1) hj
  have k2 : ∀ (n' : NM) (j v : Int), n' t = n t → (if j < W then upn n' c (i * W + j) v else n') t = n t := fun n' j v hn => by
    by_cases q : j < W
    · rw [if_pos q, upn_ne htc, hn]
    · rw [if_neg q, hn]
  rw [k1 n rfl 0 a (by decide), k1 _ (k2 _ _ _ rfl) 1 b (by decide), k1 _ (k2 _ _ _ (k2 _ _ _ rfl)) 2 e (by decide), k1 _ (k2 _ _ _ (k2 _ _ _ (k2 _ _ _ rfl))) 3 f (by decide)]
  rw [if_pos (show (0 : Int) < W by omega)]
  funext x y
  by_cases w1 : 1 < W
  · rw [if_pos w1]
    by_cases w2 : 2 < W
    · rw [if_pos w2]
      by_cases w3 : 3 < W
      · rw [if_pos w3, show min W 4 = 4 by omega]
        simp only [upn, wrow, sel4]
        by_cases hx : x = c
        · by_cases y0 : y = i * W
          · subst y0
            rw [if_neg (by omega), if_neg (by omega), if_neg (by omega), if_pos ⟨hx, by omega⟩, if_pos (by omega), if_pos (by omega)]
          · by_cases y1 : y = i * W + 1
            · subst y1
              rw [if_neg (by omega), if_neg (by omega), if_pos ⟨hx, rfl⟩, if_pos (by omega), if_neg (by omega), if_pos (by omega)]
            · by_cases y2 : y = i * W + 2
              · subst y2
                rw [if_neg (by omega), if_pos ⟨hx, rfl⟩, if_pos (by omega), if_neg (by omega), if_neg (by omega), if_pos (by omega)]
              · by_cases y3 : y = i * W + 3
                · subst y3
                  rw [if_pos ⟨hx, rfl⟩, if_pos (by omega), if_neg (by omega), if_neg (by omega), if_neg (by omega)]
                · rw [if_neg (by omega), if_neg (by omega), if_neg (by omega), if_neg (by omega), if_neg (by omega)]
        · simp [hx]
      · rw [if_neg w3, show min W 4 = 3 by omega]
        simp only [upn, wrow, sel4]
        by_cases hx : x = c
        · by_cases y0 : y = i * W
          · subst y0
            rw [if_neg (by omega), if_neg (by omega), if_pos ⟨hx, by omega⟩, if_pos (by omega), if_pos (by omega)]
          · by_cases y1 : y = i * W + 1
            · subst y1
              rw [if_neg (by omega), if_pos ⟨hx, rfl⟩, if_pos (by omega), if_neg (by omega), if_pos (by omega)]
            · by_cases y2 : y = i * W + 2
              · subst y2
                rw [if_pos ⟨hx, rfl⟩, if_pos (by omega), if_neg (by omega), if_neg (by omega), if_pos (by omega)]
              · rw [if_neg (by omega), if_neg (by omega), if_neg (by omega), if_neg (by omega)]
        · simp [hx]
    · rw [if_neg w2, if_neg (show ¬ 3 < W by omega), show min W 4 = 2 by omega]
      simp only [upn, wrow, sel4]
      by_cases hx : x = c
      · by_cases y0 : y = i * W
        · subst y0
          rw [if_neg (by omega), if_pos ⟨hx, by omega⟩, if_pos (by omega), if_pos (by omega)]
        · by_cases y1 : y = i * W + 1
          · subst y1
            rw [if_pos ⟨hx, rfl⟩, if_pos (by omega), if_neg (by omega), if_pos (by omega)]
          · rw [if_neg (by omega), if_neg (by omega), if_neg (by omega)]
      · simp [hx]
  · rw [if_neg w1, if_neg (show ¬ 2 < W by omega), if_neg (show ¬ 3 < W by omega), show min W 4 = 1 by omega]
    simp only [upn, wrow, sel4]
    by_cases hx : x = c
    · by_cases y0 : y = i * W
      · subst y0
        rw [if_pos ⟨hx, by omega⟩, if_pos (by omega), if_pos (by omega)]
      · rw [if_neg (by omega), if_neg (by omega)]
    · simp [hx]
section ADD
variable {w : WD} {d : Nat} {B : HB} {n : NM} {t c L : Nat}
/-- a table with a row more -/
def tadd (n : NM) (t c : Nat) (W a b e f : Int) : NM := wrow (upn n t 3 (n t 3 + 1)) c (n t 3 * W) (min W 4) (sel4 a b e f)
theorem s_add (ot : Obj B t 7 4) (rt : rf B t 0 = some c) (oc : Obj B c 100 L) (htc : t ≠ c) {W R : Int} (hT : TW n t W R) (hW : 1 ≤ W) (hL : R * W = (L : Int)) (hL2 : (L : Int) ≤ 100000) (hR : R ≤ 1000) (hf : n t 3 < R) (a b e f : Int) : EI w (d + 2) mX7_add [vr t, vi a, vi b, vi e, vi f] B n (n t 3) (tadd n t c W a b e f) := by
  have hT1 : TW (upn n t 3 (n t 3 + 1)) t W R := by
    refine ⟨?_, ?_, ?_, ?_⟩
    · rw [upn_i (by decide)]
      exact hT.1
    · rw [upn_i (by decide)]
      exact hT.2.1
    · rw [upn_self]
      have := hT.2.2.1
      omega
    · rw [upn_self]
      omega
  have hk : ∀ n' : NM, n' t = (upn n t 3 (n t 3 + 1)) t → TW n' t W R := fun n' h => hT1.congr h
  have k2 : ∀ (n' : NM) (j v : Int), n' t = (upn n t 3 (n t 3 + 1)) t → (tset n' t c (n t 3) j v) t = (upn n t 3 (n t 3 + 1)) t := fun n' j v h => by
    unfold tset
    split
    · rw [upn_ne htc, h]
    · exact h
  refine EI.of (by decide +kernel) (Nat.le_of_ble_eq_true rfl) rfl (fun _ G => gX7_add_0 ot rt oc ?_)
  refine EI.use (s_isFull ot rt oc) ⟨fun _ => ⟨⟨by have := hT.2.2.1; omega, by omega⟩, ?_⟩, fun q => ?_⟩
  · refine EV.use (s_set ot rt oc hT1 hL hL2 _ _ _) (EV.use (s_set ot rt oc (hk _ (k2 _ _ _ rfl)) hL hL2 _ _ _) (EV.use (s_set ot rt oc (hk _ (k2 _ _ _ (k2 _ _ _ rfl))) hL hL2 _ _ _) (EV.use (s_set ot rt oc (hk _ (k2 _ _ _ (k2 _ _ _ (k2 _ _ _ rfl)))) hL hL2 _ _ _) ⟨rfl, ?_⟩)))
    rw [tset4 htc hT1 hW hT.2.2.1 (by rw [upn_self]; omega)]
    rfl
  · rw [hT.2.1, if_neg (by omega)] at q
    exact absurd rfl q
theorem s_accept (x : Int) : EI w d mX11_accept [vr 0, vi x] B0 n x (upn n 0 10 0) :=
  EI.of (by decide +kernel) (Nat.le_of_ble_eq_true rfl) rfl (fun _ G => gX11_accept_0 ⟨rfl, rfl⟩)
/-- refused by v: the place of its count -/
def rix (v : Int) : Int := if v = -1 then 0 else if v = -2 then 1 else if v = -5 then 2 else 3
def cref (n : NM) (v : Int) : NM := upn (upn n 0 10 v) 80 (rix v) (n 80 (rix v) + 1)
theorem s_refuse {v : Int} (hv : v = -1 ∨ v = -2 ∨ v = -5 ∨ v = -6) (hb : ∀ i, 0 ≤ i → i < 4 → 0 ≤ n 80 i ∧ n 80 i ≤ 1000) : EI w d mX11_refuse [vr 0, vi v] B0 n v (cref n v) := by
  refine EI.of (by decide +kernel) (Nat.le_of_ble_eq_true rfl) rfl (fun _ G => gX11_refuse_0 ?_)
  have b0 := hb 0 (by decide) (by decide)
  have b1 := hb 1 (by decide) (by decide)
  have b2 := hb 2 (by decide) (by decide)
  have b3 := hb 3 (by decide) (by decide)
  refine ⟨fun e => ⟨⟨by omega, by omega⟩, rfl, ?_⟩, fun e => ⟨⟨by omega, by omega⟩, rfl, ?_⟩, fun e => ⟨⟨by omega, by omega⟩, rfl, ?_⟩, fun e1 e2 e3 => ⟨⟨by omega, by omega⟩, rfl, ?_⟩⟩
  · subst e
    rfl
  · subst e
    rfl
  · subst e
    rfl
  · have : v = -6 := by omega
    subst this
    rfl
theorem s_within (x a b : Int) : EI w d mX11_within [vi x, vi a, vi b] B0 n (if a ≤ x ∧ x ≤ b then 1 else 0) n := by
  refine EI.of (by decide +kernel) (Nat.le_of_ble_eq_true rfl) rfl (fun _ G => gX11_within_0 ⟨fun c => ⟨?_, rfl⟩, fun c => ⟨fun c => ⟨?_, rfl⟩, fun c => ⟨?_, rfl⟩⟩⟩)
  · rw [if_neg (by omega)]
  · rw [if_neg (by omega)]
  · rw [if_pos (by omega)]
theorem m_in (x a b : Int) : EI w d mX12_in [vl x, vl a, vl b] B0 n (if a ≤ x ∧ x ≤ b then 1 else 0) n := by
  refine EI.of (by decide +kernel) (Nat.le_of_ble_eq_true rfl) rfl (fun _ G => gX12_in_0 ⟨fun c => ⟨?_, rfl⟩, fun c => ⟨fun c => ⟨?_, rfl⟩, fun c => ⟨?_, rfl⟩⟩⟩)
  · rw [if_neg (by omega)]
  · rw [if_neg (by omega)]
  · rw [if_pos (by omega)]
theorem b01 (p : Prop) [Decidable p] : (if p then (1 : Int) else 0) = 0 ∨ (if p then (1 : Int) else 0) = 1 := by
  by_cases h : p
  · exact Or.inr (if_pos h)
  · exact Or.inl (if_neg h)
theorem m_isDay (x : Int) : EI w (d + 1) mX12_isDay [vi x] B0 n (if 0 ≤ x ∧ x ≤ 59 then 1 else 0) n :=
  EI.of (by decide +kernel) (Nat.le_of_ble_eq_true rfl) rfl (fun _ G => gX12_isDay_0 (EI.use (m_in _ _ _) ⟨b01 _, rfl, rfl⟩))
theorem m_isMinute (x : Int) : EI w (d + 1) mX12_isMinute [vi x] B0 n (if 0 ≤ x ∧ x ≤ 1439 then 1 else 0) n :=
  EI.of (by decide +kernel) (Nat.le_of_ble_eq_true rfl) rfl (fun _ G => gX12_isMinute_0 (EI.use (m_in _ _ _) ⟨b01 _, rfl, rfl⟩))
theorem m_isPlace (x : Int) : EI w (d + 1) mX12_isPlace [vi x] B0 n (if 0 ≤ x ∧ x ≤ 23 then 1 else 0) n :=
  EI.of (by decide +kernel) (Nat.le_of_ble_eq_true rfl) rfl (fun _ G => gX12_isPlace_0 (EI.use (m_in _ _ _) ⟨b01 _, rfl, rfl⟩))
theorem ite01 {p : Prop} [Decidable p] {A C : Prop} (hA : ¬ p → A) (hC : p → C) : ((if p then (1 : Int) else 0) = 0 → A) ∧ ((if p then (1 : Int) else 0) ≠ 0 → C) := by
  by_cases h : p
  · rw [if_pos h]
    exact ⟨fun q => (by cases q), fun _ => hC h⟩
  · rw [if_neg h]
    exact ⟨fun _ => hA h, fun q => absurd rfl q⟩
theorem ite10 {p : Prop} [Decidable p] {A C : Prop} (hC : p → C) (hA : ¬ p → A) : ((if p then (1 : Int) else 0) ≠ 0 → C) ∧ ((if p then (1 : Int) else 0) = 0 → A) := ⟨(ite01 hA hC).2, (ite01 hA hC).1⟩
theorem m_tell0 {v : Int} (hv : 0 ≤ v) : EI w d mX12_tell [vr 145, vi v] B0 n v (upn n 145 1 0) := by
  refine EI.of (by decide +kernel) (Nat.le_of_ble_eq_true rfl) rfl (fun _ G => gX12_tell_0 (fun z ez => ⟨fun _ => ⟨rfl, ?_⟩, fun c => absurd c (by omega)⟩))
  rw [ez, if_pos hv]
def mref (n : NM) (v : Int) : NM := upn (upn n 145 1 v) 146 (-v) (n 146 (-v) + 1)
theorem m_tellR {v : Int} (hv : v = -1 ∨ v = -2 ∨ v = -5 ∨ v = -6) (hb : 0 ≤ n 146 (-v) ∧ n 146 (-v) ≤ 1000) : EI w d mX12_tell [vr 145, vi v] B0 n v (mref n v) := by
  refine EI.of (by decide +kernel) (Nat.le_of_ble_eq_true rfl) rfl (fun _ G => gX12_tell_0 (fun z ez => ⟨fun c => absurd c (by omega), fun c => ⟨⟨by omega, by omega⟩, by omega, by omega, ⟨by omega, by omega⟩, by omega, by omega, rfl, ?_⟩⟩))
  rw [ez, if_neg (by omega)]
  rfl
/-- the reference's add -/
def madd (n : NM) (cnt base W a b e f : Int) : NM := upn (wrow n 147 (base + W * n 147 cnt) W (sel4 a b e f)) 147 cnt (n 147 cnt + 1)
theorem m_add {cnt most base W a b e f : Int} (h1 : 0 ≤ cnt) (h2 : cnt ≤ 9) (h3 : 10 ≤ base) (h4 : W = 1 ∨ W = 2 ∨ W = 3 ∨ W = 4) (h5 : base + W * most ≤ 1800) (h6 : 0 ≤ n 147 cnt) (h7 : n 147 cnt < most) (h8 : most ≤ 1000) : EI w (d + 1) mX12_add [vr 145, vi cnt, vi most, vi base, vi W, vi a, vi b, vi e, vi f] B0 n (n 147 cnt) (upn (madd n cnt base W a b e f) 145 1 0) := by
  have fin : ∀ n' : NM, n' 147 cnt = n 147 cnt → upn n' 147 cnt (n' 147 cnt + 1) = madd n cnt base W a b e f → ∀ G : GM, Rn w mX12_add (d + 1) G (fun r h' => r = some (vi (n 147 cnt)) ∧ h' = (B0, upn (madd n cnt base W a b e f) 145 1 0)) 90 [(0, vr 145), (1, vi cnt)] [] (B0, n') := by
    intro n' e1 e2 G
    refine gX12_add_90 ⟨by omega, by omega, ⟨by omega, by omega⟩, by omega, by omega, by omega, by omega, ?_, ?_⟩
    · rw [upn_self, e1]
      exact ⟨by omega, by omega⟩
    · refine EI.use (m_tell0 (by rw [upn_self, e1]; omega)) ⟨?_, ?_⟩
      · rw [upn_self, e1]
        congr 2
        omega
      · rw [e2]
  refine EI.of (by decide +kernel) (Nat.le_of_ble_eq_true rfl) rfl (fun _ G => gX12_add_0 ?_)
  rcases h4 with rfl | rfl | rfl | rfl
  · refine ⟨by omega, by omega, fun _ => ⟨by omega, by omega, ⟨by omega, by omega⟩, ⟨by omega, by omega⟩, by omega, by omega, fun _ => ?_, fun q => absurd q (by decide)⟩, fun q => absurd q (by omega)⟩
    refine gX12_add_56 ⟨fun _ => gX12_add_73 ⟨fun _ => fin _ (upn_i (by omega)) ?_ G, fun q => absurd q (by decide)⟩, fun q => absurd q (by decide)⟩
    rw [upn_i (by omega)]
    unfold madd
    congr 1
    funext x y
    simp only [upn, wrow, sel4]
    by_cases hx : x = 147 ∧ y = base + 1 * n 147 cnt
    · rw [if_pos hx, if_pos (by omega), if_pos (by omega)]
    · rw [if_neg hx, if_neg (by omega)]
  · refine ⟨by omega, by omega, fun _ => ⟨by omega, by omega, ⟨by omega, by omega⟩, ⟨by omega, by omega⟩, by omega, by omega, fun q => absurd q (by decide), fun _ => ⟨⟨by omega, by omega⟩, by omega, by omega, ?_⟩⟩, fun q => absurd q (by omega)⟩
    refine gX12_add_56 ⟨fun _ => gX12_add_73 ⟨fun _ => fin _ (by rw [upn_i (by omega), upn_i (by omega)]) ?_ G, fun q => absurd q (by decide)⟩, fun q => absurd q (by decide)⟩
    rw [upn_i (by omega), upn_i (by omega)]
    unfold madd
    congr 1
    funext x y
    simp only [upn, wrow, sel4]
    by_cases hx : x = 147
    · by_cases y0 : y = base + 2 * n 147 cnt
      · rw [if_neg (by omega), if_pos ⟨hx, y0⟩, if_pos (by omega), if_pos (by omega)]
      · by_cases y1 : y = base + 2 * n 147 cnt + 1
        · rw [if_pos ⟨hx, y1⟩, if_pos (by omega), if_neg (by omega), if_pos (by omega)]
        · rw [if_neg (by omega), if_neg (by omega), if_neg (by omega)]
    · rw [if_neg (by omega), if_neg (by omega), if_neg (by omega)]
  · refine ⟨by omega, by omega, fun _ => ⟨by omega, by omega, ⟨by omega, by omega⟩, ⟨by omega, by omega⟩, by omega, by omega, fun q => absurd q (by decide), fun _ => ⟨⟨by omega, by omega⟩, by omega, by omega, ?_⟩⟩, fun q => absurd q (by omega)⟩
    refine gX12_add_56 ⟨fun q => absurd q (by decide), fun _ => ⟨⟨by omega, by omega⟩, by omega, by omega, gX12_add_73 ⟨fun _ => fin _ (by rw [upn_i (by omega), upn_i (by omega), upn_i (by omega)]) ?_ G, fun q => absurd q (by decide)⟩⟩⟩
    rw [upn_i (by omega), upn_i (by omega), upn_i (by omega)]
    unfold madd
    congr 1
    funext x y
    simp only [upn, wrow, sel4]
    by_cases hx : x = 147
    · by_cases y0 : y = base + 3 * n 147 cnt
      · rw [if_neg (by omega), if_neg (by omega), if_pos ⟨hx, y0⟩, if_pos (by omega), if_pos (by omega)]
      · by_cases y1 : y = base + 3 * n 147 cnt + 1
        · rw [if_neg (by omega), if_pos ⟨hx, y1⟩, if_pos (by omega), if_neg (by omega), if_pos (by omega)]
        · by_cases y2 : y = base + 3 * n 147 cnt + 2
          · rw [if_pos ⟨hx, y2⟩, if_pos (by omega), if_neg (by omega), if_neg (by omega), if_pos (by omega)]
          · rw [if_neg (by omega), if_neg (by omega), if_neg (by omega), if_neg (by omega)]
    · rw [if_neg (by omega), if_neg (by omega), if_neg (by omega), if_neg (by omega)]
  · refine ⟨by omega, by omega, fun _ => ⟨by omega, by omega, ⟨by omega, by omega⟩, ⟨by omega, by omega⟩, by omega, by omega, fun q => absurd q (by decide), fun _ => ⟨⟨by omega, by omega⟩, by omega, by omega, ?_⟩⟩, fun q => absurd q (by omega)⟩
    refine gX12_add_56 ⟨fun q => absurd q (by decide), fun _ => ⟨⟨by omega, by omega⟩, by omega, by omega, gX12_add_73 ⟨fun q => absurd q (by decide), fun _ => ⟨⟨by omega, by omega⟩, by omega, by omega, fin _ (by rw [upn_i (by omega), upn_i (by omega), upn_i (by omega), upn_i (by omega)]) ?_ G⟩⟩⟩⟩
    rw [upn_i (by omega), upn_i (by omega), upn_i (by omega), upn_i (by omega)]
    unfold madd
    congr 1
    funext x y
    simp only [upn, wrow, sel4]
    by_cases hx : x = 147
    · by_cases y0 : y = base + 4 * n 147 cnt
      · rw [if_neg (by omega), if_neg (by omega), if_neg (by omega), if_pos ⟨hx, y0⟩, if_pos (by omega), if_pos (by omega)]
      · by_cases y1 : y = base + 4 * n 147 cnt + 1
        · rw [if_neg (by omega), if_neg (by omega), if_pos ⟨hx, y1⟩, if_pos (by omega), if_neg (by omega), if_pos (by omega)]
        · by_cases y2 : y = base + 4 * n 147 cnt + 2
          · rw [if_neg (by omega), if_pos ⟨hx, y2⟩, if_pos (by omega), if_neg (by omega), if_neg (by omega), if_pos (by omega)]
          · by_cases y3 : y = base + 4 * n 147 cnt + 3
            · rw [if_pos ⟨hx, y3⟩, if_pos (by omega), if_neg (by omega), if_neg (by omega), if_neg (by omega)]
            · rw [if_neg (by omega), if_neg (by omega), if_neg (by omega), if_neg (by omega), if_neg (by omega)]
    · rw [if_neg (by omega), if_neg (by omega), if_neg (by omega), if_neg (by omega), if_neg (by omega)]
end ADD
