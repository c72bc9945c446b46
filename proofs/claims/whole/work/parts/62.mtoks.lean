section MTOKS
variable {w : WD} {d : Nat} {n : NM}
theorem kb1 {c : Int} : kb c = 1 ↔ (97 ≤ c ∧ c ≤ 122) := by
  unfold kb
  split <;> (try split) <;> omega
theorem kb2 {c : Int} : kb c = 2 ↔ (48 ≤ c ∧ c ≤ 57) := by
  unfold kb
  split <;> (try split) <;> omega
theorem m_small {c : Int} : EI w d mX12_isSmall [vi c] B0 n (if kb c = 1 then 1 else 0) n := by
  refine EI.of (by decide +kernel) (Nat.le_of_ble_eq_true rfl) rfl (fun _ G => gX12_isSmall_0 ⟨fun c1 => ⟨?_, rfl⟩, fun c1 => ⟨fun c2 => ⟨?_, rfl⟩, fun c2 => ⟨?_, rfl⟩⟩⟩)
  · rw [if_neg (fun z => by have := kb1.mp z; omega)]
  · rw [if_neg (fun z => by have := kb1.mp z; omega)]
  · rw [if_pos (kb1.mpr ⟨c1, c2⟩)]
theorem m_digit {c : Int} : EI w d mX12_isDigit [vi c] B0 n (if kb c = 2 then 1 else 0) n := by
  refine EI.of (by decide +kernel) (Nat.le_of_ble_eq_true rfl) rfl (fun _ G => gX12_isDigit_0 ⟨fun c1 => ⟨?_, rfl⟩, fun c1 => ⟨fun c2 => ⟨?_, rfl⟩, fun c2 => ⟨?_, rfl⟩⟩⟩)
  · rw [if_neg (fun z => by have := kb2.mp z; omega)]
  · rw [if_neg (fun z => by have := kb2.mp z; omega)]
  · rw [if_pos (kb2.mpr ⟨c1, c2⟩)]
theorem ite1 {p : Prop} [Decidable p] : ((if p then (1 : Int) else 0) = 0 → ¬ p) ∧ ((if p then (1 : Int) else 0) ≠ 0 → p) := by
  by_cases h : p
  · rw [if_pos h]
    exact ⟨fun z => absurd z (by decide), fun _ => h⟩
  · rw [if_neg h]
    exact ⟨fun _ => h, fun z => absurd rfl z⟩
/-- the reference's tape -/
def TpM (n : NM) (T : Int → Int) (L : Int) : Prop := (0 ≤ L ∧ L ≤ 400) ∧ n 145 8 = L ∧ (∀ i, 0 ≤ i → i < L → n 150 i = T i) ∧ ∀ i, 0 ≤ i → i < L → 0 ≤ T i ∧ T i ≤ 255
def FrX (n2 n : NM) : Prop := ∀ (t : Nat) (x : Int), (t ≠ 145 ∨ x < 9 ∨ 12 < x) → n2 t x = n t x
theorem FrX.upd {n2 n : NM} {x v : Int} (h : FrX n2 n) (h0 : 9 ≤ x) (h1 : x ≤ 12) : FrX (upn n2 145 x v) n := fun t y c => by
  rw [upn_ap, if_neg (by omega)]
  exact h t y c
theorem TpM.fr {n2 : NM} {T : Int → Int} {L : Int} (h : TpM n T L) (f : FrX n2 n) : TpM n2 T L :=
  ⟨h.1, (f 145 8 (by omega)).trans h.2.1, fun i i0 i1 => (f 150 i (by omega)).trans (h.2.2.1 i i0 i1), h.2.2.2⟩
def NXt (n2 n : NM) (s e k v : Int) : Prop := FrX n2 n ∧ n2 145 9 = s ∧ n2 145 10 = e ∧ n2 145 11 = k ∧ n2 145 12 = v
theorem NXt.e10 {n2 n : NM} {s e k v e' : Int} (h : NXt n2 n s e k v) : NXt (upn n2 145 10 e') n s e' k v :=
  ⟨h.1.upd (by decide) (by decide), by rw [upn_i (by decide)]; exact h.2.1, upn_self _ _ _ _, by rw [upn_i (by decide)]; exact h.2.2.2.1, by rw [upn_i (by decide)]; exact h.2.2.2.2⟩
theorem NXt.e11 {n2 n : NM} {s e k v e' : Int} (h : NXt n2 n s e k v) : NXt (upn n2 145 11 e') n s e e' v :=
  ⟨h.1.upd (by decide) (by decide), by rw [upn_i (by decide)]; exact h.2.1, by rw [upn_i (by decide)]; exact h.2.2.1, upn_self _ _ _ _, by rw [upn_i (by decide)]; exact h.2.2.2.2⟩
theorem NXt.e12 {n2 n : NM} {s e k v e' : Int} (h : NXt n2 n s e k v) : NXt (upn n2 145 12 e') n s e k e' :=
  ⟨h.1.upd (by decide) (by decide), by rw [upn_i (by decide)]; exact h.2.1, by rw [upn_i (by decide)]; exact h.2.2.1, by rw [upn_i (by decide)]; exact h.2.2.2.1, upn_self _ _ _ _⟩
theorem hw_ub {T : Int → Int} {s : Int} : ∀ k : Nat, k ≤ 10 → (∀ i : Nat, i < k → kb (T (s + (i : Int))) = 1) → 0 ≤ hwF T s k ∧ hwF T s k + 1 ≤ ((32 ^ k : Nat) : Int)
  | 0, _, _ => ⟨Int.le_refl _, by show (0 : Int) + 1 ≤ ((1 : Nat) : Int); decide⟩
  | k + 1, h, hl => by
    have ih := hw_ub (T := T) (s := s) k (by omega) (fun i hi => hl i (by omega))
    have q := kb1.mp (hl k (by omega))
    show 0 ≤ (if 10 ≤ (k : Int) then -1 else hwF T s k * 32 + T (s + k) - 96) ∧ (if 10 ≤ (k : Int) then -1 else hwF T s k * 32 + T (s + k) - 96) + 1 ≤ ((32 ^ (k + 1) : Nat) : Int)
    rw [if_neg (by omega), Nat.pow_succ]
    omega
theorem m_wordL {G : GM} {Q : Option AV → Hp → Prop} {T : Int → Int} {L s : Int} {n0 : NM} (h : TpM n0 T L) (s0 : 0 ≤ s) (post : ∀ n1, NXt n1 n0 s (tRN T L 1 s) 1 (hwF T s (tRN T L 1 s - s).toNat) → Q none (B0, n1)) : ∀ (m k : Nat) (n : NM), (L - (s + k)).toNat ≤ m → s + k ≤ L → (∀ i : Nat, i < k → kb (T (s + (i : Int))) = 1) → tRN T L 1 (s + k) = tRN T L 1 s → NXt n n0 s (s + k) 1 (hwF T s k) → Rn w mX12_next (d + 1) G Q 149 [(0, vr 145)] [] (B0, n) := by
  intro m
  induction m with
  | zero =>
    intro k n hm hk hl ht hx
    have h8 := (h.fr hx.1).2.1
    have h10 := hx.2.2.1
    refine gX12_next_149 ⟨fun z => absurd hx.2.2.2.1 z, fun _ => ⟨fun z => ?_, fun z => by omega⟩⟩
    have e : tRN T L 1 (s + k) = s + k := by rw [tRN_eq, if_neg (by omega)]
    refine gX12_next_243 ⟨fun _ => post n ?_, fun z => absurd (hx.2.2.2.1.symm.trans z) (by decide)⟩
    rw [← ht, e, show (s + (k : Int) - s).toNat = k by omega]
    exact hx
  | succ m ih =>
    intro k n hm hk hl ht hx
    have hn := h.fr hx.1
    have h8 := hn.2.1
    have h9 := hx.2.1
    have h10 := hx.2.2.1
    have h12 := hx.2.2.2.2
    have h4 := h.1.2
    have fin : tRN T L 1 (s + k) = s + k → Rn w mX12_next (d + 1) G Q 243 [(0, vr 145)] [] (B0, n) := fun e => by
      refine gX12_next_243 ⟨fun _ => post n ?_, fun z => absurd (hx.2.2.2.1.symm.trans z) (by decide)⟩
      rw [← ht, e, show (s + (k : Int) - s).toNat = k by omega]
      exact hx
    refine gX12_next_149 ⟨fun z => absurd hx.2.2.2.1 z, fun _ => ⟨fun z => fin (by rw [tRN_eq, if_neg (by omega)]), fun z => ⟨by omega, by omega, ?_⟩⟩⟩
    have hb := hn.2.2.1 (s + k) (by omega) (by omega)
    have hr := h.2.2.2 (s + k) (by omega) (by omega)
    rw [h10, hb]
    refine EI.use m_small ⟨fun c => fin (by rw [tRN_eq, if_neg (fun y => ite1.1 c y.2)]), fun c => ?_⟩
    have c1 := ite1.2 c
    have hl2 : ∀ i : Nat, i < k + 1 → kb (T (s + (i : Int))) = 1 := fun i hi => by
      by_cases q : i = k
      · rw [q]
        exact c1
      · exact hl i (by omega)
    rw [h10, h9, h12, hb]
    have ub : (k : Int) < 10 → 0 ≤ hwF T s k ∧ hwF T s k ≤ 35184372088832 := fun q => by
      have u := hw_ub (T := T) (s := s) k (by omega) hl
      have p1 : 32 ^ k ≤ 32 ^ 9 := Nat.pow_le_pow_right (by decide) (by omega)
      have p2 : (32 : Nat) ^ 9 = 35184372088832 := by decide
      omega
    have ub2 : s + (k : Int) - s < 10 → 0 ≤ hwF T s k ∧ hwF T s k ≤ 35184372088832 := fun q => ub (by omega)
    refine ⟨⟨by omega, by omega⟩, fun q => ⟨by have := ub2 q; omega, by have := ub2 q; omega⟩, fun q => by omega, fun q => by omega, fun q => ⟨by have := ub2 q; omega, by have := ub2 q; omega⟩, fun q => ⟨by have := ub2 q; omega, by have := ub2 q; omega⟩, fun z1 hz => ⟨⟨by omega, by omega⟩, ?_⟩⟩
    refine ih (k + 1) _ (by omega) (by omega) hl2 ?_ ?_
    · rw [← ht, tRN_eq (p := s + k), if_pos ⟨by omega, c1⟩]
      rw [show s + ((k + 1 : Nat) : Int) = s + k + 1 by omega]
    · have e1 : hwF T s (k + 1) = z1 := by
        show (if 10 ≤ (k : Int) then -1 else hwF T s k * 32 + T (s + k) - 96) = z1
        rw [hz, show s + (k : Int) - s = k by omega]
      rw [e1, show s + ((k + 1 : Nat) : Int) = s + k + 1 by omega]
      exact hx.e12.e10
theorem m_numL {G : GM} {Q : Option AV → Hp → Prop} {T : Int → Int} {L s : Int} {n0 : NM} (h : TpM n0 T L) (s0 : 0 ≤ s) (post : ∀ n1, NXt n1 n0 s (tRN T L 2 s) 2 (wnF T s (tRN T L 2 s - s).toNat) → Q none (B0, n1)) : ∀ (m k : Nat) (n : NM), (L - (s + k)).toNat ≤ m → s + k ≤ L → (∀ i : Nat, i < k → kb (T (s + (i : Int))) = 2) → tRN T L 2 (s + k) = tRN T L 2 s → NXt n n0 s (s + k) 2 (wnF T s k) → Rn w mX12_next (d + 1) G Q 243 [(0, vr 145)] [] (B0, n) := by
  intro m
  induction m with
  | zero =>
    intro k n hm hk hl ht hx
    have h8 := (h.fr hx.1).2.1
    have h10 := hx.2.2.1
    refine gX12_next_243 ⟨fun z => absurd hx.2.2.2.1 z, fun _ => ⟨fun z => post n ?_, fun z => by omega⟩⟩
    have e : tRN T L 2 (s + k) = s + k := by rw [tRN_eq, if_neg (by omega)]
    rw [← ht, e, show (s + (k : Int) - s).toNat = k by omega]
    exact hx
  | succ m ih =>
    intro k n hm hk hl ht hx
    have hn := h.fr hx.1
    have h8 := hn.2.1
    have h9 := hx.2.1
    have h10 := hx.2.2.1
    have h12 := hx.2.2.2.2
    have h4 := h.1.2
    have fin : tRN T L 2 (s + k) = s + k → Q none (B0, n) := fun e => by
      refine post n ?_
      rw [← ht, e, show (s + (k : Int) - s).toNat = k by omega]
      exact hx
    refine gX12_next_243 ⟨fun z => absurd hx.2.2.2.1 z, fun _ => ⟨fun z => fin (by rw [tRN_eq, if_neg (by omega)]), fun z => ⟨by omega, by omega, ?_⟩⟩⟩
    have hb := hn.2.2.1 (s + k) (by omega) (by omega)
    have hr := h.2.2.2 (s + k) (by omega) (by omega)
    rw [h10, hb]
    refine EI.use m_digit ⟨fun c => fin (by rw [tRN_eq, if_neg (fun y => ite1.1 c y.2)]), fun c => ?_⟩
    have c1 := ite1.2 c
    have hl2 : ∀ i : Nat, i < k + 1 → kb (T (s + (i : Int))) = 2 := fun i hi => by
      by_cases q : i = k
      · rw [q]
        exact c1
      · exact hl i (by omega)
    have ub := (nv_wn (T := T) (s := s) k (fun i i0 i1 => by
      have := kb2.mp (hl i.toNat (by omega))
      rw [show ((i.toNat : Nat) : Int) = i by omega] at this
      exact this)).1
    rw [h10, h12, hb]
    refine ⟨fun q => ⟨by omega, by omega⟩, fun q => by omega, fun q => by omega, fun q => ⟨by omega, by omega⟩, fun q => ⟨by omega, by omega⟩, fun z1 hz => ⟨⟨by omega, by omega⟩, ?_⟩⟩
    refine ih (k + 1) _ (by omega) (by omega) hl2 ?_ ?_
    · rw [← ht, tRN_eq (p := s + k), if_pos ⟨by omega, c1⟩]
      rw [show s + ((k + 1 : Nat) : Int) = s + k + 1 by omega]
    · have e1 : wnF T s (k + 1) = z1 := by
        rw [hz]
        rfl
      rw [e1, show s + ((k + 1 : Nat) : Int) = s + k + 1 by omega]
      exact hx.e12.e10
theorem m_next46 {G : GM} {Q : Option AV → Hp → Prop} {T : Int → Int} {L s : Int} {n0 : NM} (h : TpM n0 T L) (s0 : 0 ≤ s) (s1 : s ≤ L) (post : ∀ n1, NXt n1 n0 s (tkE T L s) (tkK T L s) (tkW T L s) → Q none (B0, n1)) (f : FrX n n0) (h9 : n 145 9 = s) : Rn w mX12_next (d + 1) G Q 46 [(0, vr 145)] [] (B0, n) := by
  have hn := h.fr f
  have h8 := hn.2.1
  have h4 := h.1.2
  have fa : FrX (upn (upn n 145 10 s) 145 12 0) n0 := (f.upd (by decide) (by decide)).upd (by decide) (by decide)
  have a9 : (upn (upn n 145 10 s) 145 12 0) 145 9 = s := by rw [upn_i (by decide), upn_i (by decide)]; exact h9
  have a10 : (upn (upn n 145 10 s) 145 12 0) 145 10 = s := by rw [upn_i (by decide), upn_self]
  have a12 : (upn (upn n 145 10 s) 145 12 0) 145 12 = 0 := upn_self _ _ _ _
  refine gX12_next_46 ⟨fun c => ⟨by omega, by omega, ?_⟩, fun c => ?_⟩
  · have sl : s < L := by omega
    have hb := hn.2.2.1 s s0 sl
    have hr := h.2.2.2 s s0 sl
    have hb2 : (upn (upn n 145 10 s) 145 12 0) 150 s = T s := by rw [upn_a (by decide), upn_a (by decide)]; exact hb
    have kl := kb_le (T s)
    rw [h9, hb]
    refine EI.use m_small ⟨fun c1 => ?_, fun c1 => ?_⟩
    · have c1 := ite1.1 c1
      rw [a9, hb2]
      refine ⟨by omega, by omega, EI.use m_digit ?_⟩
      rw [a9, a10, hb2]
      have nx : ∀ z : Int, NXt (upn (upn (upn n 145 10 s) 145 12 0) 145 11 z) n0 s s z 0 := fun z => ⟨fa.upd (by decide) (by decide), by rw [upn_i (by decide)]; exact a9, by rw [upn_i (by decide)]; exact a10, upn_self _ _ _ _, by rw [upn_i (by decide)]; exact a12⟩
      intro z hz
      by_cases c2 : kb (T s) = 2
      · rw [if_pos c2, if_neg (by decide)] at hz
        subst hz
        refine ⟨fun _ => ?_, fun y => absurd y (by decide)⟩
        have nx2 := nx 2
        refine gX12_next_149 ⟨fun _ => ?_, fun y => absurd (nx2.2.2.2.1.symm.trans y) (by decide)⟩
        have e : tRN T L 2 s = tkE T L s := by
          unfold tkE
          rw [if_pos sl, if_neg (by omega), tRN_eq, if_pos ⟨sl, c2⟩, c2]
        refine m_numL h s0 (fun n1 z1 => post n1 ?_) _ 0 _ (Nat.le_refl _) (by omega) (fun i hi => by omega) (by rw [show s + ((0 : Nat) : Int) = s by omega]) ?_
        · rw [e] at z1
          unfold tkK tkW
          rw [if_pos sl, if_pos sl, if_neg c1, if_pos c2, c2]
          exact z1
        · rw [show s + ((0 : Nat) : Int) = s by omega]
          exact nx2
      · rw [if_neg c2, if_pos rfl] at hz
        subst hz
        refine ⟨fun y => absurd rfl y, fun _ => ⟨by omega, by omega, ⟨by omega, by omega⟩, ?_⟩⟩
        have nx2 := ((nx 3).e12 (e' := T s)).e10 (e' := s + 1)
        refine gX12_next_149 ⟨fun _ => ?_, fun y => absurd (nx2.2.2.2.1.symm.trans y) (by decide)⟩
        refine gX12_next_243 ⟨fun _ => post _ ?_, fun y => absurd (nx2.2.2.2.1.symm.trans y) (by decide)⟩
        unfold tkE tkK tkW
        rw [if_pos sl, if_pos sl, if_pos sl, if_pos (show kb (T s) = 3 by omega), if_neg c1, if_neg c2, show kb (T s) = 3 by omega]
        exact nx2
    · have c1 := ite1.2 c1
      have nx2 : NXt (upn (upn (upn n 145 10 s) 145 12 0) 145 11 1) n0 s s 1 0 := ⟨fa.upd (by decide) (by decide), by rw [upn_i (by decide)]; exact a9, by rw [upn_i (by decide)]; exact a10, upn_self _ _ _ _, by rw [upn_i (by decide)]; exact a12⟩
      refine gX12_next_114 ⟨fun _ => ?_, fun y => absurd y (by decide)⟩
      have e : tRN T L 1 s = tkE T L s := by
        unfold tkE
        rw [if_pos sl, if_neg (by omega), tRN_eq, if_pos ⟨sl, c1⟩, c1]
      refine m_wordL h s0 (fun n1 z1 => post n1 ?_) _ 0 _ (Nat.le_refl _) (by omega) (fun i hi => by omega) (by rw [show s + ((0 : Nat) : Int) = s by omega]) ?_
      · rw [e] at z1
        unfold tkK tkW
        rw [if_pos sl, if_pos sl, if_pos c1, c1]
        exact z1
      · rw [show s + ((0 : Nat) : Int) = s by omega]
        exact nx2
  · have sl : ¬ s < L := by omega
    have nx2 : NXt (upn (upn (upn n 145 10 s) 145 12 0) 145 11 0) n0 s s 0 0 := ⟨fa.upd (by decide) (by decide), by rw [upn_i (by decide)]; exact a9, by rw [upn_i (by decide)]; exact a10, upn_self _ _ _ _, by rw [upn_i (by decide)]; exact a12⟩
    rw [h9]
    refine gX12_next_114 ⟨fun _ => ?_, fun y => absurd y (by decide)⟩
    refine gX12_next_149 ⟨fun _ => ?_, fun y => absurd (nx2.2.2.2.1.symm.trans y) (by decide)⟩
    refine gX12_next_243 ⟨fun _ => post _ ?_, fun y => absurd (nx2.2.2.2.1.symm.trans y) (by decide)⟩
    unfold tkE tkK tkW
    rw [if_neg sl, if_neg sl, if_neg sl]
    exact nx2
theorem m_next8 {G : GM} {Q : Option AV → Hp → Prop} {T : Int → Int} {L s : Int} {n0 : NM} (h : TpM n0 T L) (post : ∀ n1, NXt n1 n0 s (tkE T L s) (tkK T L s) (tkW T L s) → Q none (B0, n1)) : ∀ (m : Nat) (p : Int) (n : NM), (L - p).toNat ≤ m → 0 ≤ p → p ≤ L → FrX n n0 → n 145 9 = p → tSK T L p = s → Rn w mX12_next (d + 1) G Q 8 [(0, vr 145)] [] (B0, n)
  | m, p, n, hm, p0, p1, f, h9, hs => by
    have hn := h.fr f
    have h8 := hn.2.1
    have h4 := h.1.2
    have fin : s = p → Rn w mX12_next (d + 1) G Q 46 [(0, vr 145)] [] (B0, n) := fun e => m_next46 h (by omega) (by omega) post f (by rw [h9, e])
    refine gX12_next_8 ⟨fun c => fin (by rw [← hs, tSK_eq, if_neg (by omega)]), fun c => ⟨by omega, by omega, fun c1 => fin ?_, fun c1 => ⟨⟨by omega, by omega⟩, ?_⟩⟩⟩
    · rw [h9, hn.2.2.1 p p0 (by omega)] at c1
      rw [← hs, tSK_eq, if_neg (fun z => c1 z.2)]
    · rw [h9, hn.2.2.1 p p0 (by omega)] at c1
      rw [h9]
      match m, hm with
      | 0, hm => omega
      | m + 1, hm =>
        refine m_next8 h post m (p + 1) _ (by omega) (by omega) (by omega) (f.upd (by decide) (by decide)) (upn_self _ _ _ _) ?_
        rw [← hs, tSK_eq (p := p), if_pos ⟨by omega, c1⟩]
theorem m_next {T : Int → Int} {L e : Int} (h : TpM n T L) (e0 : 0 ≤ e) (e1 : e ≤ L) (h10 : n 145 10 = e) : Ev w (d + 1) 0 0 mX12_next [vr 145] (B0, n) (fun r h' => ∃ n1 : NM, r = none ∧ h' = (B0, n1) ∧ NXt n1 n (tSK T L e) (tkE T L (tSK T L e)) (tkK T L (tSK T L e)) (tkW T L (tSK T L e))) := by
  refine EV.ofP (by decide +kernel) (Nat.le_of_ble_eq_true rfl) rfl (fun _ G => gX12_next_0 ?_)
  refine m_next8 (n0 := n) h (fun n1 z => ⟨n1, rfl, rfl, z⟩) _ e _ (Nat.le_refl _) e0 e1 (FrX.upd (fun t x c => rfl) (by decide) (by decide)) ?_ rfl
  rw [h10]
  exact upn_self _ _ _ _
/-- the reference stands at token j -/
def MTk (n : NM) (T : Int → Int) (L : Int) (j : Nat) : Prop := n 145 9 = tkS T L j ∧ n 145 10 = tkE T L (tkS T L j) ∧ n 145 11 = tkK T L (tkS T L j) ∧ n 145 12 = tkW T L (tkS T L j)
theorem m_nextT {T : Int → Int} {L : Int} {j : Nat} (h : TpM n T L) (hj : MTk n T L j) : Ev w (d + 1) 0 0 mX12_next [vr 145] (B0, n) (fun r h' => ∃ n1 : NM, r = none ∧ h' = (B0, n1) ∧ FrX n1 n ∧ MTk n1 T L (j + 1)) := by
  have sl := tkS_le (T := T) h.1.1 j
  have el := tkE_le (T := T) sl.1.1
  exact Ev.mono (m_next h (by omega) el.2.1 hj.2.1) (fun r h' z => by
    obtain ⟨n1, a, b, c⟩ := z
    exact ⟨n1, a, b, c.1, c.2.1, c.2.2.1, c.2.2.2.1, c.2.2.2.2⟩)
theorem m_begin {T : Int → Int} {L : Int} (h : TpM n T L) : Ev w (d + 2) 0 0 mX12_begin [vr 145] (B0, n) (fun r h' => ∃ n1 : NM, r = none ∧ h' = (B0, n1) ∧ FrX n1 (upn (upn n 145 14 0) 145 13 (-1)) ∧ MTk n1 T L 0) := by
  refine EV.ofP (by decide +kernel) (Nat.le_of_ble_eq_true rfl) rfl (fun _ G => gX12_begin_0 ?_)
  have f : ∀ (t : Nat) (x : Int), (t ≠ 145 ∨ x < 10 ∨ (10 < x ∧ x < 13) ∨ 14 < x) → (upn (upn (upn n 145 10 0) 145 14 0) 145 13 (-1)) t x = n t x := fun t x c => by
    rw [upn_ap, if_neg (by omega), upn_ap, if_neg (by omega), upn_ap, if_neg (by omega)]
  have hn : TpM (upn (upn (upn n 145 10 0) 145 14 0) 145 13 (-1)) T L := ⟨h.1, (f 145 8 (by omega)).trans h.2.1, fun i i0 i1 => (f 150 i (by omega)).trans (h.2.2.1 i i0 i1), h.2.2.2⟩
  refine EV.usP (m_next hn (Int.le_refl _) h.1.1 (by rw [upn_i (by decide), upn_i (by decide), upn_self])) (fun n1 z => ⟨n1, rfl, rfl, fun t x c => ?_, z.2.1, z.2.2.1, z.2.2.2.1, z.2.2.2.2⟩)
  rw [z.1 t x c, upn_ap, upn_ap, upn_ap, upn_ap, upn_ap]
  by_cases q : t = 145 ∧ x = 13
  · rw [if_pos q, if_pos q]
  · rw [if_neg q, if_neg q]
    by_cases q2 : t = 145 ∧ x = 14
    · rw [if_pos q2, if_pos q2]
    · rw [if_neg q2, if_neg q2, if_neg (by omega)]
end MTOKS
