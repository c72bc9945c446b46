section MTOOL
variable {w : WD} {d : Nat} {n m0 : NM} {T : Int → Int} {L : Int} {iE : Nat}
/-- how strongly an operator binds -/
def bnd (o : Int) : Int := if 30 ≤ o then 0 else if o = 29 then 1 else if o = 28 then 2 else if o = 27 then 3 else if 24 ≤ o then 4 else if 22 ≤ o then 6 else 5
theorem m_binds {o : Int} : EI w d mX12_binds [vi o] B0 n (bnd o) n := by
  unfold bnd
  refine EI.of (by decide +kernel) (Nat.le_of_ble_eq_true rfl) rfl (fun _ G => gX12_binds_0 ⟨fun c1 => ?_, fun c1 => ?_⟩)
  · rw [if_neg (by omega)]
    refine ⟨fun c2 => ?_, fun c2 => ?_⟩
    · rw [if_neg c2]
      refine ⟨fun c3 => ?_, fun c3 => ?_⟩
      · rw [if_neg c3]
        refine ⟨fun c4 => ?_, fun c4 => ?_⟩
        · rw [if_neg c4]
          refine ⟨fun c5 => ?_, fun c5 => ?_⟩
          · rw [if_neg (by omega)]
            refine ⟨fun c6 => ?_, fun c6 => ?_⟩
            · rw [if_neg (by omega)]
              exact ⟨rfl, rfl⟩
            · rw [if_pos c6]
              exact ⟨rfl, rfl⟩
          · rw [if_pos c5]
            exact ⟨rfl, rfl⟩
        · rw [if_pos c4]
          exact ⟨rfl, rfl⟩
      · rw [if_pos c3]
        exact ⟨rfl, rfl⟩
    · rw [if_pos c2]
      exact ⟨rfl, rfl⟩
  · rw [if_pos c1]
    exact ⟨rfl, rfl⟩
/-- the jump at step a of l tells X now -/
def ptc : Int → CLs → Int → Int → CLs
  | _, [], _, _ => []
  | c, (k, v) :: l, a, X => if c = a then (k, if k = 28 ∨ k = 29 then X - c else X) :: l else (k, v) :: ptc (c + 1) l a X
theorem ptc_len : ∀ {l : CLs} {c a X : Int}, (ptc c l a X).length = l.length
  | [], _, _, _ => rfl
  | (k, v) :: l, c, a, X => by
    unfold ptc
    split
    · rfl
    · rw [List.length_cons, List.length_cons, ptc_len]
theorem ptc_emb {O A : Int → Int} {a X : Int} : ∀ {l : CLs} {c : Int}, EmbM O A c l → EmbM O (fun i => if i = a then X else A i) c (ptc c l a X)
  | [], _, _ => trivial
  | (k, v) :: l, c, h => by
    unfold ptc
    by_cases q : c = a
    · rw [if_pos q]
      refine ⟨h.1, ?_, embM_congr _ _ (fun i i0 i1 => ⟨rfl, if_neg (by omega)⟩) h.2.2⟩
      dsimp only
      rw [if_pos q]
      split
      · omega
      · rfl
    · rw [if_neg q]
      refine ⟨h.1, ?_, ptc_emb h.2.2⟩
      dsimp only
      rw [if_neg q]
      exact h.2.1
theorem ptc_at {l2 : CLs} {k v X : Int} (hk : k = 28 ∨ k = 29) : ∀ {l1 : CLs} {c : Int}, ptc c (l1 ++ (k, v) :: l2) (c + l1.length) X = l1 ++ (k, X - (c + l1.length)) :: l2
  | [], c => by
    show ptc c ((k, v) :: l2) (c + ((0 : Nat) : Int)) X = _
    unfold ptc
    rw [if_pos (by omega), if_pos hk]
    show (k, X - c) :: l2 = (k, X - (c + ((0 : Nat) : Int))) :: l2
    rw [show c + ((0 : Nat) : Int) = c by omega]
  | (k1, v1) :: l1, c => by
    have ih := ptc_at (l2 := l2) (v := v) (X := X) hk (l1 := l1) (c := c + 1)
    show ptc c ((k1, v1) :: (l1 ++ (k, v) :: l2)) (c + ((l1.length + 1 : Nat) : Int)) X = (k1, v1) :: (l1 ++ (k, X - (c + ((l1.length + 1 : Nat) : Int))) :: l2)
    unfold ptc
    rw [if_neg (by omega), show c + ((l1.length + 1 : Nat) : Int) = c + 1 + (l1.length : Int) by omega, ih]
/-- an operator taken from the pile: written, or its jump ended here -/
def stl1 (x : Int × Int) (l : CLs) : CLs := if x.1 = 28 ∨ x.1 = 29 then ptc 0 l x.2 (l.length : Int) else l ++ [(x.1, 0)]
def stl (b : Int) : CLs → CLs → CLs × CLs
  | l, [] => (l, [])
  | l, x :: P => if bnd x.1 < b then (l, x :: P) else stl b (stl1 x l) P
def stlA : CLs → CLs → CLs
  | [], l => l
  | x :: P, l => stlA P (stl1 x l)
def topLt (b : Int) (P : CLs) : Prop := ∀ x P', P = x :: P' → bnd x.1 < b
theorem stl_app {b : Int} {P : CLs} (h : topLt b P) : ∀ {pend l : CLs}, (∀ x, x ∈ pend → b ≤ bnd x.1) → stl b l (pend ++ P) = (stlA pend l, P)
  | [], l, _ => by
    match P, h with
    | [], _ => rfl
    | x :: P', h =>
      show (if bnd x.1 < b then (l, x :: P') else stl b (stl1 x l) P') = (l, x :: P')
      rw [if_pos (h x P' rfl)]
  | x :: pend, l, hp => by
    have := hp x (List.mem_cons_self ..)
    show (if bnd x.1 < b then (l, x :: (pend ++ P)) else stl b (stl1 x l) (pend ++ P)) = (stlA pend (stl1 x l), P)
    rw [if_neg (by omega)]
    exact stl_app h (fun y hy => hp y (List.mem_cons_of_mem _ hy))
theorem stlA_app : ∀ {p1 p2 l : CLs}, stlA (p1 ++ p2) l = stlA p2 (stlA p1 l)
  | [], _, _ => rfl
  | x :: p1, p2, l => by
    show stlA (p1 ++ p2) (stl1 x l) = stlA p2 (stlA p1 (stl1 x l))
    exact stlA_app
/-- how many of the pile are still to be written -/
def emc : CLs → Nat
  | [] => 0
  | x :: P => (if x.1 = 28 ∨ x.1 = 29 ∨ 30 ≤ x.1 then 0 else 1) + emc P
theorem emc_app : ∀ {p1 p2 : CLs}, emc (p1 ++ p2) = emc p1 + emc p2
  | [], p2 => by
    show emc p2 = 0 + emc p2
    omega
  | x :: p1, p2 => by
    have := emc_app (p1 := p1) (p2 := p2)
    show _ + emc (p1 ++ p2) = (_ + emc p1) + emc p2
    omega
theorem stl1_len {x : Int × Int} {l : CLs} (hx : x.1 < 30) : (stl1 x l).length + 0 = l.length + (if x.1 = 28 ∨ x.1 = 29 ∨ 30 ≤ x.1 then 0 else 1) := by
  unfold stl1
  by_cases c : x.1 = 28 ∨ x.1 = 29
  · rw [if_pos c, if_pos (by omega), ptc_len]
  · rw [if_neg c, if_neg (by omega), List.length_append]
    rfl
/-- the pile -/
def PileE (O A : Int → Int) : CLs → Prop
  | [] => True
  | x :: P => (O (P.length : Int) = x.1 ∧ A (P.length : Int) = x.2) ∧ PileE O A P
theorem pile_congr {O A O2 A2 : Int → Int} : ∀ {P : CLs}, (∀ i : Int, 0 ≤ i → i < P.length → O2 i = O i ∧ A2 i = A i) → PileE O A P → PileE O2 A2 P
  | [], _, _ => trivial
  | x :: P, h, e => by
    have h0 := h P.length (by omega) (by rw [List.length_cons]; omega)
    exact ⟨⟨h0.1.trans e.1.1, h0.2.trans e.1.2⟩, pile_congr (fun i i0 i1 => h i i0 (by rw [List.length_cons]; omega)) e.2⟩
/-- what the reference's reading leaves as it was -/
def FrM2 (n2 n : NM) : Prop := ∀ (t : Nat) (x : Int), (t < 145 ∨ 155 < t ∨ (145 < t ∧ t < 152) ∨ (t = 145 ∧ (x < 9 ∨ (14 < x ∧ x ≠ 17 ∧ x ≠ 20 ∧ x ≠ 23 ∧ x ≠ 24)))) → n2 t x = n t x
/-- what settling changes -/
def FrSt (n2 n : NM) : Prop := ∀ (t : Nat) (x : Int), (t < 145 ∨ 155 < t ∨ (145 < t ∧ t < 152) ∨ t = 154 ∨ t = 155 ∨ (t = 145 ∧ x ≠ 17 ∧ x ≠ 23)) → n2 t x = n t x
/-- the reference's code and pile -/
def MR (n : NM) (l P : CLs) : Prop := (n 145 17 = (l.length : Int) ∧ n 145 23 = (P.length : Int)) ∧ (l.length + emc P ≤ 400 ∧ P.length ≤ 400) ∧ EmbM (n 152) (n 153) 0 l ∧ PileE (n 154) (n 155) P ∧ ∀ x, x ∈ P → (20 ≤ x.1 ∧ x.1 ≤ 31) ∧ ((x.1 = 28 ∨ x.1 = 29) → 0 ≤ x.2 ∧ x.2 < (l.length : Int))
theorem FrSt.tr {n3 n2 : NM} (h : FrSt n3 n2) (g : FrSt n2 n) : FrSt n3 n := fun t x c => (h t x c).trans (g t x c)
theorem FrSt.upd {n2 : NM} {t : Nat} {i v : Int} (h : FrSt n2 n) (ht : t = 152 ∨ t = 153 ∨ (t = 145 ∧ (i = 17 ∨ i = 23))) : FrSt (upn n2 t i v) n := fun u x c => by
  rw [upn_ap, if_neg (by omega)]
  exact h u x c
theorem FrM2.upd {n2 : NM} {t : Nat} {i v : Int} (h : FrM2 n2 n) (ht : t = 152 ∨ t = 153 ∨ t = 154 ∨ t = 155 ∨ (t = 145 ∧ ((9 ≤ i ∧ i ≤ 14) ∨ i = 17 ∨ i = 20 ∨ i = 23 ∨ i = 24))) : FrM2 (upn n2 t i v) n := fun u x c => by
  rw [upn_ap, if_neg (by omega)]
  exact h u x c
theorem FrM2.tr {n3 n2 : NM} (h : FrM2 n3 n2) (g : FrM2 n2 n) : FrM2 n3 n := fun t x c => (h t x c).trans (g t x c)
theorem FrM2.ofS {n2 : NM} (h : FrSt n2 n) : FrM2 n2 n := fun t x c => h t x (by omega)
theorem FrM2.ofX {n2 : NM} (h : FrX n2 n) : FrM2 n2 n := fun t x c => h t x (by omega)
theorem m_emit {l : CLs} {k v : Int} (h17 : n 145 17 = (l.length : Int)) (hl : l.length < 400) (he : EmbM (n 152) (n 153) 0 l) : Ev w d 0 0 mX12_emit [vr 145, vi k, vi v] (B0, n) (fun r h' => ∃ n1 : NM, r = none ∧ h' = (B0, n1) ∧ FrSt n1 n ∧ n1 145 17 = (l.length : Int) + 1 ∧ n1 145 23 = n 145 23 ∧ ∀ v', v = (if k = 28 ∨ k = 29 then (l.length : Int) + v' else v') → EmbM (n1 152) (n1 153) 0 (l ++ [(k, v')])) := by
  refine EV.ofP (by decide +kernel) (Nat.le_of_ble_eq_true rfl) rfl (fun _ G => gX12_emit_0 ?_)
  rw [h17]
  refine ⟨by omega, by omega, by omega, by omega, ⟨by omega, by omega⟩, _, rfl, rfl, FrSt.upd (FrSt.upd (FrSt.upd (fun _ _ _ => rfl) (by omega)) (by omega)) (by omega), ?_, ?_, fun v' hv => ?_⟩
  · rw [upn_self]
  · rw [upn_i (by decide), upn_a (by decide), upn_a (by decide)]
  · rw [upn_ne (show (152 : Nat) ≠ 145 by decide), upn_ne (show (152 : Nat) ≠ 153 by decide), upn_ne (show (153 : Nat) ≠ 145 by decide)]
    refine (embM_app _ _ _).mpr ⟨embM_congr _ _ (fun i i0 i1 => ?_) he, ?_, ?_, trivial⟩
    · rw [upn_i (by omega), upn_i (by omega), upn_ne (show (153 : Nat) ≠ 152 by decide)]
      exact ⟨rfl, rfl⟩
    · rw [show (0 : Int) + (l.length : Int) = l.length by omega, upn_self]
    · rw [show (0 : Int) + (l.length : Int) = l.length by omega, upn_self]
      exact hv
theorem m_push {P : CLs} {k v : Int} (h23 : n 145 23 = (P.length : Int)) (hl : P.length < 400) (he : PileE (n 154) (n 155) P) : Ev w d 0 0 mX12_push [vr 145, vi k, vi v] (B0, n) (fun r h' => ∃ n1 : NM, r = none ∧ h' = (B0, n1) ∧ (∀ (t : Nat) (x : Int), (t ≠ 154 ∧ t ≠ 155 ∧ (t ≠ 145 ∨ x ≠ 23)) → n1 t x = n t x) ∧ n1 145 23 = (P.length : Int) + 1 ∧ PileE (n1 154) (n1 155) ((k, v) :: P)) := by
  refine EV.ofP (by decide +kernel) (Nat.le_of_ble_eq_true rfl) rfl (fun _ G => gX12_push_0 ?_)
  rw [h23]
  refine ⟨by omega, by omega, by omega, by omega, ⟨by omega, by omega⟩, _, rfl, rfl, fun t x c => ?_, ?_, ?_⟩
  · rw [upn_ap, if_neg (by omega), upn_ap, if_neg (by omega), upn_ap, if_neg (by omega)]
  · rw [upn_self]
  · rw [upn_ne (show (154 : Nat) ≠ 145 by decide), upn_ne (show (154 : Nat) ≠ 155 by decide), upn_ne (show (155 : Nat) ≠ 145 by decide)]
    refine ⟨⟨upn_self _ _ _ _, upn_self _ _ _ _⟩, pile_congr (fun i i0 i1 => ?_) he⟩
    rw [upn_i (by omega), upn_i (by omega), upn_ne (show (155 : Nat) ≠ 154 by decide)]
    exact ⟨rfl, rfl⟩
theorem m_settleL {b : Int} (hb : 1 ≤ b) {G : GM} {Q : Option AV → Hp → Prop} {n0 : NM} : ∀ (P l : CLs) (n : NM), FrSt n n0 → MR n l P → (∀ n1, FrSt n1 n0 → MR n1 (stl b l P).1 (stl b l P).2 → Q none (B0, n1)) → Rn w mX12_settle (d + 1) G Q 0 [(0, vr 145), (1, vi b)] [] (B0, n)
  | [], l, n, f, h, post => by
    have h23 := h.1.2
    refine gX12_settle_0 ⟨fun _ => post n f h, fun c => ?_⟩
    rw [h23] at c
    exact absurd c (by show ¬ (0 : Int) < ((0 : Nat) : Int); decide)
  | x :: P, l, n, f, h, post => by
    have h23 := h.1.2
    have h17 := h.1.1
    have hc := h.2.1
    rw [List.length_cons] at h23 hc
    have hx := h.2.2.2.2 x (List.mem_cons_self ..)
    have ht := h.2.2.2.1.1
    have e1 : n 145 23 - 1 = (P.length : Int) := by omega
    refine gX12_settle_0 ⟨fun c => absurd c (by omega), fun _ => ⟨⟨by omega, by omega⟩, by omega, by omega, ?_⟩⟩
    rw [e1, ht.1]
    have ep : stl b l (x :: P) = if bnd x.1 < b then (l, x :: P) else stl b (stl1 x l) P := rfl
    refine EI.use m_binds ⟨fun c => ?_, fun c => ⟨⟨by omega, by omega⟩, ?_⟩⟩
    · refine post n f ?_
      rw [ep, if_pos c]
      exact h
    · rw [e1, ht.1]
      rw [ep, if_neg (by omega)] at post
      have x30 : x.1 < 30 := by
        by_cases q : 30 ≤ x.1
        · unfold bnd at c
          rw [if_pos q] at c
          omega
        · omega
      have emc_c : emc (x :: P) = (if x.1 = 28 ∨ x.1 = 29 ∨ 30 ≤ x.1 then 0 else 1) + emc P := rfl
      have sl := stl1_len (l := l) x30
      have hP : ∀ y, y ∈ P → (20 ≤ y.1 ∧ y.1 ≤ 31) ∧ ((y.1 = 28 ∨ y.1 = 29) → 0 ≤ y.2 ∧ y.2 < ((stl1 x l).length : Int)) := fun y hy => by
        have := h.2.2.2.2 y (List.mem_cons_of_mem _ hy)
        refine ⟨this.1, fun c => ?_⟩
        have := this.2 c
        omega
      have jump : (x.1 = 28 ∨ x.1 = 29) → Rn w mX12_settle (d + 1) G Q 63 [(0, vr 145), (1, vi b)] [] (B0, upn n 145 23 (P.length : Int)) := fun cj => by
        have hx2 := hx.2 cj
        have es : stl1 x l = ptc 0 l x.2 (l.length : Int) := by
          unfold stl1
          rw [if_pos cj]
        refine gX12_settle_63 ?_
        rw [upn_self, upn_a (by decide), ht.2, upn_i (by decide), h17]
        refine ⟨by omega, by omega, by omega, by omega, m_settleL hb P (stl1 x l) _ ((f.upd (by omega)).upd (by omega)) ⟨⟨?_, ?_⟩, ?_, ?_, ?_, hP⟩ post⟩
        · rw [upn_a (by decide), upn_i (by decide), h17, es, ptc_len]
        · rw [upn_a (by decide), upn_self]
        · rw [if_pos (by omega)] at emc_c sl
          omega
        · have q := ptc_emb (a := x.2) (X := (l.length : Int)) h.2.2.1
          rw [es, upn_ne (show (152 : Nat) ≠ 153 by decide), upn_ne (show (152 : Nat) ≠ 145 by decide)]
          have ef : upn (upn n 145 23 (P.length : Int)) 153 x.2 (l.length : Int) 153 = fun i => if i = x.2 then (l.length : Int) else n 153 i := by
            funext i
            rw [upn_ap, upn_ap]
            by_cases q : i = x.2
            · rw [if_pos ⟨rfl, q⟩, if_pos q]
            · rw [if_neg (fun y => q y.2), if_neg q, if_neg (fun y => absurd y.1 (by decide))]
          rw [ef]
          exact q
        · rw [upn_ne (show (154 : Nat) ≠ 153 by decide), upn_ne (show (154 : Nat) ≠ 145 by decide), upn_ne (show (155 : Nat) ≠ 153 by decide), upn_ne (show (155 : Nat) ≠ 145 by decide)]
          exact h.2.2.2.1.2
      refine ⟨by omega, by omega, fun c8 => jump (Or.inl c8), fun c8 => ⟨by omega, by omega, fun c9 => ⟨by omega, by omega, ?_⟩, fun c9 => jump (Or.inr c9)⟩⟩
      have es : stl1 x l = l ++ [(x.1, 0)] := by
        unfold stl1
        rw [if_neg (by omega)]
      rw [if_neg (by omega)] at emc_c sl
      have h17' : (upn n 145 23 (P.length : Int)) 145 17 = (l.length : Int) := by rw [upn_i (by decide)]; exact h17
      refine EV.usP (m_emit (l := l) h17' (by omega) (by rw [upn_ne (by decide), upn_ne (by decide)]; exact h.2.2.1)) (fun n1 z => m_settleL hb P (stl1 x l) n1 (z.1.tr (f.upd (by omega))) ⟨⟨?_, ?_⟩, ?_, ?_, ?_, hP⟩ post)
      · rw [z.2.1]
        omega
      · rw [z.2.2.1, upn_self]
      · omega
      · rw [es]
        exact z.2.2.2 0 (by rw [if_neg (by omega)])
      · have e154 : n1 154 = n 154 := by
          funext i
          rw [z.1 154 i (by omega), upn_a (by decide)]
        have e155 : n1 155 = n 155 := by
          funext i
          rw [z.1 155 i (by omega), upn_a (by decide)]
        rw [e154, e155]
        exact h.2.2.2.1.2
theorem m_settle {b : Int} {P l : CLs} (hb : 1 ≤ b) (h : MR n l P) : Ev w (d + 1) 0 0 mX12_settle [vr 145, vi b] (B0, n) (fun r h' => ∃ n1 : NM, r = none ∧ h' = (B0, n1) ∧ FrSt n1 n ∧ MR n1 (stl b l P).1 (stl b l P).2) :=
  EV.ofP (by decide +kernel) (Nat.le_of_ble_eq_true rfl) rfl (fun _ G => m_settleL hb P l n (fun _ _ _ => rfl) h (fun n1 f z => ⟨n1, rfl, rfl, f, z⟩))
/-- the innermost bracket of the pile -/
def innP : CLs → Int
  | [] => -1
  | x :: P => if 30 ≤ x.1 then x.1 else innP P
theorem innP_app {P : CLs} : ∀ {pend : CLs}, (∀ x, x ∈ pend → 1 ≤ bnd x.1) → innP (pend ++ P) = innP P
  | [], _ => rfl
  | x :: pend, h => by
    have := h x (List.mem_cons_self ..)
    show (if 30 ≤ x.1 then x.1 else innP (pend ++ P)) = innP P
    rw [if_neg (fun q => by unfold bnd at this; rw [if_pos q] at this; omega)]
    exact innP_app (fun y hy => h y (List.mem_cons_of_mem _ hy))
theorem m_innerL {G : GM} {Q : Option AV → Hp → Prop} {A : CLs} (hA : PileE (n 154) (n 155) A) (h23 : n 145 23 = (A.length : Int)) (h4 : A.length ≤ 400) (hq : Q (some (vi (innP A))) (B0, n)) : ∀ (P B : CLs), A = P ++ B → (∀ x, PileE (n 154) (n 155) B → x = innP B → Rn w mX12_inner d G Q 4 [(0, vr 145), (1, vi x), (2, vi (B.length : Int))] [] (B0, n)) := by
  intro P
  induction h : P.length generalizing P with
  | zero =>
    intro B e x hB hx
    have : P = [] := List.length_eq_zero_iff.mp h
    subst this
    have e2 : A = B := e
    subst e2
    refine gX12_inner_4 ⟨fun _ => by rw [hx]; exact hq, fun c => absurd c (by omega)⟩
  | succ k ih =>
    intro B e x hB hx
    obtain ⟨P', y, ey⟩ : ∃ (P' : CLs) (y : Int × Int), P = P' ++ [y] := by
      refine ⟨P.dropLast, P.getLast (by intro z; rw [z] at h; cases h), ?_⟩
      exact (List.dropLast_concat_getLast _).symm
    have e2 : A = P' ++ (y :: B) := by rw [e, ey, List.append_assoc]; rfl
    have hl : A.length = P'.length + (B.length + 1) := by rw [e2, List.length_append, List.length_cons]
    have drop : ∀ (X Y : CLs), PileE (n 154) (n 155) (X ++ Y) → PileE (n 154) (n 155) Y := fun X => by
      induction X with
      | nil => exact fun Y z => z
      | cons a X ihX => exact fun Y z => ihX Y z.2
    have hy := drop P' (y :: B) (by rw [← e2]; exact hA)
    refine gX12_inner_4 ⟨fun c => absurd c (by omega), fun c => ⟨by omega, by omega, fun _ => by omega, fun _ => by omega, fun z hz => ⟨⟨by omega, by omega⟩, ?_⟩⟩⟩
    have hP' : P'.length = k := by
      rw [ey, List.length_append] at h
      have : ([y] : CLs).length = 1 := rfl
      omega
    have q := ih P' hP' (y :: B) e2 z hy (by
      rw [hz, hy.1.1, hx]
      show _ = if 30 ≤ y.1 then y.1 else innP B
      by_cases c3 : y.1 < 30
      · rw [if_pos c3, if_neg (by omega)]
      · rw [if_neg c3, if_pos (by omega)])
    rw [List.length_cons] at q
    rw [show (B.length : Int) + 1 = ((B.length + 1 : Nat) : Int) by omega]
    exact q
theorem m_inner {l P : CLs} (h : MR n l P) : EI w d mX12_inner [vr 145] B0 n (innP P) n :=
  EI.of (by decide +kernel) (Nat.le_of_ble_eq_true rfl) rfl (fun _ G => gX12_inner_0 (m_innerL h.2.2.2.1 h.1.2 h.2.1.2 ⟨rfl, rfl⟩ P [] (List.append_nil P).symm (-1) trivial rfl))
/-- whether a comparison stands below the sum -/
def isCmpP : CLs → Int
  | [] => 0
  | x :: P => if 20 ≤ x.1 ∧ x.1 ≤ 23 then isCmpP P else if 24 ≤ x.1 ∧ x.1 ≤ 26 then 1 else 0
theorem m_isCmpL {G : GM} {Q : Option AV → Hp → Prop} : ∀ (P : CLs), P.length ≤ 400 → PileE (n 154) (n 155) P → Q (some (vi (isCmpP P))) (B0, n) → Rn w mX12_isCompared (d + 1) G Q 7 [(0, vr 145), (1, vi ((P.length : Int) - 1))] [] (B0, n)
  | [], _, _, q => gX12_isCompared_7 ⟨fun _ => gX12_isCompared_36 ⟨fun _ => q, fun c => absurd c (by decide)⟩, fun c => absurd c (by decide)⟩
  | x :: P, hl, he, q => by
    rw [List.length_cons] at hl ⊢
    rw [show ((P.length + 1 : Nat) : Int) - 1 = P.length by omega]
    have e : isCmpP (x :: P) = if 20 ≤ x.1 ∧ x.1 ≤ 23 then isCmpP P else if 24 ≤ x.1 ∧ x.1 ≤ 26 then 1 else 0 := rfl
    rw [e] at q
    refine gX12_isCompared_7 ⟨fun c => absurd c (by omega), fun _ => ⟨by omega, by omega, ?_⟩⟩
    rw [he.1.1]
    refine EI.use (m_in _ _ _) (ite01 (fun c => ?_) (fun c => ?_))
    · rw [if_neg c] at q
      refine gX12_isCompared_36 ⟨fun c => absurd c (by omega), fun _ => ⟨by omega, by omega, ?_⟩⟩
      rw [he.1.1]
      refine EI.use (m_in _ _ _) (ite01 (fun c2 => ?_) (fun c2 => ?_))
      · rw [if_neg c2] at q
        exact q
      · rw [if_pos c2] at q
        exact q
    · rw [if_pos c] at q
      refine ⟨⟨by omega, by omega⟩, ?_⟩
      rw [show (P.length : Int) + -1 = (P.length : Int) - 1 by omega]
      exact m_isCmpL P (by omega) he.2 q
theorem m_isCmp {l P : CLs} (h : MR n l P) : EI w (d + 1) mX12_isCompared [vr 145] B0 n (isCmpP P) n := by
  have hc := h.2.1.2
  have h23 := h.1.2
  refine EI.of (by decide +kernel) (Nat.le_of_ble_eq_true rfl) rfl (fun _ G => gX12_isCompared_0 ?_)
  rw [h23]
  exact ⟨⟨by omega, by omega⟩, m_isCmpL P hc h.2.2.2.1 ⟨rfl, rfl⟩⟩
end MTOOL
