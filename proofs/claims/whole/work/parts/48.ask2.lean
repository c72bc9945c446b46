section ASK2
variable {w : WD} {d : Nat} {n : NM}
noncomputable def lawT (K V C R W : Int → Int) (c : Int) : Option Int := Classical.epsilon (fun o => ClEv K V C R W c o)
theorem lawT_ev {K V C R W : Int → Int} {NC NR c : Int} (h : ClauseRel K V C R NC NR c) : ClEv K V C R W c (lawT K V C R W c) := Classical.epsilon_spec (ClauseRel.ev h)
/-- what the law tells of a head (0 .. 5) for the sight x -/
noncomputable def lawG (n : NM) (x h : Int) : Int := clH h (tellA (lawT (cutF (n 17) 400) (cutF (n 18) 400) (cutF (n 20) 48) (rowL (n 147)) (wdS (n 147) (420 + 7 * x))) (fun c => cutF (n 20) 48 (4 * c)) h (if h = 5 then 100 else 0) (n 19 3).toNat)
theorem clH_le (h v : Int) : 0 ≤ clH h v ∧ clH h v ≤ 1000 := by
  unfold clH
  split <;> omega
theorem clH_5 (v : Int) : 1 ≤ clH 5 v := by
  unfold clH
  rw [if_pos rfl]
  omega
theorem lawG_le {x h : Int} : 0 ≤ lawG n x h ∧ lawG n x h ≤ 1000 := clH_le _ _
theorem lawG_congr {n2 : NM} {x h : Int} (e1 : n2 17 = n 17) (e2 : n2 18 = n 18) (e3 : n2 19 = n 19) (e4 : n2 20 = n 20) (e5 : n2 147 = n 147) : lawG n2 x h = lawG n x h := by
  unfold lawG
  rw [e1, e2, e3, e4, e5]
/-- an asker that has asked -/
def AkD (n : NM) (x : Int) (n1 : NM) : Prop := (∀ t : Nat, t ≠ 47 → t ≠ 48 → t ≠ 49 → t ≠ 50 → n1 t = n t) ∧ n1 47 5 = thT (n 147) (420 + 7 * x) 5 ∧ ∀ j, 0 ≤ j → j < 6 → n1 50 j = lawG n x j
theorem s_ask {x : Int} (hL : LakeRel n 1 (n 147)) (hr : RowOk (n 147)) (x0 : 0 ≤ x) (x1 : x < n 147 5) : Ev w (d + 6) 0 0 mX0_ask [vr 47, vr 1, vi x] (B0, n) (fun r h' => ∃ n1 : NM, r = none ∧ h' = (B0, n1) ∧ AkD n x n1) := by
  have hLaw : LawRel n 1 (n 147) := hL.2.2.2.2.2.2.2.1
  obtain ⟨hT, e901, N0, N12, hC, NR, hM, hcl⟩ := hLaw
  have e1 : (upn n 47 5 (thT (n 147) (420 + 7 * x) 5)) 147 = n 147 := upn_ne (by decide)
  have sw := s_setWords (w := w) (d := d + 1) (n := upn n 47 5 (thT (n 147) (420 + 7 * x) 5)) (x := x) (by rw [e1]; exact hL.congr (fun t a b => upn_ne (by omega)) (fun _ _ _ => rfl)) (by rw [e1]; exact hr) x0 (by rw [e1]; exact x1)
  rw [e1] at sw
  have fa : ∀ N : NM, EV w (d + 5) mJ7_fill_53178 [vr 50, vi 0] B0 N (wrow N 50 0 6 (fun _ => 0)) := fun N => by
    refine EV.of (by decide +kernel) (Nat.le_of_ble_eq_true rfl) rfl (fun _ G => gJ7_fill_53178_0 ob_50 ⟨⟨by decide, by decide⟩, ?_⟩)
    have := s_fillL (w := w) (d := d + 5) (G := G) (n := N) (x := 0) ob_50 (by decide) 6 0 rfl
    rw [show wrow N 50 0 ((0 : Nat) : Int) (fun _ => 0) = N from wrow_0] at this
    exact this
  refine EV.ofP (by decide +kernel) (Nat.le_of_ble_eq_true rfl) rfl (fun _ G => gX0_ask_0 (EI.use (s_causes (d := d + 1) hL hr x0 x1) (EV.usP sw (fun n1 z => EV.use (fa n1) ?_))))
  have ez : ∀ t : Nat, t ≠ 47 → t ≠ 49 → t ≠ 50 → (upn (wrow n1 50 0 6 (fun _ => 0)) 50 5 100) t = n t := fun t a b c => by
    rw [upn_ne c, wrow_ne c, z.1 t b, upn_ne a]
  have q := s_askL (w := w) (d := d) (G := G) (K := cutF (n 17) 400) (V := cutF (n 18) 400) (C := cutF (n 20) 48) (R := rowL (n 147)) (W := wdS (n 147) (420 + 7 * x)) (NS := n 16 2) (NR := NR) (T := lawT (cutF (n 17) 400) (cutF (n 18) 400) (cutF (n 20) 48) (rowL (n 147)) (wdS (n 147) (420 + 7 * x))) (n0 := upn (wrow n1 50 0 6 (fun _ => 0)) 50 5 100) hC ?_ ?_ ?_ ?_ ?_ (n 19 3).toNat 0 (upn (wrow n1 50 0 6 (fun _ => 0)) 50 5 100) ?_ ⟨fun _ _ _ _ => rfl, rfl, ?_⟩
  · refine Rn.weak (fun v h' u => ?_) q
    obtain ⟨n2, a, b, c⟩ := u
    refine ⟨n2, a, b, fun t t0 t1 t2 t3 => (c.1 t t0 t1 t3).trans (ez t t0 t2 t3), ?_, fun j j0 j1 => ?_⟩
    · rw [c.2.1, upn_a (by decide), wrow_a (by decide), z.1 47 (by decide), upn_self]
    · rw [c.2.2 j j0 j1, ez 19 (by decide) (by decide) (by decide)]
      rfl
  · refine ⟨fun p p0 p1 => ?_, fun i i0 i1 => ?_⟩
    · rw [ez 17 (by decide) (by decide) (by decide), ez 18 (by decide) (by decide) (by decide)]
      have h400 : n 16 2 ≤ 400 := hC.2.1
      exact ⟨(if_pos (by omega)).symm, (if_pos (by omega)).symm⟩
    · rw [upn_a (by decide), wrow_a (by decide), z.2 i i0 i1]
      exact ⟨rfl, wdS_le hr x0 x1 i⟩
  · exact hT.congr (ez 19 (by decide) (by decide) (by decide))
  · rw [ez 20 (by decide) (by decide) (by decide)]
  · intro c c0 c1
    rw [ez 19 (by decide) (by decide) (by decide)] at c1
    exact hcl c c0 c1
  · intro c c0 c1
    rw [ez 19 (by decide) (by decide) (by decide)] at c1
    exact lawT_ev (hcl c c0 c1)
  · rw [ez 19 (by decide) (by decide) (by decide)]
    have : 0 ≤ n 19 3 := N0
    omega
  · intro j j0 j1
    show _ = clH j (if j = 5 then 100 else 0)
    by_cases c : j = 5
    · rw [if_pos c, c, upn_self]
      rfl
    · rw [if_neg c, upn_i c, wrow_in j0 (by omega)]
      unfold clH
      rw [if_neg c]
      rfl
/-- the causes' bits -/
def th5 (a b c e : Int) : Int := (if e = 0 then (if c = 0 then (if b = 0 then (if a = 0 then 16 else ior 16 1) else ior (if a = 0 then 16 else ior 16 1) 2) else ior (if b = 0 then (if a = 0 then 16 else ior 16 1) else ior (if a = 0 then 16 else ior 16 1) 2) 4) else ior (if c = 0 then (if b = 0 then (if a = 0 then 16 else ior 16 1) else ior (if a = 0 then 16 else ior 16 1) 2) else ior (if b = 0 then (if a = 0 then 16 else ior 16 1) else ior (if a = 0 then 16 else ior 16 1) 2) 4) 8)
theorem thT_th5 {r : Int → Int} {s : Int} : thT r s 5 = th5 (thV r s 0) (thV r s 1) (thV r s 2) (thV r s 3) := thT_eq (thV_01 0) (thV_01 1) (thV_01 2) (thV_01 3)
theorem th5_bit {a b c e : Int} (ha : a = 0 ∨ a = 1) (hb : b = 0 ∨ b = 1) (hc : c = 0 ∨ c = 1) (he : e = 0 ∨ e = 1) : (th5 a b c e / ((2 ^ 0 : Nat) : Int)) % 2 = a ∧ (th5 a b c e / ((2 ^ 1 : Nat) : Int)) % 2 = b ∧ (th5 a b c e / ((2 ^ 2 : Nat) : Int)) % 2 = c ∧ (th5 a b c e / ((2 ^ 3 : Nat) : Int)) % 2 = e ∧ (th5 a b c e / ((2 ^ 4 : Nat) : Int)) % 2 = 1 := by
  rcases ha with rfl | rfl <;> rcases hb with rfl | rfl <;> rcases hc with rfl | rfl <;> rcases he with rfl | rfl <;> decide +kernel
theorem thT_bit {r : Int → Int} {s : Int} : ∀ k : Nat, k < 5 → (thT r s 5 / ((2 ^ k : Nat) : Int)) % 2 = thV r s k := by
  intro k hk
  have q := th5_bit (thV_01 (r := r) (s := s) 0) (thV_01 (r := r) (s := s) 1) (thV_01 (r := r) (s := s) 2) (thV_01 (r := r) (s := s) 3)
  rw [← thT_th5] at q
  match k, hk with
  | 0, _ => exact q.1
  | 1, _ => exact q.2.1
  | 2, _ => exact q.2.2.1
  | 3, _ => exact q.2.2.2.1
  | 4, _ => exact q.2.2.2.2
  | k + 5, hk => omega
/-- the weight of a cause at the sight x -/
noncomputable def wtV (n : NM) (x : Int) (k : Nat) : Int := if thV (n 147) (420 + 7 * x) k = 0 then 0 else lawG n x (k : Int)
theorem wtV_le {x : Int} {k : Nat} : 0 ≤ wtV n x k ∧ wtV n x k ≤ 1000 := by
  unfold wtV
  split
  · exact ⟨by decide, by decide⟩
  · exact lawG_le
theorem wtV_congr {n2 : NM} {x : Int} {k : Nat} (e1 : n2 17 = n 17) (e2 : n2 18 = n 18) (e3 : n2 19 = n 19) (e4 : n2 20 = n 20) (e5 : n2 147 = n 147) : wtV n2 x k = wtV n x k := by
  unfold wtV
  rw [lawG_congr e1 e2 e3 e4 e5, e5]
theorem s_weightOf {x : Int} {n1 : NM} {k : Nat} (h : AkD n x n1) (hk : k < 5) : EI w d mX0_weightOf [vr 47, vi (k : Int)] B0 n1 (wtV n x k) n1 := by
  have hb := thT_bit (r := n 147) (s := 420 + 7 * x) k hk
  refine EI.of (by decide +kernel) (Nat.le_of_ble_eq_true rfl) rfl (fun _ G => gX0_weightOf_0 ⟨fun z => absurd z (by omega), fun _ => ⟨fun z => absurd z (by omega), fun _ => ⟨k, rfl, by omega, fun z ez => ?_⟩⟩⟩)
  rw [h.2.1, hb] at ez
  unfold wtV
  rcases thV_01 (r := n 147) (s := 420 + 7 * x) k with q | q
  · rw [q, if_pos (by decide)] at ez
    rw [if_pos q]
    exact ⟨fun _ => ⟨rfl, rfl⟩, fun z2 => absurd ez z2⟩
  · rw [q, if_neg (by decide)] at ez
    rw [if_neg (by rw [q]; decide)]
    exact ⟨fun z2 => absurd (ez.symm.trans z2) (by decide), fun _ => ⟨by omega, by omega, by rw [h.2.2 _ (by omega) (by omega)], rfl⟩⟩
noncomputable def wtS (n : NM) (x : Int) : Nat → Int
  | 0 => 0
  | k + 1 => wtS n x k + wtV n x k
theorem wtS_le {x : Int} : ∀ k : Nat, 0 ≤ wtS n x k ∧ wtS n x k ≤ 1000 * k
  | 0 => ⟨Int.le_refl _, Int.le_refl _⟩
  | k + 1 => by
    have ih := wtS_le (x := x) k
    have q := wtV_le (n := n) (x := x) (k := k)
    have e : wtS n x (k + 1) = wtS n x k + wtV n x k := rfl
    omega
theorem wtS_congr {n2 : NM} {x : Int} (e1 : n2 17 = n 17) (e2 : n2 18 = n 18) (e3 : n2 19 = n 19) (e4 : n2 20 = n 20) (e5 : n2 147 = n 147) : ∀ k : Nat, wtS n2 x k = wtS n x k
  | 0 => rfl
  | k + 1 => by
    have ih := wtS_congr (x := x) e1 e2 e3 e4 e5 k
    have q := wtV_congr (x := x) (k := k) e1 e2 e3 e4 e5
    show wtS n2 x k + wtV n2 x k = wtS n x k + wtV n x k
    rw [ih, q]
theorem s_allL {G : GM} {x : Int} {n1 : NM} (h : AkD n x n1) : ∀ (m k : Nat), k + m = 5 → Rn w mX0_weightOfAll (d + 1) G (fun r h' => r = some (vi (wtS n x 5)) ∧ h' = (B0, n1)) 4 [(0, vr 47), (1, vi (wtS n x k)), (2, vi (k : Int))] [] (B0, n1)
  | 0, k, hk => by
    have : k = 5 := by omega
    subst this
    exact gX0_weightOfAll_4 ⟨fun _ => ⟨rfl, rfl⟩, fun z => absurd z (by decide)⟩
  | m + 1, k, hk => by
    have q := wtS_le (n := n) (x := x) k
    have q2 := wtV_le (n := n) (x := x) (k := k)
    have nxt := s_allL (G := G) h m (k + 1) (by omega)
    exact gX0_weightOfAll_4 ⟨fun z => absurd z (by omega), fun _ => EI.use (s_weightOf h (by omega)) ⟨⟨by omega, by omega⟩, ⟨by omega, by omega⟩, nxt⟩⟩
theorem s_all {x : Int} {n1 : NM} (h : AkD n x n1) : EI w (d + 1) mX0_weightOfAll [vr 47] B0 n1 (wtS n x 5) n1 :=
  EI.of (by decide +kernel) (Nat.le_of_ble_eq_true rfl) rfl (fun _ G => gX0_weightOfAll_0 (s_allL h 5 0 rfl))
noncomputable def lkF (f : Nat → Int) : Nat → Int × Int
  | 0 => (-1, 0)
  | k + 1 => if f k ≤ (lkF f k).2 then lkF f k else ((k : Int), f k)
theorem lkF_le {f : Nat → Int} (hf : ∀ k, 0 ≤ f k ∧ f k ≤ 1000) : ∀ k : Nat, (-1 ≤ (lkF f k).1 ∧ (lkF f k).1 ≤ k) ∧ 0 ≤ (lkF f k).2 ∧ (lkF f k).2 ≤ 1000
  | 0 => ⟨⟨Int.le_refl _, by show (-1 : Int) ≤ 0; decide⟩, by show (0 : Int) ≤ 0; decide, by show (0 : Int) ≤ 1000; decide⟩
  | k + 1 => by
    have ih := lkF_le hf k
    have e : lkF f (k + 1) = if f k ≤ (lkF f k).2 then lkF f k else ((k : Int), f k) := rfl
    rw [e]
    split
    · omega
    · have := hf k
      dsimp only
      omega
theorem s_likeL {G : GM} {x : Int} {n1 : NM} (h : AkD n x n1) : ∀ (m k : Nat), k + m = 5 → Rn w mX0_likeliestCause (d + 1) G (fun r h' => r = some (vi (lkF (wtV n x) 5).1) ∧ h' = (B0, n1)) 6 [(0, vr 47), (1, vi (lkF (wtV n x) k).1), (2, vi (lkF (wtV n x) k).2), (3, vi (k : Int))] [] (B0, n1)
  | 0, k, hk => by
    have : k = 5 := by omega
    subst this
    exact gX0_likeliestCause_6 ⟨fun _ => ⟨rfl, rfl⟩, fun z => absurd z (by decide)⟩
  | m + 1, k, hk => by
    have nxt := s_likeL (G := G) h m (k + 1) (by omega)
    have e : lkF (wtV n x) (k + 1) = if wtV n x k ≤ (lkF (wtV n x) k).2 then lkF (wtV n x) k else ((k : Int), wtV n x k) := rfl
    rw [e] at nxt
    refine gX0_likeliestCause_6 ⟨fun z => absurd z (by omega), fun _ => EI.use (s_weightOf h (by omega)) ⟨fun c => ⟨⟨by omega, by omega⟩, ?_⟩, fun c => EI.use (s_weightOf h (by omega)) ⟨⟨by omega, by omega⟩, ?_⟩⟩⟩
    · rw [if_pos c] at nxt
      exact nxt
    · rw [if_neg (by omega)] at nxt
      exact nxt
theorem s_like {x : Int} {n1 : NM} (h : AkD n x n1) : EI w (d + 1) mX0_likeliestCause [vr 47] B0 n1 (lkF (wtV n x) 5).1 n1 :=
  EI.of (by decide +kernel) (Nat.le_of_ble_eq_true rfl) rfl (fun _ G => gX0_likeliestCause_0 (s_likeL h 5 0 rfl))
theorem s_hund {x : Int} {n1 : NM} (h : AkD n x n1) : EI w d mX0_hundredths [vr 47] B0 n1 (lawG n x 5) n1 :=
  EI.of (by decide +kernel) (Nat.le_of_ble_eq_true rfl) rfl (fun _ G => gX0_hundredths_0 ⟨by rw [h.2.2 5 (by decide) (by decide)], rfl⟩)
/-! the reference's side -/
def FrN (n2 n : NM) : Prop := (∀ t : Nat, t ≠ 145 → t ≠ 157 → n2 t = n t) ∧ ∀ j : Int, j ≠ 27 → j ≠ 28 → j ≠ 29 → n2 145 j = n 145 j
theorem FrN.rf : FrN n n := ⟨fun _ _ _ => rfl, fun _ _ _ _ => rfl⟩
theorem FrN.tr {n2 n3 : NM} (h : FrN n2 n) (h2 : FrN n3 n2) : FrN n3 n := ⟨fun t a b => (h2.1 t a b).trans (h.1 t a b), fun j a b c => (h2.2 j a b c).trans (h.2 j a b c)⟩
theorem FrM.toN {n2 : NM} (h : FrM n2 n) : FrN n2 n := ⟨h.1, fun j a b _ => h.2 j a b⟩
theorem FrN.c {v : Int} : FrN (upn n 145 29 v) n := ⟨fun t a _ => upn_ne a, fun j _ _ c => upn_i c⟩
theorem InM.frn {n2 : NM} {R W : Int → Int} (h : InM n R W) (f : FrN n2 n) : InM n2 R W := by
  refine ⟨fun p a b => ?_, fun i a b => ?_⟩
  · rw [f.1 147 (by decide) (by decide)]
    exact h.1 p a b
  · rw [f.1 156 (by decide) (by decide)]
    exact h.2 i a b
theorem m_reckonAll {R W : Int → Int} {NR p q : Int} {o : Option Int} (hC : CodeM R NR) (hI : InM n R W) (p0 : 0 ≤ p) (p1 : p ≤ NR) (q1 : q ≤ NR) (hr : RunTo (mstep R W) p q o) : Ev w (d + 4) 0 0 mX12_reckonAll [vr 145, vi p, vi q] (B0, n) (fun r h' => ∃ n1 : NM, r = none ∧ h' = (B0, n1) ∧ FrM n1 n ∧ match o with
    | some v => n1 145 27 = 0 ∧ n1 145 28 = v
    | none => n1 145 27 ≠ 0) := by
  obtain ⟨f, hf⟩ := hr
  refine Ev.mono (EV.ofP (P := RkP n (o.map (fun x => (q, [x])))) (by decide +kernel) (Nat.le_of_ble_eq_true rfl) rfl (fun _ G => gX12_reckonAll_0 (m_reckonL hC q1 f (upn n 145 27 0) p [] (hI.fr FrM.a) trivial (fun x hx => by cases hx) (upn_self _ _ _ _) p0 p1 FrM.a hf))) (fun r h' z => ?_)
  obtain ⟨n1, a, b, c⟩ := z
  refine ⟨n1, a, b, c.1, ?_⟩
  have c2 := c.2
  cases o with
  | none => exact c2
  | some v => exact ⟨c2.1, c2.2 v rfl⟩
def OsP (o : Option Int) (x1 : Int) (n1 : NM) : Prop := match o with
  | some v => x1 ≠ 0 ∧ n1 145 29 = v
  | none => x1 = 0
theorem m_isSo {K V C R W : Int → Int} {NS NR c : Int} {o : Option Int} (hC : CodeM R NR) (hI : InM n R W) (c0 : 0 ≤ c) (c1 : c < 12) (hR : ClauseRel K V C R NS NR c) (ho : ClEv K V C R W c o) : Ev w (d + 5) 0 0 mX12_isSo [vr 145, vi (902 + 8 * c)] (B0, n) (fun r h' => ∃ (x1 : Int) (n1 : NM), r = some (vi x1) ∧ h' = (B0, n1) ∧ FrN n1 n ∧ OsP o x1 n1) := by
  obtain ⟨s, _, r1, ho⟩ := ho
  obtain ⟨_, _, _, _, _, _, _, b0, b1, b2, b3, b4, _⟩ := hR
  have hs : ∀ (N : NM) (G : GM), FrN N n → (o = s) → Rn w mX12_isSo (d + 5) G (fun r h' => ∃ (x1 : Int) (n1 : NM), r = some (vi x1) ∧ h' = (B0, n1) ∧ FrN n1 n ∧ OsP o x1 n1) 59 [(0, vr 145), (1, vi (902 + 8 * c))] [] (B0, N) := by
    intro N G f e
    subst e
    refine gX12_isSo_59 ⟨⟨by omega, by omega⟩, by omega, by omega, ⟨by omega, by omega⟩, by omega, by omega, ?_⟩
    rw [(hI.frn f).1 _ (by omega) (by omega), (hI.frn f).1 _ (by omega) (by omega)]
    refine EV.usP (m_reckonAll hC (hI.frn f) b0 (by omega) (by omega) r1) (fun n1 z => ⟨fun q => ⟨_, _, rfl, rfl, f.tr (z.1.toN.tr FrN.c), ?_⟩, fun q => ⟨_, _, rfl, rfl, f.tr (z.1.toN.tr FrN.c), ?_⟩⟩)
    · have z2 := z.2
      cases o with
      | none => rfl
      | some v => exact absurd z2.1 q
    · have z2 := z.2
      cases o with
      | none => exact absurd q z2
      | some v => exact ⟨by decide, by rw [upn_self]; exact z2.2⟩
  have R5 := hI.1 (902 + 8 * c + 5) (by omega) (by omega)
  have R6 := hI.1 (902 + 8 * c + 6) (by omega) (by omega)
  refine EI.ofP (by decide +kernel) (Nat.le_of_ble_eq_true rfl) rfl (fun _ G => gX12_isSo_0 ⟨⟨by omega, by omega⟩, by omega, by omega, ⟨by omega, by omega⟩, by omega, by omega, ?_⟩)
  rw [R5, R6]
  rcases ho with ho | ho
  · exact ⟨fun _ => hs n G FrN.rf ho.2.2, fun z => absurd z (by omega)⟩
  · obtain ⟨_, lt, t, _, t1, et⟩ := ho
    refine ⟨fun z => absurd z (by omega), fun _ => ⟨⟨by omega, by omega⟩, by omega, by omega, ⟨by omega, by omega⟩, by omega, by omega, EV.usP (m_reckonAll hC hI (by omega) (by omega) (by omega) t1) (fun n1 z => ?_)⟩⟩
    have z2 := z.2
    cases t with
    | none =>
      have e2 : o = none := et
      subst e2
      exact ⟨fun q => ⟨_, _, rfl, rfl, z.1.toN, rfl⟩, fun q => absurd q z2⟩
    | some v =>
      have z3 : n1 145 27 = 0 ∧ n1 145 28 = v := z2
      have e2 : o = if v = 0 then none else s := et
      by_cases k0 : v = 0
      · rw [if_pos k0] at e2
        subst e2
        exact ⟨fun q => absurd z3.1 q, fun _ => ⟨fun q => absurd (z3.2.trans k0) q, fun _ => ⟨_, _, rfl, rfl, z.1.toN, rfl⟩⟩⟩
      · rw [if_neg k0] at e2
        exact ⟨fun q => absurd z3.1 q, fun _ => ⟨fun q => hs n1 G z.1.toN e2, fun q => absurd (z3.2.symm.trans q) k0⟩⟩
theorem m_findL {G : GM} {K V C R W : Int → Int} {NS NR N h wd : Int} {T : Int → Option Int} {n0 : NM} (hC : CodeM R NR) (hN : N ≤ 12) (hN1 : R 901 = N) (hR : ∀ c, 0 ≤ c → c < N → ClauseRel K V C R NS NR c) (ho : ∀ c, 0 ≤ c → c < N → ClEv K V C R W c (T c)) (N0 : 0 ≤ N) : ∀ (m k : Nat) (n : NM), (k : Int) + m = N → InM n R W → FrN n n0 →
    Rn w mX12_find (d + 6) G (fun r h' => ∃ (x1 : Int) (n1 : NM), r = some (vi x1) ∧ h' = (B0, n1) ∧ x1 = clH h (tellA T (fun c => C (4 * c)) h wd N.toNat) ∧ FrN n1 n0) 7 [(0, vr 145), (1, vi h), (3, vi (if h = 5 then 1 else 0)), (4, vi 1000), (5, vl (tellA T (fun c => C (4 * c)) h wd k)), (7, vi (k : Int))] [] (B0, n)
  | 0, k, n, hk, hI, hf => by
    have e901 : n 147 901 = N := (hI.1 901 (by decide) (by decide)).trans hN1
    have ek : N.toNat = k := by omega
    rw [ek]
    refine gX12_find_7 ⟨fun _ => ⟨fun a => ⟨fun b => ⟨⟨?_, ?_⟩, _, _, rfl, rfl, ?_, hf⟩, fun b => ⟨_, _, rfl, rfl, ?_, hf⟩⟩, fun a => ⟨_, _, rfl, rfl, ?_, hf⟩⟩, fun z => absurd z (by omega)⟩
    · revert a
      split <;> omega
    · omega
    · unfold clH
      omega
    · unfold clH
      revert a
      split <;> omega
    · unfold clH
      revert a
      split <;> omega
  | m + 1, k, n, hk, hI, hf => by
    have e901 : n 147 901 = N := (hI.1 901 (by decide) (by decide)).trans hN1
    have hr := hR k (by omega) (by omega)
    have eh : n 147 (902 + 8 * (k : Int)) = C (4 * (k : Int)) := (hI.1 _ (by omega) (by omega)).trans hr.1.symm
    have et : tellA T (fun c => C (4 * c)) h wd (k + 1) = if C (4 * (k : Int)) = h then (match T (k : Int) with
      | some v => v
      | none => tellA T (fun c => C (4 * c)) h wd k) else tellA T (fun c => C (4 * c)) h wd k := rfl
    refine gX12_find_7 ⟨fun z => absurd z (by omega), fun _ => ⟨⟨by omega, by omega⟩, ⟨by omega, by omega⟩, by omega, by omega, fun a => ⟨⟨by omega, by omega⟩, ?_⟩, fun a => EI.usP (m_isSo hC hI (by omega) (by omega) hr (ho k (by omega) (by omega))) (fun x1 n1 z zz ez => ⟨⟨by omega, by omega⟩, ?_⟩)⟩⟩
    · have nxt := m_findL (G := G) (h := h) (wd := wd) hC hN hN1 hR ho N0 m (k + 1) n (by omega) hI hf
      rw [et, if_neg (show ¬ C (4 * (k : Int)) = h by rw [← eh]; exact a)] at nxt
      exact nxt
    · have nxt := m_findL (G := G) (h := h) (wd := wd) hC hN hN1 hR ho N0 m (k + 1) n1 (by omega) (hI.frn z.1) (hf.tr z.1)
      rw [et, if_pos (show C (4 * (k : Int)) = h by rw [← eh]; exact a)] at nxt
      have z2 := z.2
      cases hT : T (k : Int) with
      | none =>
        rw [hT] at z2 nxt
        have z3 : x1 = 0 := z2
        rw [if_pos z3] at ez
        rw [ez]
        exact nxt
      | some v =>
        rw [hT] at z2 nxt
        have z3 : x1 ≠ 0 ∧ n1 145 29 = v := z2
        rw [if_neg z3.1, z3.2] at ez
        rw [ez]
        exact nxt
/-- what the reference's asking leaves as it was -/
def FrQ (n2 n : NM) : Prop := (∀ t : Nat, t ≠ 145 → t ≠ 156 → t ≠ 157 → n2 t = n t) ∧ ∀ j : Int, j ≠ 27 → j ≠ 28 → j ≠ 29 → n2 145 j = n 145 j
theorem FrQ.rf : FrQ n n := ⟨fun _ _ _ _ => rfl, fun _ _ _ _ => rfl⟩
theorem FrQ.tr {n2 n3 : NM} (h : FrQ n2 n) (h2 : FrQ n3 n2) : FrQ n3 n := ⟨fun t a b c => (h2.1 t a b c).trans (h.1 t a b c), fun j a b c => (h2.2 j a b c).trans (h.2 j a b c)⟩
theorem m_ask {x : Int} (hr : RowOk (n 147)) (hn : NumsOk (n 147)) (x0 : 0 ≤ x) (x1 : x < n 147 5) : Ev w (d + 1) 0 0 mX12_ask [vr 145, vi (420 + 7 * x)] (B0, n) (fun r h' => ∃ n1 : NM, r = none ∧ h' = (B0, n1) ∧ (∀ t : Nat, t ≠ 156 → n1 t = n t) ∧ ∀ i, 0 ≤ i → i < 9 → n1 156 (i + 1) = wdS (n 147) (420 + 7 * x) i) := by
  have q := hr.2.2.2.2.2.1 x x0 x1
  have h40 := hn.2.2.2.2.2.1
  have e0 : (upn (upn (upn (upn (upn n 156 1 (n 147 (420 + 7 * x + 4))) 156 2 (n 147 (420 + 7 * x + 5))) 156 3 (n 147 (20 + (3 * (n 147 (420 + 7 * x)))))) 156 4 (n 147 ((20 + (3 * (n 147 (420 + 7 * x)))) + 1))) 156 5 (n 147 ((20 + (3 * (n 147 (420 + 7 * x)))) + 2))) 147 = n 147 := by
    rw [upn_ne (by decide), upn_ne (by decide), upn_ne (by decide), upn_ne (by decide), upn_ne (by decide)]
  have g := m_gone (w := w) (d := d) (n := upn (upn (upn (upn (upn n 156 1 (n 147 (420 + 7 * x + 4))) 156 2 (n 147 (420 + 7 * x + 5))) 156 3 (n 147 (20 + (3 * (n 147 (420 + 7 * x)))))) 156 4 (n 147 ((20 + (3 * (n 147 (420 + 7 * x)))) + 1))) 156 5 (n 147 ((20 + (3 * (n 147 (420 + 7 * x)))) + 2))) (i := x) (by rw [e0]; exact hr) (by rw [e0]; exact hn.1.1) (by rw [e0]; exact hn.1.2) x0 (by rw [e0]; exact x1) (by rw [e0]; exact h40.2)
  rw [e0] at g
  refine EV.ofP (by decide +kernel) (Nat.le_of_ble_eq_true rfl) rfl (fun _ G => gX12_ask_0 ⟨⟨by omega, by omega⟩, by omega, by omega, ⟨by omega, by omega⟩, by omega, by omega, by omega, by omega, ⟨by omega, by omega⟩, ⟨by omega, by omega⟩, by omega, by omega, by omega, by omega, ⟨by omega, by omega⟩, ⟨by omega, by omega⟩, ⟨by omega, by omega⟩, by omega, by omega, by omega, by omega, ⟨by omega, by omega⟩, ⟨by omega, by omega⟩, ⟨by omega, by omega⟩, by omega, by omega, EI.use g ⟨⟨by omega, by omega⟩, by omega, by omega, ⟨by omega, by omega⟩, by omega, by omega, ⟨by omega, by omega⟩, by omega, by omega, by omega, by omega, ?_⟩⟩)
  have e : (upn (upn (upn (upn (upn n 156 1 (n 147 (420 + 7 * x + 4))) 156 2 (n 147 (420 + 7 * x + 5))) 156 3 (n 147 (20 + (3 * (n 147 (420 + 7 * x)))))) 156 4 (n 147 ((20 + (3 * (n 147 (420 + 7 * x)))) + 1))) 156 5 (n 147 ((20 + (3 * (n 147 (420 + 7 * x)))) + 2))) 147 = n 147 := by
    rw [upn_ne (by decide), upn_ne (by decide), upn_ne (by decide), upn_ne (by decide), upn_ne (by decide)]
  rw [e]
  refine ⟨⟨by omega, by omega⟩, _, rfl, rfl, fun t ht => ?_, fun i i0 i1 => ?_⟩
  · rw [upn_ne ht, upn_ne ht, upn_ne ht, upn_ne ht, upn_ne ht, upn_ne ht, upn_ne ht, upn_ne ht, upn_ne ht]
  unfold wdS
  by_cases c0 : i = 0
  · rw [if_pos c0, c0, upn_i (by decide), upn_i (by decide), upn_i (by decide), upn_i (by decide), upn_i (by decide), upn_i (by decide), upn_i (by decide), upn_i (by decide)]
    exact upn_self _ _ _ _
  rw [if_neg c0]
  by_cases c1 : i = 1
  · rw [if_pos c1, c1, upn_i (by decide), upn_i (by decide), upn_i (by decide), upn_i (by decide), upn_i (by decide), upn_i (by decide), upn_i (by decide)]
    exact upn_self _ _ _ _
  rw [if_neg c1]
  by_cases c2 : i = 2
  · rw [if_pos c2, c2, upn_i (by decide), upn_i (by decide), upn_i (by decide), upn_i (by decide), upn_i (by decide), upn_i (by decide)]
    exact upn_self _ _ _ _
  rw [if_neg c2]
  by_cases c3 : i = 3
  · rw [if_pos c3, c3, upn_i (by decide), upn_i (by decide), upn_i (by decide), upn_i (by decide), upn_i (by decide)]
    exact upn_self _ _ _ _
  rw [if_neg c3]
  by_cases c4 : i = 4
  · rw [if_pos c4, c4, upn_i (by decide), upn_i (by decide), upn_i (by decide), upn_i (by decide)]
    exact upn_self _ _ _ _
  rw [if_neg c4]
  by_cases c5 : i = 5
  · rw [if_pos c5, c5, upn_i (by decide), upn_i (by decide), upn_i (by decide)]
    exact upn_self _ _ _ _
  rw [if_neg c5]
  by_cases c6 : i = 6
  · rw [if_pos c6, c6, upn_i (by decide), upn_i (by decide)]
    exact upn_self _ _ _ _
  rw [if_neg c6]
  by_cases c7 : i = 7
  · rw [if_pos c7, c7, upn_i (by decide)]
    exact upn_self _ _ _ _
  rw [if_neg c7, show i = 8 by omega]
  exact upn_self _ _ _ _
/-- the reference finds what the class's asker tells; n the state that both were related in, n2 the one now -/
theorem m_tell {x : Int} {h : Int} {n2 : NM} (hL : LakeRel n 1 (n 147)) (hr : RowOk (n 147)) (x0 : 0 ≤ x) (x1 : x < n 147 5) (e147 : n2 147 = n 147) (hW : ∀ i, 0 ≤ i → i < 9 → n2 156 (i + 1) = wdS (n 147) (420 + 7 * x) i) (h5 : h = 5 ∨ ¬ h = 5) : Ev w (d + 6) 0 0 mX12_find [vr 145, vi h, vi (if h = 5 then 100 else 0), vi (if h = 5 then 1 else 0), vi 1000] (B0, n2) (fun r h' => ∃ (x1 : Int) (n1 : NM), r = some (vi x1) ∧ h' = (B0, n1) ∧ x1 = lawG n x h ∧ FrN n1 n2) := by
  have hLaw : LawRel n 1 (n 147) := hL.2.2.2.2.2.2.2.1
  obtain ⟨hT, e901, N0, N12, hC, NR, hM, hcl⟩ := hLaw
  refine EI.ofP (by decide +kernel) (Nat.le_of_ble_eq_true rfl) rfl (fun _ G => gX12_find_0 ?_)
  have q := m_findL (w := w) (d := d) (G := G) (K := cutF (n 17) 400) (V := cutF (n 18) 400) (C := cutF (n 20) 48) (R := rowL (n 147)) (W := wdS (n 147) (420 + 7 * x)) (NS := n 16 2) (NR := NR) (N := n 19 3) (h := h) (wd := if h = 5 then 100 else 0) (T := lawT (cutF (n 17) 400) (cutF (n 18) 400) (cutF (n 20) 48) (rowL (n 147)) (wdS (n 147) (420 + 7 * x))) (n0 := n2) hM N12 e901.symm hcl (fun c c0 c1 => lawT_ev (hcl c c0 c1)) N0 (n 19 3).toNat 0 n2 (by have : 0 ≤ n 19 3 := N0; omega) ⟨fun i i0 i1 => ?_, fun i i0 i1 => ⟨hW i i0 i1, ?_⟩⟩ FrN.rf
  · exact q
  · rw [e147]
    exact (if_pos ⟨i0, i1⟩).symm
  · have := wdS_le hr x0 x1 i
    exact ⟨this.1, by omega⟩
end ASK2
