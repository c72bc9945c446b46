section VMM
variable {w : WD} {d : Nat} {n : NM}
/-- what the reference's machine leaves as it was -/
def FrM (n2 n : NM) : Prop := (∀ t : Nat, t ≠ 145 → t ≠ 157 → n2 t = n t) ∧ ∀ j : Int, j ≠ 27 → j ≠ 28 → n2 145 j = n 145 j
theorem FrM.rf : FrM n n := ⟨fun _ _ _ => rfl, fun _ _ _ => rfl⟩
theorem FrM.tr {n2 n3 : NM} (h : FrM n2 n) (h2 : FrM n3 n2) : FrM n3 n := ⟨fun t a b => (h2.1 t a b).trans (h.1 t a b), fun j a b => (h2.2 j a b).trans (h.2 j a b)⟩
theorem FrM.a {v : Int} : FrM (upn n 145 27 v) n := ⟨fun t a _ => upn_ne a, fun j a _ => upn_i a⟩
theorem FrM.b {v : Int} : FrM (upn n 145 28 v) n := ⟨fun t a _ => upn_ne a, fun j _ b => upn_i b⟩
theorem FrM.s {i v : Int} : FrM (upn n 157 i v) n := ⟨fun t _ b => upn_ne b, fun j _ _ => upn_a (by decide)⟩
abbrev inY (x : Int) : Prop := -1000000000 ≤ x ∧ x ≤ 1000000001
theorem mulY {x y : Int} (hx : inY x) (hy : inY y) : -1000000002000000001 ≤ x * y ∧ x * y ≤ 1000000002000000001 := by
  have h1 : (x * y).natAbs ≤ 1000000001 * 1000000001 := by
    rw [Int.natAbs_mul]
    exact Nat.mul_le_mul (by omega) (by omega)
  omega
def rawZ (k x y : Int) : Int := if k = 2 then x + y else if k = 3 then x - y else if k = 4 then x * y else if k = 5 then x.tdiv y else if k = 6 then (if x < y then 1 else 0) else if k = 7 then (if y < x then 1 else 0) else (if x = y then 1 else 0)
theorem keep01 {p : Prop} [Decidable p] : keepZ (if p then 1 else 0) = some (if p then 1 else 0) := by
  by_cases c : p
  · rw [if_pos c]
    rfl
  · rw [if_neg c]
    rfl
theorem binZ_raw {k x y : Int} : binZ k x y = if k = 5 ∧ y = 0 then none else keepZ (rawZ k x y) := by
  unfold binZ rawZ
  by_cases c2 : k = 2
  · rw [if_pos c2, if_neg (by omega), if_pos c2]
  rw [if_neg c2, if_neg c2]
  by_cases c3 : k = 3
  · rw [if_pos c3, if_neg (by omega), if_pos c3]
  rw [if_neg c3, if_neg c3]
  by_cases c4 : k = 4
  · rw [if_pos c4, if_neg (by omega), if_pos c4]
  rw [if_neg c4, if_neg c4]
  by_cases c5 : k = 5
  · rw [if_pos c5, if_pos c5]
    by_cases cy : y = 0
    · rw [if_pos cy, if_pos ⟨c5, cy⟩]
    · rw [if_neg cy, if_neg (fun z => cy z.2)]
  rw [if_neg c5, if_neg c5, if_neg (show ¬ (k = 5 ∧ y = 0) from fun z => c5 z.1)]
  by_cases c6 : k = 6
  · rw [if_pos c6, if_pos c6, keep01]
  rw [if_neg c6, if_neg c6]
  by_cases c7 : k = 7
  · rw [if_pos c7, if_pos c7, keep01]
  · rw [if_neg c7, if_neg c7, keep01]
theorem tdivY {x y : Int} (hx : inY x) : -1000000001 ≤ x.tdiv y ∧ x.tdiv y ≤ 1000000001 := by
  have h2 : (x.tdiv y).natAbs ≤ x.natAbs := by
    rw [Int.natAbs_tdiv]
    exact Nat.div_le_self _ _
  omega
theorem rawJ {k x y : Int} (hx : inY x) (hy : inY y) : inJ (rawZ k x y) := by
  have hm := mulY hx hy
  have ht := tdivY (y := y) hx
  unfold rawZ
  split
  · exact ⟨by omega, by omega⟩
  split
  · exact ⟨by omega, by omega⟩
  split
  · exact ⟨by omega, by omega⟩
  split
  · exact ⟨by omega, by omega⟩
  split
  · split <;> exact ⟨by decide, by decide⟩
  split
  · split <;> exact ⟨by decide, by decide⟩
  · split <;> exact ⟨by decide, by decide⟩
theorem m_reckon {k x y : Int} (hx : inY x) (hy : inY y) (k2 : 20 ≤ k) (k8 : k ≤ 26) (hb : n 145 27 = 0) : Ev w d 0 0 mX12_reckon [vr 145, vi k, vl x, vl y] (B0, n) (fun r h' => ∃ (x1 : Int) (n1 : NM), r = some (vl x1) ∧ h' = (B0, n1) ∧ FrM n1 n ∧ n1 157 = n 157 ∧ ((k = 23 ∧ y = 0 ∧ n1 145 27 = 1) ∨ (¬ (k = 23 ∧ y = 0) ∧ n1 145 27 = 0 ∧ x1 = rawZ (k - 18) x y))) := by
  have hm := mulY hx hy
  refine EL.ofP (by decide +kernel) (Nat.le_of_ble_eq_true rfl) rfl (fun _ G => gX12_reckonT ⟨fun e => ⟨⟨by omega, by omega⟩, _, _, rfl, rfl, FrM.rf, rfl, Or.inr ⟨by omega, hb, ?_⟩⟩, fun e => ⟨⟨by omega, by omega⟩, _, _, rfl, rfl, FrM.rf, rfl, Or.inr ⟨by omega, hb, ?_⟩⟩, fun e => ⟨⟨by omega, by omega⟩, _, _, rfl, rfl, FrM.rf, rfl, Or.inr ⟨by omega, hb, ?_⟩⟩, fun e z ez => ⟨?_, fun c => ⟨?_, by omega, _, _, rfl, rfl, FrM.a, upn_ne (by decide), Or.inr ⟨?_, ?_, ?_⟩⟩, fun c => ⟨_, _, rfl, rfl, FrM.a, upn_ne (by decide), Or.inl ⟨e, ?_, ?_⟩⟩⟩, fun e => ⟨fun c => ⟨_, _, rfl, rfl, FrM.rf, rfl, Or.inr ⟨by omega, hb, ?_⟩⟩, fun c => ⟨_, _, rfl, rfl, FrM.rf, rfl, Or.inr ⟨by omega, hb, ?_⟩⟩⟩, fun e => ⟨fun c => ⟨_, _, rfl, rfl, FrM.rf, rfl, Or.inr ⟨by omega, hb, ?_⟩⟩, fun c => ⟨_, _, rfl, rfl, FrM.rf, rfl, Or.inr ⟨by omega, hb, ?_⟩⟩⟩, fun e0 e1 e2 e3 e4 e5 => ⟨fun c => ⟨_, _, rfl, rfl, FrM.rf, rfl, Or.inr ⟨by omega, hb, ?_⟩⟩, fun c => ⟨_, _, rfl, rfl, FrM.rf, rfl, Or.inr ⟨by omega, hb, ?_⟩⟩⟩⟩)
  · unfold rawZ
    rw [if_pos (by omega)]
  · unfold rawZ
    rw [if_neg (by omega), if_pos (by omega)]
  · unfold rawZ
    rw [if_neg (by omega), if_neg (by omega), if_pos (by omega)]
  · rw [ez]
    split
    · exact Or.inl rfl
    · exact Or.inr rfl
  · intro y0
    rw [if_neg (not_not_intro y0)] at ez
    omega
  · intro y0
    rw [if_neg (not_not_intro y0.2)] at ez
    omega
  · rw [upn_self, c]
  · unfold rawZ
    rw [if_neg (by omega), if_neg (by omega), if_neg (by omega), if_pos (by omega)]
  · by_cases y0 : y = 0
    · exact y0
    · rw [if_pos y0] at ez
      exact absurd ez c
  · rw [upn_self, ez]
    by_cases y0 : y = 0
    · rw [if_neg (not_not_intro y0)]
    · rw [if_pos y0] at ez
      exact absurd ez c
  · unfold rawZ
    rw [if_neg (by omega), if_neg (by omega), if_neg (by omega), if_neg (by omega), if_pos (by omega), if_neg (by omega)]
  · unfold rawZ
    rw [if_neg (by omega), if_neg (by omega), if_neg (by omega), if_neg (by omega), if_pos (by omega), if_pos (by omega)]
  · unfold rawZ
    rw [if_neg (by omega), if_neg (by omega), if_neg (by omega), if_neg (by omega), if_neg (by omega), if_pos (by omega), if_neg (by omega)]
  · unfold rawZ
    rw [if_neg (by omega), if_neg (by omega), if_neg (by omega), if_neg (by omega), if_neg (by omega), if_pos (by omega), if_pos (by omega)]
  · unfold rawZ
    rw [if_neg (by omega), if_neg (by omega), if_neg (by omega), if_neg (by omega), if_neg (by omega), if_neg (by omega), if_neg (by omega)]
  · unfold rawZ
    rw [if_neg (by omega), if_neg (by omega), if_neg (by omega), if_neg (by omega), if_neg (by omega), if_neg (by omega), if_pos (by omega)]
/-- what reckonAll leaves -/
def RkP (n : NM) (o : Option (Int × List Int)) (n1 : NM) : Prop := FrM n1 n ∧ match o with
  | some ps => n1 145 27 = 0 ∧ ∀ y, ps.2 = [y] → n1 145 28 = y
  | none => n1 145 27 ≠ 0
theorem RkP.brk {n1 : NM} {z : Int} (f : FrM n1 n) (e : n1 145 27 = 1) : RkP n none (upn n1 145 28 z) := by
  refine ⟨f.tr FrM.b, ?_⟩
  show upn n1 145 28 z 145 27 ≠ 0
  rw [upn_i (by decide), e]
  decide
/-- the steps that lie in the row -/
def InM (n : NM) (R W : Int → Int) : Prop := (∀ i, 901 ≤ i → i < 1800 → n 147 i = R i) ∧ ∀ i, 0 ≤ i → i < 9 → n 156 (i + 1) = W i ∧ inY (W i)
theorem InM.fr {n2 : NM} {R W : Int → Int} (h : InM n R W) (f : FrM n2 n) : InM n2 R W := by
  refine ⟨fun p a b => ?_, fun i a b => ?_⟩
  · rw [f.1 147 (by decide) (by decide)]
    exact h.1 p a b
  · rw [f.1 156 (by decide) (by decide)]
    exact h.2 i a b
theorem m_reckonL {G : GM} {R W : Int → Int} {NS q : Int} {n0 : NM} {o : Option (Int × List Int)} (hC : CodeM R NS) (hq : q ≤ NS) : ∀ (f : Nat) (n : NM) (p : Int) (S : List Int), InM n R W → StkC n 157 S → (∀ x ∈ S, inY x) → n 145 27 = 0 → (S.length : Int) ≤ p → p ≤ NS → FrM n n0 → vmz (mstep R W) f p q S = some o →
    Rn w mX12_reckonAll (d + 4) G (fun r h' => ∃ n1 : NM, r = none ∧ h' = (B0, n1) ∧ RkP n0 o n1) 10 [(0, vr 145), (2, vi q), (3, vi (S.length : Int)), (4, vi p)] [] (B0, n) := by
  have fin : ∀ (n : NM) (p : Int) (S : List Int), StkC n 157 S → n 145 27 = 0 → q ≤ p → FrM n n0 → o = some (p, S) → Rn w mX12_reckonAll (d + 4) G (fun r h' => ∃ n1 : NM, r = none ∧ h' = (B0, n1) ∧ RkP n0 o n1) 10 [(0, vr 145), (2, vi q), (3, vi (S.length : Int)), (4, vi p)] [] (B0, n) := by
    intro n p S hS hb hp hf ho
    subst ho
    refine gX12_reckonAll_10 ⟨fun _ => gX12_reckonAll_237 (fun z ez => ⟨_, rfl, rfl, hf.tr FrM.b, by rw [upn_i (by decide)]; exact hb, fun y hy => ?_⟩), fun z => absurd z (by omega)⟩
    have hy2 : S = [y] := hy
    subst hy2
    rw [upn_self, ez, if_neg (by rw [List.length_singleton]; decide)]
    exact hS.1
  intro f
  induction f with
  | zero =>
    intro n p S hI hS hz hb hl p1 hf hv
    have e : vmz (mstep R W) 0 p q S = if p = q then some (some (p, S)) else none := rfl
    rw [e] at hv
    by_cases c : p = q
    · rw [if_pos c] at hv
      exact fin n p S hS hb (by omega) hf (Option.some.inj hv).symm
    · rw [if_neg c] at hv
      cases hv
  | succ f ih =>
    intro n p S hI hS hz hb hl p1 hf hv
    have e : vmz (mstep R W) (f + 1) p q S = if q ≤ p then some (some (p, S)) else match mstep R W p S with
      | none => none
      | some none => some none
      | some (some (p', S')) => vmz (mstep R W) f p' q S' := rfl
    rw [e] at hv
    by_cases c : q ≤ p
    · rw [if_pos c] at hv
      exact fin n p S hS hb c hf (Option.some.inj hv).symm
    · rw [if_neg c] at hv
      have hN4 := hC.2.1
      have hp := hC.2.2 p (by omega) (by omega)
      have r1 := hI.1 (998 + 2 * p) (by omega) (by omega)
      have r2 := hI.1 (998 + 2 * p + 1) (by omega) (by omega)
      refine gX12_reckonAll_10 ⟨fun z => absurd z c, fun _ => ⟨fun z => absurd hb z, fun _ => ?_⟩⟩
      rw [r1, r2]
      refine ⟨⟨by omega, by omega⟩, ⟨by omega, by omega⟩, by omega, by omega, ⟨by omega, by omega⟩, ⟨by omega, by omega⟩, ⟨by omega, by omega⟩, by omega, by omega, ⟨by omega, by omega⟩, fun c20 => ⟨fun c27 => ⟨fun k27 => ?_, fun k27 => ?_⟩, fun c27 => ?_⟩, fun c20 => ⟨fun _ => by omega, fun _ => by omega, fun z ez => ⟨by omega, by omega, ⟨by omega, by omega⟩, ?_⟩⟩⟩
      · have hV := hp.2.2 (by omega)
        match S, hS, hz, hl, hv with
        | [], hS, hz, hl, hv =>
          have hs : mstep R W p [] = none := by
            unfold mstep
            rw [if_neg (by omega), if_neg (by omega), if_neg (by omega), if_neg (by omega)]
            split <;> rfl
          rw [hs] at hv
          cases hv
        | x :: S', hS, hz, hl, hv =>
          rw [List.length_cons] at hl ⊢
          have hx : n 157 (((S'.length + 1 : Nat) : Int) - 1) = x := by
            rw [show ((S'.length + 1 : Nat) : Int) - 1 = (S'.length : Int) by omega]
            exact hS.1
          have hs : mstep R W p (x :: S') = if x = (if R (998 + 2 * p) = 28 then 0 else 1) then some (some (R (998 + 2 * p + 1), x :: S')) else some (some (p + 1, S')) := by
            unfold mstep
            rw [if_neg (by omega), if_neg (by omega), if_neg (by omega), if_neg (by omega)]
            by_cases k28 : R (998 + 2 * p) = 28
            · rw [if_pos k28, if_pos k28]
            · rw [if_neg k28, if_neg k28]
          rw [hs] at hv
          rw [hx]
          refine ⟨⟨by omega, by omega⟩, by omega, by omega, fun z ez => ?_⟩
          have ez2 : z = (if R (998 + 2 * p) = 28 then 0 else 1) := by
            rw [ez]
            by_cases k28 : R (998 + 2 * p) = 28
            · rw [if_neg (not_not_intro k28), if_pos k28]
            · rw [if_pos k28, if_neg k28]
          rw [← ez2] at hv
          refine ⟨fun _ => ⟨by omega, by omega⟩, fun z1 z2 e1 e2 => ?_⟩
          by_cases k : x = z
          · rw [if_pos k] at hv
            rw [if_neg (not_not_intro k)] at e1 e2
            rw [e1, e2]
            exact ih n _ (x :: S') hI hS hz hb (by rw [List.length_cons]; omega) hV.2 hf hv
          · rw [if_neg k] at hv
            rw [if_pos k] at e1 e2
            rw [e1, e2, show ((S'.length + 1 : Nat) : Int) + -1 = (S'.length : Int) by omega]
            exact ih n _ S' hI hS.2 (fun y hy => hz y (List.mem_cons_of_mem _ hy)) hb (by omega) (by omega) hf hv
      · match S, hS, hz, hl, hv with
        | [], hS, hz, hl, hv =>
          have hs : mstep R W p [] = none := by
            unfold mstep
            rw [if_neg (by omega), if_neg (by omega), if_neg (by omega), if_pos k27]
          rw [hs] at hv
          cases hv
        | x :: S', hS, hz, hl, hv =>
          rw [List.length_cons] at hl ⊢
          have hx : n 157 (((S'.length + 1 : Nat) : Int) - 1) = x := by
            rw [show ((S'.length + 1 : Nat) : Int) - 1 = (S'.length : Int) by omega]
            exact hS.1
          have hs : mstep R W p (x :: S') = some (some (p + 1, (1 - x) :: S')) := by
            unfold mstep
            rw [if_neg (by omega), if_neg (by omega), if_neg (by omega), if_pos k27]
          rw [hs] at hv
          rw [hx]
          have zx := hz x List.mem_cons_self
          refine ⟨⟨by omega, by omega⟩, ⟨by omega, by omega⟩, by omega, by omega, ⟨by omega, by omega⟩, by omega, by omega, ?_⟩
          rw [show ((S'.length + 1 : Nat) : Int) - 1 = (S'.length : Int) by omega]
          have q := ih (upn n 157 (S'.length : Int) (1 - x)) (p + 1) ((1 - x) :: S') (hI.fr FrM.s) ⟨upn_self _ _ _ _, hS.2.put (Int.le_refl _)⟩ (fun v hv => by
            rcases List.mem_cons.mp hv with rfl | hv
            · exact ⟨by omega, by omega⟩
            · exact hz v (List.mem_cons_of_mem _ hv)) (by rw [upn_a (by decide)]; exact hb) (by rw [List.length_cons]; omega) (by omega) (hf.tr FrM.s) hv
          rw [List.length_cons] at q
          exact q
      · match S, hS, hz, hl, hv with
        | [], hS, hz, hl, hv =>
          have hs : mstep R W p [] = none := by
            unfold mstep
            rw [if_neg (by omega), if_neg (by omega), if_pos c27]
          rw [hs] at hv
          cases hv
        | [x], hS, hz, hl, hv =>
          have hs : mstep R W p [x] = none := by
            unfold mstep
            rw [if_neg (by omega), if_neg (by omega), if_pos c27]
          rw [hs] at hv
          cases hv
        | y :: x :: S', hS, hz, hl, hv =>
          rw [List.length_cons, List.length_cons] at hl ⊢
          have l1 : ((S'.length + 1 + 1 : Nat) : Int) + -1 = (S'.length : Int) + 1 := by omega
          have hs : mstep R W p (y :: x :: S') = some ((binZ (R (998 + 2 * p) - 18) x y).map (fun z => (p + 1, z :: S'))) := by
            unfold mstep
            rw [if_neg (by omega), if_neg (by omega), if_pos c27]
          rw [hs, binZ_raw] at hv
          have hy : n 157 ((S'.length : Int) + 1) = y := hS.1
          have hx : n 157 (S'.length : Int) = x := hS.2.1
          rw [l1, show (S'.length : Int) + 1 - 1 = (S'.length : Int) by omega, hx, hy]
          have zy := hz y List.mem_cons_self
          have zx := hz x (List.mem_cons_of_mem _ List.mem_cons_self)
          have zS : ∀ u ∈ S', inY u := fun u hu => hz u (List.mem_cons_of_mem _ (List.mem_cons_of_mem _ hu))
          refine ⟨⟨by omega, by omega⟩, ⟨by omega, by omega⟩, ⟨by omega, by omega⟩, by omega, by omega, by omega, by omega, EL.usP (m_reckon zx zy c20 (by omega) hb) (fun z n1 u => ⟨by omega, by omega, fun b1 => ?_, fun b0 => ⟨⟨by omega, by omega⟩, by omega, by omega, ?_⟩⟩)⟩
          · have hk : R (998 + 2 * p) = 23 ∧ y = 0 := by
              rcases u.2.2 with u | u
              · exact ⟨u.1, u.2.1⟩
              · exact absurd u.2.1 b1
            rw [if_pos (by omega)] at hv
            have ho : o = none := (Option.some.inj hv).symm
            subst ho
            have fr2 : FrM (upn (upn n1 157 (S'.length : Int) z) 145 27 1) n0 := hf.tr (u.1.tr (FrM.s.tr FrM.a))
            refine gX12_reckonAll_10 ⟨fun _ => gX12_reckonAll_237 (fun z ez => ⟨_, rfl, rfl, RkP.brk fr2 (upn_self _ _ _ _)⟩), fun _ => ⟨fun _ => gX12_reckonAll_237 (fun z ez => ⟨_, rfl, rfl, RkP.brk fr2 (upn_self _ _ _ _)⟩), fun q => ?_⟩⟩
            · rw [upn_self] at q
              exact absurd q (by decide)
          · have hk : ¬ (R (998 + 2 * p) = 23 ∧ y = 0) ∧ z = rawZ (R (998 + 2 * p) - 18) x y := by
              rcases u.2.2 with u | u
              · rw [u.2.2] at b0
                cases b0
              · exact ⟨u.1, u.2.2⟩
            rw [if_neg (by omega), ← hk.2] at hv
            rw [upn_self]
            refine EI.use (m_in _ _ _) (fun zz ez => ?_)
            have fr2 : FrM (upn (upn n1 157 (S'.length : Int) z) 145 27 zz) n0 := hf.tr (u.1.tr (FrM.s.tr FrM.a))
            unfold keepZ at hv
            by_cases k : -1000000000 ≤ z ∧ z ≤ 1000000000
            · rw [if_pos k] at hv
              rw [if_pos k, if_pos (by decide)] at ez
              refine ⟨Or.inl ez, ?_⟩
              have st : StkC (upn (upn n1 157 (S'.length : Int) z) 145 27 zz) 157 (z :: S') := StkC.congr (upn_ne (by decide)) ⟨upn_self _ _ _ _, StkC.put (Int.le_refl _) (StkC.congr u.2.1 hS.2.2)⟩
              have q := ih (upn (upn n1 157 (S'.length : Int) z) 145 27 zz) (p + 1) (z :: S') (hI.fr (u.1.tr (FrM.s.tr FrM.a))) st (fun v hv => by
                rcases List.mem_cons.mp hv with rfl | hv
                · exact ⟨k.1, by omega⟩
                · exact zS v hv) (by rw [upn_self]; exact ez) (by rw [List.length_cons]; omega) (by omega) fr2 hv
              rw [List.length_cons] at q
              exact q
            · rw [if_neg k] at hv
              rw [if_neg k, if_neg (by decide)] at ez
              refine ⟨Or.inr ez, ?_⟩
              have ho : o = none := (Option.some.inj hv).symm
              subst ho
              refine gX12_reckonAll_10 ⟨fun _ => gX12_reckonAll_237 (fun z ez2 => ⟨_, rfl, rfl, RkP.brk fr2 (by rw [upn_self]; exact ez)⟩), fun _ => ⟨fun _ => gX12_reckonAll_237 (fun z ez2 => ⟨_, rfl, rfl, RkP.brk fr2 (by rw [upn_self]; exact ez)⟩), fun q => ?_⟩⟩
              · rw [upn_self, ez] at q
                exact absurd q (by decide)
      · have hs : mstep R W p S = some (some (p + 1, z :: S)) ∧ inY z := by
          unfold mstep
          by_cases k0 : R (998 + 2 * p) = 0
          · rw [if_neg (not_not_intro k0)] at ez
            rw [if_pos k0, ez]
            have := hp.2.1 k0
            exact ⟨rfl, by omega, by omega⟩
          · rw [if_pos k0] at ez
            rw [if_neg k0, if_pos c20]
            have hw := hI.2 (R (998 + 2 * p) - 1) (by omega) (by omega)
            rw [show R (998 + 2 * p) - 1 + 1 = R (998 + 2 * p) by omega, ← ez] at hw
            rw [← hw.1]
            exact ⟨rfl, by rw [hw.1]; exact hw.2⟩
        rw [hs.1] at hv
        have q := ih (upn n 157 (S.length : Int) z) (p + 1) (z :: S) (hI.fr FrM.s) ⟨upn_self _ _ _ _, hS.put (Int.le_refl _)⟩ (fun v hv => by
          rcases List.mem_cons.mp hv with rfl | hv
          · exact hs.2
          · exact hz v hv) (by rw [upn_a (by decide)]; exact hb) (by rw [List.length_cons]; omega) (by omega) (hf.tr FrM.s) hv
        rw [List.length_cons] at q
        exact q
end VMM
