section DENS
abbrev STP : Type := (Int → Int) → Int → List Int → Option (Option (Int × List Int))
theorem vmz_s {stp : Int → List Int → Option (Option (Int × List Int))} {f : Nat} {p q : Int} {S : List Int} (h : p < q) : vmz stp (f + 1) p q S = match stp p S with
    | none => none
    | some none => some none
    | some (some (p', S')) => vmz stp f p' q S' := by
  have e : vmz stp (f + 1) p q S = if q ≤ p then some (some (p, S)) else match stp p S with
    | none => none
    | some none => some none
    | some (some (p', S')) => vmz stp f p' q S' := rfl
  rw [e, if_neg (by omega)]
/-- a run to q1 is the beginning of one to q -/
theorem vmz_go {stp : Int → List Int → Option (Option (Int × List Int))} {q1 q : Int} (hq : q1 ≤ q) : ∀ (f : Nat) (p : Int) (S S1 : List Int), vmz stp f p q1 S = some (some (q1, S1)) → ∃ f2 : Nat, ∀ g : Nat, vmz stp (f2 + g) p q S = vmz stp g q1 q S1
  | 0, p, S, S1, h => by
    have e : vmz stp 0 p q1 S = if p = q1 then some (some (p, S)) else none := rfl
    rw [e] at h
    by_cases c : p = q1
    · rw [if_pos c] at h
      have h2 := Option.some.inj (Option.some.inj h)
      have h3 : S = S1 := congrArg Prod.snd h2
      rw [c, h3]
      exact ⟨0, fun g => by rw [Nat.zero_add]⟩
    · rw [if_neg c] at h
      cases h
  | f + 1, p, S, S1, h => by
    by_cases c : q1 ≤ p
    · have e : vmz stp (f + 1) p q1 S = if q1 ≤ p then some (some (p, S)) else match stp p S with
        | none => none
        | some none => some none
        | some (some (p', S')) => vmz stp f p' q1 S' := rfl
      rw [e, if_pos c] at h
      have h2 := Option.some.inj (Option.some.inj h)
      have h3 : S = S1 := congrArg Prod.snd h2
      have h4 : p = q1 := congrArg Prod.fst h2
      rw [h4, h3]
      exact ⟨0, fun g => by rw [Nat.zero_add]⟩
    · rw [vmz_s (by omega)] at h
      cases hs : stp p S with
      | none =>
        rw [hs] at h
        cases h
      | some o =>
        rw [hs] at h
        cases o with
        | none => cases h
        | some ps =>
          obtain ⟨p', S'⟩ := ps
          obtain ⟨f2, hf⟩ := vmz_go hq f p' S' S1 h
          refine ⟨f2 + 1, fun g => ?_⟩
          rw [show f2 + 1 + g = (f2 + g) + 1 by omega, vmz_s (by omega), hs]
          exact hf g
theorem vmz_brk {stp : Int → List Int → Option (Option (Int × List Int))} {q1 q : Int} (hq : q1 ≤ q) : ∀ (f : Nat) (p : Int) (S : List Int), vmz stp f p q1 S = some none → vmz stp f p q S = some none
  | 0, p, S, h => by
    have e : vmz stp 0 p q1 S = if p = q1 then some (some (p, S)) else none := rfl
    rw [e] at h
    by_cases c : p = q1
    · rw [if_pos c] at h
      cases h
    · rw [if_neg c] at h
      cases h
  | f + 1, p, S, h => by
    by_cases c : q1 ≤ p
    · have e : vmz stp (f + 1) p q1 S = if q1 ≤ p then some (some (p, S)) else match stp p S with
        | none => none
        | some none => some none
        | some (some (p', S')) => vmz stp f p' q1 S' := rfl
      rw [e, if_pos c] at h
      cases h
    · rw [vmz_s (by omega)] at h
      rw [vmz_s (by omega)]
      cases hs : stp p S with
      | none =>
        rw [hs] at h
        cases h
      | some o =>
        rw [hs] at h
        cases o with
        | none => rfl
        | some ps =>
          obtain ⟨p', S'⟩ := ps
          exact vmz_brk hq f p' S' h
/-- from p with S on, up to q, o comes -/
def GoesV (stp : Int → List Int → Option (Option (Int × List Int))) (p q : Int) (S : List Int) (o : Option (List Int)) : Prop := ∃ f : Nat, vmz stp f p q S = some (o.map (fun S1 => (q, S1)))
theorem GoesV.rf {stp : Int → List Int → Option (Option (Int × List Int))} {p : Int} {S : List Int} : GoesV stp p p S (some S) := ⟨0, by
  show (if p = p then some (some (p, S)) else none) = _
  rw [if_pos rfl]
  rfl⟩
theorem GoesV.seq {stp : Int → List Int → Option (Option (Int × List Int))} {p q r : Int} {S S1 : List Int} {o : Option (List Int)} (hqr : q ≤ r) (h1 : GoesV stp p q S (some S1)) (h2 : GoesV stp q r S1 o) : GoesV stp p r S o := by
  obtain ⟨f, hf⟩ := h1
  obtain ⟨f2, h3⟩ := vmz_go hqr f p S S1 hf
  obtain ⟨g, hg⟩ := h2
  exact ⟨f2 + g, (h3 g).trans hg⟩
theorem GoesV.brk {stp : Int → List Int → Option (Option (Int × List Int))} {p q r : Int} {S : List Int} (hqr : q ≤ r) (h1 : GoesV stp p q S none) : GoesV stp p r S none := by
  obtain ⟨f, hf⟩ := h1
  exact ⟨f, vmz_brk hqr f p S hf⟩
theorem GoesV.step {stp : Int → List Int → Option (Option (Int × List Int))} {p q r : Int} {S S1 : List Int} {o : Option (List Int)} (hp : p < r) (hs : stp p S = some (some (q, S1))) (h2 : GoesV stp q r S1 o) : GoesV stp p r S o := by
  obtain ⟨g, hg⟩ := h2
  refine ⟨g + 1, ?_⟩
  rw [vmz_s hp, hs]
  exact hg
theorem GoesV.stepB {stp : Int → List Int → Option (Option (Int × List Int))} {p r : Int} {S : List Int} (hp : p < r) (hs : stp p S = some none) : GoesV stp p r S none := ⟨1, by rw [vmz_s hp, hs]; rfl⟩
theorem den_iff {stp : STP} {p q : Int} {F : DEN} : Den stp p q F ↔ p ≤ q ∧ ∀ (W : Int → Int) (S : List Int), GoesV (stp W) p q S ((F W).map (fun x => x :: S)) := by
  refine ⟨fun h => ⟨h.1, fun W S => ?_⟩, fun h => ⟨h.1, fun W S => ?_⟩⟩
  · obtain ⟨f, hf⟩ := h.2 W S
    refine ⟨f, hf.trans ?_⟩
    cases F W <;> rfl
  · obtain ⟨f, hf⟩ := h.2 W S
    refine ⟨f, hf.trans ?_⟩
    cases F W <;> rfl
theorem Den.leaf {stp : STP} {p : Int} {f : (Int → Int) → Int} (h : ∀ W S, stp W p S = some (some (p + 1, f W :: S))) : Den stp p (p + 1) (fun W => some (f W)) :=
  den_iff.mpr ⟨by omega, fun W S => GoesV.step (by omega) (h W S) GoesV.rf⟩
def opF (k : Int) (F G : DEN) : DEN := fun W => match F W with
  | none => none
  | some x => match G W with
    | none => none
    | some y => binZ k x y
theorem Den.bin {stp : STP} {p q r k : Int} {F G : DEN} (hF : Den stp p q F) (hG : Den stp q r G) (h : ∀ W S x y, stp W r (y :: x :: S) = some ((binZ k x y).map (fun z => (r + 1, z :: S)))) : Den stp p (r + 1) (opF k F G) := by
  have hF := den_iff.mp hF
  have hG := den_iff.mp hG
  refine den_iff.mpr ⟨by omega, fun W S => ?_⟩
  have h1 := hF.2 W S
  unfold opF
  cases hf : F W with
  | none =>
    rw [hf] at h1
    exact h1.brk (by omega)
  | some x =>
    rw [hf] at h1
    have h2 := hG.2 W (x :: S)
    cases hg : G W with
    | none =>
      rw [hg] at h2
      exact GoesV.seq (by omega) h1 (h2.brk (by omega))
    | some y =>
      rw [hg] at h2
      refine GoesV.seq (by omega) h1 (GoesV.seq (by omega) h2 ?_)
      have hs := h W S x y
      dsimp only
      cases hb : binZ k x y with
      | none =>
        rw [hb] at hs
        exact GoesV.stepB (by omega) hs
      | some z =>
        rw [hb] at hs
        exact GoesV.step (by omega) hs GoesV.rf
theorem Den.un {stp : STP} {p q : Int} {F : DEN} {g : Int → Int} (hF : Den stp p q F) (h : ∀ W S x, F W = some x → stp W q (x :: S) = some (some (q + 1, g x :: S))) : Den stp p (q + 1) (fun W => (F W).map g) := by
  have hF := den_iff.mp hF
  refine den_iff.mpr ⟨by omega, fun W S => ?_⟩
  have h1 := hF.2 W S
  cases hf : F W with
  | none =>
    rw [hf] at h1
    exact h1.brk (by omega)
  | some x =>
    rw [hf] at h1
    exact GoesV.seq (by omega) h1 (GoesV.step (by omega) (h W S x hf) GoesV.rf)
def skF2 (c : Int) (F G : DEN) : DEN := fun W => match F W with
  | none => none
  | some x => if x = c then some x else G W
theorem Den.skip {stp : STP} {p q r c : Int} {F G : DEN} (hF : Den stp p q F) (hG : Den stp (q + 1) r G) (h : ∀ W S x, F W = some x → stp W q (x :: S) = if x = c then some (some (r, x :: S)) else some (some (q + 1, S))) : Den stp p r (skF2 c F G) := by
  have hF := den_iff.mp hF
  have hG := den_iff.mp hG
  refine den_iff.mpr ⟨by omega, fun W S => ?_⟩
  have h1 := hF.2 W S
  unfold skF2
  cases hf : F W with
  | none =>
    rw [hf] at h1
    exact h1.brk (by omega)
  | some x =>
    rw [hf] at h1
    have hs := h W S x hf
    dsimp only
    by_cases c1 : x = c
    · rw [if_pos c1] at hs ⊢
      exact GoesV.seq (by omega) h1 (GoesV.step (by omega) hs GoesV.rf)
    · rw [if_neg c1] at hs ⊢
      exact GoesV.seq (by omega) h1 (GoesV.step (by omega) hs (hG.2 W S))
theorem Den.congr {stp : STP} {p q : Int} {F G : DEN} (h : ∀ W, F W = G W) (hF : Den stp p q F) : Den stp p q G := by
  have : F = G := funext h
  rw [← this]
  exact hF
theorem isTest_op {k : Int} {F G : DEN} (hk : 6 ≤ k) : isTest (opF k F G) := fun W => by
  unfold opF
  cases F W with
  | none => exact Or.inl rfl
  | some x =>
    cases G W with
    | none => exact Or.inl rfl
    | some y =>
      refine Or.inr ?_
      dsimp only
      unfold binZ
      rw [if_neg (by omega), if_neg (by omega), if_neg (by omega), if_neg (by omega)]
      split
      · split
        · exact Or.inr rfl
        · exact Or.inl rfl
      · split
        · split
          · exact Or.inr rfl
          · exact Or.inl rfl
        · split
          · exact Or.inr rfl
          · exact Or.inl rfl
theorem isTest_sk {c : Int} {F G : DEN} (hF : isTest F) (hG : isTest G) : isTest (skF2 c F G) := fun W => by
  unfold skF2
  have h1 := hF W
  have h2 := hG W
  cases hf : F W with
  | none => exact Or.inl rfl
  | some x =>
    rw [hf] at h1
    dsimp only
    split
    · exact h1
    · exact h2
def ntF (F : DEN) : DEN := fun W => (F W).map (fun x => 1 - x)
theorem isTest_nt {F : DEN} (hF : isTest F) : isTest (ntF F) := fun W => by
  rcases hF W with h | h | h
  · unfold ntF
    rw [h]
    exact Or.inl rfl
  · unfold ntF
    rw [h]
    exact Or.inr (Or.inr rfl)
  · unfold ntF
    rw [h]
    exact Or.inr (Or.inl rfl)
/-! code as lists; a skip tells how far it goes -/
abbrev CLs : Type := List (Int × Int)
def EmbC (K V : Int → Int) : Int → CLs → Prop
  | _, [] => True
  | c, (k, v) :: l => K c = k ∧ V c = (if k = 10 ∨ k = 11 then c + v else v) ∧ EmbC K V (c + 1) l
def EmbM (O A : Int → Int) : Int → CLs → Prop
  | _, [] => True
  | c, (o, a) :: l => O c = o ∧ A c = (if o = 28 ∨ o = 29 then c + a else a) ∧ EmbM O A (c + 1) l
theorem embC_app {K V : Int → Int} : ∀ (l1 l2 : CLs) (c : Int), EmbC K V c (l1 ++ l2) ↔ EmbC K V c l1 ∧ EmbC K V (c + l1.length) l2
  | [], l2, c => by
    show EmbC K V c l2 ↔ True ∧ EmbC K V (c + ((0 : Nat) : Int)) l2
    rw [show c + ((0 : Nat) : Int) = c by omega]
    exact ⟨fun h => ⟨trivial, h⟩, fun h => h.2⟩
  | (k, v) :: l1, l2, c => by
    have ih := embC_app (K := K) (V := V) l1 l2 (c + 1)
    show (K c = k ∧ V c = _ ∧ EmbC K V (c + 1) (l1 ++ l2)) ↔ (K c = k ∧ V c = _ ∧ EmbC K V (c + 1) l1) ∧ EmbC K V (c + ((l1.length + 1 : Nat) : Int)) l2
    rw [ih, show c + ((l1.length + 1 : Nat) : Int) = c + 1 + (l1.length : Int) by omega]
    exact ⟨fun h => ⟨⟨h.1, h.2.1, h.2.2.1⟩, h.2.2.2⟩, fun h => ⟨h.1.1, h.1.2.1, h.1.2.2, h.2⟩⟩
theorem embM_app {O A : Int → Int} : ∀ (l1 l2 : CLs) (c : Int), EmbM O A c (l1 ++ l2) ↔ EmbM O A c l1 ∧ EmbM O A (c + l1.length) l2
  | [], l2, c => by
    show EmbM O A c l2 ↔ True ∧ EmbM O A (c + ((0 : Nat) : Int)) l2
    rw [show c + ((0 : Nat) : Int) = c by omega]
    exact ⟨fun h => ⟨trivial, h⟩, fun h => h.2⟩
  | (k, v) :: l1, l2, c => by
    have ih := embM_app (O := O) (A := A) l1 l2 (c + 1)
    show (O c = k ∧ A c = _ ∧ EmbM O A (c + 1) (l1 ++ l2)) ↔ (O c = k ∧ A c = _ ∧ EmbM O A (c + 1) l1) ∧ EmbM O A (c + ((l1.length + 1 : Nat) : Int)) l2
    rw [ih, show c + ((l1.length + 1 : Nat) : Int) = c + 1 + (l1.length : Int) by omega]
    exact ⟨fun h => ⟨⟨h.1, h.2.1, h.2.2.1⟩, h.2.2.2⟩, fun h => ⟨h.1.1, h.1.2.1, h.1.2.2, h.2⟩⟩
theorem embC_congr {K V K2 V2 : Int → Int} : ∀ (l : CLs) (c : Int), (∀ i : Int, c ≤ i → i < c + l.length → K2 i = K i ∧ V2 i = V i) → EmbC K V c l → EmbC K2 V2 c l
  | [], _, _, _ => trivial
  | (k, v) :: l, c, h, e => by
    have h0 := h c (Int.le_refl _) (by rw [List.length_cons]; omega)
    exact ⟨h0.1.trans e.1, h0.2.trans e.2.1, embC_congr l (c + 1) (fun i i0 i1 => h i (by omega) (by rw [List.length_cons]; omega)) e.2.2⟩
theorem embM_congr {K V K2 V2 : Int → Int} : ∀ (l : CLs) (c : Int), (∀ i : Int, c ≤ i → i < c + l.length → K2 i = K i ∧ V2 i = V i) → EmbM K V c l → EmbM K2 V2 c l
  | [], _, _, _ => trivial
  | (k, v) :: l, c, h, e => by
    have h0 := h c (Int.le_refl _) (by rw [List.length_cons]; omega)
    exact ⟨h0.1.trans e.1, h0.2.trans e.2.1, embM_congr l (c + 1) (fun i i0 i1 => h i (by omega) (by rw [List.length_cons]; omega)) e.2.2⟩
/-- the row's code, as two rows -/
def rO (R : Int → Int) : Int → Int := fun p => R (998 + 2 * p)
def rA (R : Int → Int) : Int → Int := fun p => R (998 + 2 * p + 1)
def DenC (l : CLs) (F : DEN) : Prop := ∀ (K V : Int → Int) (c : Int), EmbC K V c l → Den (cstep K V) c (c + l.length) F
def DenM (l : CLs) (F : DEN) : Prop := ∀ (R : Int → Int) (c : Int), EmbM (rO R) (rA R) c l → Den (mstep R) c (c + l.length) F
theorem denC_num {v : Int} : DenC [(0, v)] (fun _ => some v) := fun K V c e => Den.leaf (fun W S => by
  unfold cstep
  rw [if_pos e.1, e.2.1, if_neg (by decide)])
theorem denM_num {v : Int} : DenM [(0, v)] (fun _ => some v) := fun R c e => Den.leaf (fun W S => by
  have e1 : R (998 + 2 * c) = 0 := e.1
  have e2 : R (998 + 2 * c + 1) = v := e.2.1
  unfold mstep
  rw [if_pos e1, e2])
theorem denC_word {v : Int} : DenC [(1, v)] (fun W => some (W v)) := fun K V c e => Den.leaf (f := fun W => W v) (fun W S => by
  have e1 : K c = 1 := e.1
  have e2 : V c = v := e.2.1
  unfold cstep
  rw [if_neg (by omega), if_pos e1, e2])
theorem denM_word {v a : Int} (h0 : 0 ≤ v) (h1 : v ≤ 8) : DenM [(v + 1, a)] (fun W => some (W v)) := fun R c e => Den.leaf (f := fun W => W v) (fun W S => by
  have e1 : R (998 + 2 * c) = v + 1 := e.1
  unfold mstep
  rw [if_neg (by omega), if_pos (by omega), e1, show v + 1 - 1 = v by omega])
theorem len2 {l1 l2 : CLs} {x : Int × Int} {c : Int} : c + ((l1 ++ l2 ++ [x]).length : Int) = c + l1.length + l2.length + 1 := by
  rw [List.length_append, List.length_append]
  show c + ((l1.length + l2.length + 1 : Nat) : Int) = _
  omega
theorem denC_bin {l1 l2 : CLs} {F G : DEN} {k : Int} (h1 : DenC l1 F) (h2 : DenC l2 G) (hk : 2 ≤ k ∧ k ≤ 8) : DenC (l1 ++ l2 ++ [(k, 0)]) (opF k F G) := fun K V c e => by
  have e1 := (embC_app _ _ _).mp e
  have e2 := (embC_app _ _ _).mp e1.1
  rw [len2]
  refine Den.bin (h1 K V c e2.1) (h2 K V _ e2.2) (fun W S x y => ?_)
  have e3 : K (c + l1.length + l2.length) = k := by
    have := e1.2.1
    rw [List.length_append, show c + ((l1.length + l2.length : Nat) : Int) = c + l1.length + l2.length by omega] at this
    exact this
  unfold cstep
  rw [if_neg (by omega), if_neg (by omega), if_neg (by omega), if_neg (by omega), if_neg (by omega), e3]
theorem denM_bin {l1 l2 : CLs} {F G : DEN} {k : Int} (h1 : DenM l1 F) (h2 : DenM l2 G) (hk : 2 ≤ k ∧ k ≤ 8) : DenM (l1 ++ l2 ++ [(k + 18, 0)]) (opF k F G) := fun R c e => by
  have e1 := (embM_app _ _ _).mp e
  have e2 := (embM_app _ _ _).mp e1.1
  rw [len2]
  refine Den.bin (h1 R c e2.1) (h2 R _ e2.2) (fun W S x y => ?_)
  have e3 : R (998 + 2 * (c + l1.length + l2.length)) = k + 18 := by
    have := e1.2.1
    rw [List.length_append, show c + ((l1.length + l2.length : Nat) : Int) = c + l1.length + l2.length by omega] at this
    exact this
  unfold mstep
  rw [if_neg (by omega), if_neg (by omega), if_pos (by omega), e3, show k + 18 - 18 = k by omega]
theorem len1 {l : CLs} {x : Int × Int} {c : Int} : c + ((l ++ [x]).length : Int) = c + l.length + 1 := by
  rw [List.length_append]
  show c + ((l.length + 1 : Nat) : Int) = _
  omega
theorem denC_not {l : CLs} {F : DEN} (h : DenC l F) (ht : isTest F) : DenC (l ++ [(9, 0)]) (ntF F) := fun K V c e => by
  have e1 := (embC_app _ _ _).mp e
  rw [len1]
  refine Den.un (g := fun x => 1 - x) (h K V c e1.1) (fun W S x hx => ?_)
  have e3 : K (c + l.length) = 9 := e1.2.1
  have hx2 := ht W
  rw [hx] at hx2
  unfold cstep
  rw [if_neg (by omega), if_neg (by omega), if_pos e3]
  dsimp only
  rcases hx2 with q | q | q
  · cases q
  · cases q
    rfl
  · cases q
    rfl
theorem denM_not {l : CLs} {F : DEN} (h : DenM l F) : DenM (l ++ [(27, 0)]) (ntF F) := fun R c e => by
  have e1 := (embM_app _ _ _).mp e
  rw [len1]
  refine Den.un (g := fun x => 1 - x) (h R c e1.1) (fun W S x hx => ?_)
  have e3 : R (998 + 2 * (c + l.length)) = 27 := e1.2.1
  unfold mstep
  rw [if_neg (by omega), if_neg (by omega), if_neg (by omega), if_pos e3]
theorem len3 {l1 l2 : CLs} {x : Int × Int} {c : Int} : c + ((l1 ++ x :: l2).length : Int) = c + l1.length + 1 + l2.length := by
  rw [List.length_append, List.length_cons]
  omega
/-- c = 1: or, c = 0: and -/
theorem denC_skip {l1 l2 : CLs} {F G : DEN} {k c0 : Int} (hk : (k = 10 ∧ c0 = 1) ∨ (k = 11 ∧ c0 = 0)) (h1 : DenC l1 F) (h2 : DenC l2 G) (ht : isTest F) : DenC (l1 ++ (k, (l2.length : Int) + 1) :: l2) (skF2 c0 F G) := fun K V c e => by
  have e1 := (embC_app _ _ _).mp e
  rw [len3]
  have e3 : K (c + l1.length) = k := e1.2.1
  have e4 : V (c + l1.length) = c + l1.length + 1 + l2.length := by
    have := e1.2.2.1
    rw [if_pos (by omega)] at this
    omega
  refine Den.skip (h1 K V c e1.1) (h2 K V _ e1.2.2.2) (fun W S x hx => ?_)
  have hx2 := ht W
  rw [hx] at hx2
  unfold cstep
  rcases hk with ⟨rfl, rfl⟩ | ⟨rfl, rfl⟩
  · rw [if_neg (by omega), if_neg (by omega), if_neg (by omega), if_pos e3, e4]
    dsimp only
    rcases hx2 with q | q | q
    · cases q
    · cases q
      rfl
    · cases q
      rfl
  · rw [if_neg (by omega), if_neg (by omega), if_neg (by omega), if_neg (by omega), if_pos e3, e4]
theorem denM_skip {l1 l2 : CLs} {F G : DEN} {k c0 : Int} (hk : (k = 29 ∧ c0 = 1) ∨ (k = 28 ∧ c0 = 0)) (h1 : DenM l1 F) (h2 : DenM l2 G) : DenM (l1 ++ (k, (l2.length : Int) + 1) :: l2) (skF2 c0 F G) := fun R c e => by
  have e1 := (embM_app _ _ _).mp e
  rw [len3]
  have e3 : R (998 + 2 * (c + l1.length)) = k := e1.2.1
  have e4 : R (998 + 2 * (c + l1.length) + 1) = c + l1.length + 1 + l2.length := by
    have := e1.2.2.1
    rw [if_pos (by omega)] at this
    have q : R (998 + 2 * (c + l1.length) + 1) = c + l1.length + (l2.length + 1) := this
    omega
  refine Den.skip (h1 R c e1.1) (h2 R _ e1.2.2.2) (fun W S x hx => ?_)
  unfold mstep
  rcases hk with ⟨rfl, rfl⟩ | ⟨rfl, rfl⟩
  · rw [if_neg (by omega), if_neg (by omega), if_neg (by omega), if_neg (by omega), if_neg (by omega), e4]
  · rw [if_neg (by omega), if_neg (by omega), if_neg (by omega), if_neg (by omega), if_pos e3, e4]
/-! code that may stand -/
def WfC : CLs → Prop
  | [] => True
  | (k, v) :: l => ((0 ≤ k ∧ k ≤ 11) ∧ (k = 0 → 0 ≤ v ∧ v ≤ 100000) ∧ (k = 1 → 0 ≤ v ∧ v ≤ 8) ∧ (k = 10 ∨ k = 11 → 0 < v ∧ v ≤ (l.length : Int) + 1)) ∧ WfC l
def WfM : CLs → Prop
  | [] => True
  | (o, a) :: l => (((0 ≤ o ∧ o ≤ 9) ∨ (20 ≤ o ∧ o ≤ 29)) ∧ (o = 0 → 0 ≤ a ∧ a ≤ 100000) ∧ (o = 28 ∨ o = 29 → 0 < a ∧ a ≤ (l.length : Int) + 1)) ∧ WfM l
theorem wfC_app : ∀ {l1 l2 : CLs}, WfC l1 → WfC l2 → WfC (l1 ++ l2)
  | [], _, _, h => h
  | (k, v) :: l1, l2, h1, h2 => by
    refine ⟨⟨h1.1.1, h1.1.2.1, h1.1.2.2.1, fun c => ?_⟩, wfC_app h1.2 h2⟩
    have := h1.1.2.2.2 c
    show 0 < v ∧ v ≤ ((l1 ++ l2).length : Int) + 1
    rw [List.length_append]
    omega
theorem wfM_app : ∀ {l1 l2 : CLs}, WfM l1 → WfM l2 → WfM (l1 ++ l2)
  | [], _, _, h => h
  | (k, v) :: l1, l2, h1, h2 => by
    refine ⟨⟨h1.1.1, h1.1.2.1, fun c => ?_⟩, wfM_app h1.2 h2⟩
    have := h1.1.2.2 c
    show 0 < v ∧ v ≤ ((l1 ++ l2).length : Int) + 1
    rw [List.length_append]
    omega
def pcn : CLs → Int
  | [] => 0
  | (k, _) :: l => (if k = 0 ∨ k = 1 then 1 else 0) + pcn l
theorem pcn_app : ∀ {l1 l2 : CLs}, pcn (l1 ++ l2) = pcn l1 + pcn l2
  | [], l2 => by
    show pcn l2 = 0 + pcn l2
    omega
  | (k, v) :: l1, l2 => by
    have ih := pcn_app (l1 := l1) (l2 := l2)
    show _ + pcn (l1 ++ l2) = (_ + pcn l1) + pcn l2
    rw [ih]
    omega
end DENS
