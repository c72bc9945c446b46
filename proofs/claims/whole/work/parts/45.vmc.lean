theorem gX0_divideT {w : WD} {d : Nat} {G : GM} {Q : Option AV → Hp → Prop} {n : NM} {x1 x3 : Int}
    (V :
    ((x3 ≠ 0 →
      (-9223372036854775807 ≤ x1) ∧
      (Ev w d 0 0 mX0_keep [vr 47, vl (x1.tdiv x3)] (B0, n) (fun r h' => ∃ n24 : NM, r = none ∧ h' = (B0, n24) ∧ 
        Q none (B0, n24)))) ∧
    (x3 = 0 →
      Q none (B0, upn n 47 2 1)))) :
    Rn w mX0_divide (d + 1) G Q 0 [(0, vr 47), (1, vl x1), (3, vl x3)] [] (B0, n) := by
  refine r_lload_n dX0_divide_0 rfl rfl ?_
  refine r_lconst (x := 0) dX0_divide_1 rfl (by decide) ?_
  obtain ⟨V1, V2⟩ := V
  refine r_lne dX0_divide_2 rfl dX0_divide_3 (tgt := 14) (by decide) (fun c21 => ?_) (fun c21 => ?_)
  · have V := V1 c21
    refine r_aload_n dX0_divide_14 rfl rfl ?_
    refine r_lload_n dX0_divide_15 rfl rfl ?_
    refine r_lload_n dX0_divide_16 rfl rfl ?_
    obtain ⟨s22, V⟩ := V
    refine r_ldivT dX0_divide_17 c21 s22 ?_
    refine r_callV (args := [vl (x1.tdiv x3)]) dX0_divide_18 kX0_131 ob_47 ⟨_, _, rfl⟩ (by decide) rfl rfl (Nat.le_of_ble_eq_true rfl) cap0 (Ev.mono V ?_)
    rintro r h' ⟨n24, rfl, rfl, V⟩
    show Rn w mX0_divide (d + 1) G Q 21 [(0, vr 47), (1, vl x1), (3, vl x3)] [] (B0, n24)
    exact r_ret dX0_divide_21 rfl V
  · have V := V2 c21
    refine r_aload_n dX0_divide_6 rfl rfl ?_
    refine r_iconst (x := 1) dX0_divide_7 rfl (by decide) ?_
    refine r_putZ (fi := 2) (h' := (B0, upn n 47 2 1)) dX0_divide_8 pX0_19 ob_47 (by decide) rfl rfl (by decide) rfl ?_
    refine r_goto (tgt := 21) dX0_divide_11 (by decide) ?_
    exact r_ret dX0_divide_21 rfl V

theorem gX12_reckonT {w : WD} {d : Nat} {G : GM} {Q : Option AV → Hp → Prop} {n : NM} {x1 x2 x4 : Int}
    (V :
    (x1 = 20 →
      (inJ (x2 + x4)) ∧
      Q (some (vl (x2 + x4))) (B0, n)) ∧
    (x1 = 21 →
      (inJ (x2 - x4)) ∧
      Q (some (vl (x2 - x4))) (B0, n)) ∧
    (x1 = 22 →
      (inJ (x2 * x4)) ∧
      Q (some (vl (x2 * x4))) (B0, n)) ∧
    (x1 = 23 →
      (∀ z25 : Int, z25 = (if x4 ≠ 0 then 0 else 1) → 
      (z25 = 0 ∨ z25 = 1) ∧
      ((z25 = 0 →
        (¬ x4 = 0) ∧ (-9223372036854775807 ≤ x2) ∧
        Q (some (vl (x2.tdiv x4))) (B0, upn n 145 27 z25)) ∧
      (z25 ≠ 0 →
        Q (some (vl 0)) (B0, upn n 145 27 z25))))) ∧
    (x1 = 24 →
      ((x4 ≤ x2 →
        Q (some (vl 0)) (B0, n)) ∧
      (x2 < x4 →
        Q (some (vl 1)) (B0, n)))) ∧
    (x1 = 25 →
      ((x2 ≤ x4 →
        Q (some (vl 0)) (B0, n)) ∧
      (x4 < x2 →
        Q (some (vl 1)) (B0, n)))) ∧
    (¬ x1 = 20 → ¬ x1 = 21 → ¬ x1 = 22 → ¬ x1 = 23 → ¬ x1 = 24 → ¬ x1 = 25 →
      ((x2 ≠ x4 →
        Q (some (vl 0)) (B0, n)) ∧
      (x2 = x4 →
        Q (some (vl 1)) (B0, n))))) :
    Rn w mX12_reckon d G Q 0 [(0, vr 145), (1, vi x1), (2, vl x2), (4, vl x4)] [] (B0, n) := by
  refine r_iload_n dX12_reckon_0 rfl rfl ?_
  obtain ⟨V0, V1, V2, V3, V4, V5, VD⟩ := V
  by_cases c0 : x1 = 20
  · have V := V0 c0
    refine r_tableIn (k := 20) (tgt := 40) dX12_reckon_1 c0 (by decide) (by decide) rfl (by decide) ?_
    refine r_lload_n dX12_reckon_40 rfl rfl ?_
    refine r_lload dX12_reckon_41 rfl ?_
    obtain ⟨s21, V⟩ := V
    refine r_ladd dX12_reckon_43 s21 ?_
    exact r_lret dX12_reckon_44 rfl V
  by_cases c1 : x1 = 21
  · have V := V1 c1
    refine r_tableIn (k := 21) (tgt := 45) dX12_reckon_1 c1 (by decide) (by decide) rfl (by decide) ?_
    refine r_lload_n dX12_reckon_45 rfl rfl ?_
    refine r_lload dX12_reckon_46 rfl ?_
    obtain ⟨s22, V⟩ := V
    refine r_lsub dX12_reckon_48 s22 ?_
    exact r_lret dX12_reckon_49 rfl V
  by_cases c2 : x1 = 22
  · have V := V2 c2
    refine r_tableIn (k := 22) (tgt := 50) dX12_reckon_1 c2 (by decide) (by decide) rfl (by decide) ?_
    refine r_lload_n dX12_reckon_50 rfl rfl ?_
    refine r_lload dX12_reckon_51 rfl ?_
    obtain ⟨s23, V⟩ := V
    refine r_lmul dX12_reckon_53 s23 ?_
    exact r_lret dX12_reckon_54 rfl V
  by_cases c3 : x1 = 23
  · have V := V3 c3
    refine r_tableIn (k := 23) (tgt := 55) dX12_reckon_1 c3 (by decide) (by decide) rfl (by decide) ?_
    refine r_aload_n dX12_reckon_55 rfl rfl ?_
    refine r_lload dX12_reckon_56 rfl ?_
    refine r_lconst (x := 0) dX12_reckon_58 rfl (by decide) ?_
    have K : ∀ z25 : Int, z25 = (if x4 ≠ 0 then 0 else 1) → Rn w mX12_reckon d G Q 68 [(0, vr 145), (2, vl x2), (4, vl x4)] [vi z25, vr 145] (B0, n) := by
      intro z25 ez25
      have V := V z25 ez25
      obtain ⟨s26, V⟩ := V
      refine r_putZ (fi := 27) (h' := (B0, upn n 145 27 z25)) dX12_reckon_68 pX12_308 ob_145 (by decide) rfl rfl s26 rfl ?_
      refine r_aload_n dX12_reckon_71 rfl rfl ?_
      refine r_getI (fi := 27) dX12_reckon_72 fX12_308 ob_145 (by decide) (by decide) rfl ?_
      show Rn w mX12_reckon d G Q 75 [(0, vr 145), (2, vl x2), (4, vl x4)] [vi z25] (B0, upn n 145 27 z25)
      obtain ⟨V1, V2⟩ := V
      refine r_zeq (tgt := 82) dX12_reckon_75 (by decide) (fun c27 => ?_) (fun c27 => ?_)
      · have V := V1 c27
        refine r_lload_n dX12_reckon_82 rfl rfl ?_
        refine r_lload dX12_reckon_83 rfl ?_
        obtain ⟨s28, V⟩ := V
        obtain ⟨s29, V⟩ := V
        refine r_ldivT dX12_reckon_85 s28 s29 ?_
        exact r_lret dX12_reckon_86 rfl V
      · have V := V2 c27
        refine r_lconst (x := 0) dX12_reckon_78 rfl (by decide) ?_
        refine r_goto (tgt := 86) dX12_reckon_79 (by decide) ?_
        exact r_lret dX12_reckon_86 rfl V
    refine r_lne dX12_reckon_59 rfl dX12_reckon_60 (tgt := 67) (by decide) (fun c24 => ?_) (fun c24 => ?_)
    · refine r_iconst (x := 0) dX12_reckon_67 rfl (by decide) ?_
      refine r_pick [0, 2, 3] (ls' := [(0, vr 145), (2, vl x2), (4, vl x4)]) rfl ?_
      exact K 0 (by first | rfl | (simp only [if_pos c24]))
    · refine r_iconst (x := 1) dX12_reckon_63 rfl (by decide) ?_
      refine r_goto (tgt := 68) dX12_reckon_64 (by decide) ?_
      refine r_pick [0, 2, 3] (ls' := [(0, vr 145), (2, vl x2), (4, vl x4)]) rfl ?_
      exact K 1 (by first | rfl | (simp only [if_neg (show ¬ (x4 ≠ 0) from not_not_intro c24)]))
  by_cases c4 : x1 = 24
  · have V := V4 c4
    refine r_tableIn (k := 24) (tgt := 87) dX12_reckon_1 c4 (by decide) (by decide) rfl (by decide) ?_
    refine r_lload_n dX12_reckon_87 rfl rfl ?_
    refine r_lload dX12_reckon_88 rfl ?_
    obtain ⟨V1, V2⟩ := V
    refine r_lge dX12_reckon_90 rfl dX12_reckon_91 (tgt := 98) (by decide) (fun c30 => ?_) (fun c30 => ?_)
    · have V := V1 c30
      refine r_lconst (x := 0) dX12_reckon_98 rfl (by decide) ?_
      exact r_lret dX12_reckon_99 rfl V
    · have V := V2 c30
      refine r_lconst (x := 1) dX12_reckon_94 rfl (by decide) ?_
      refine r_goto (tgt := 99) dX12_reckon_95 (by decide) ?_
      exact r_lret dX12_reckon_99 rfl V
  by_cases c5 : x1 = 25
  · have V := V5 c5
    refine r_tableIn (k := 25) (tgt := 100) dX12_reckon_1 c5 (by decide) (by decide) rfl (by decide) ?_
    refine r_lload_n dX12_reckon_100 rfl rfl ?_
    refine r_lload dX12_reckon_101 rfl ?_
    obtain ⟨V1, V2⟩ := V
    refine r_lle dX12_reckon_103 rfl dX12_reckon_104 (tgt := 111) (by decide) (fun c31 => ?_) (fun c31 => ?_)
    · have V := V1 c31
      refine r_lconst (x := 0) dX12_reckon_111 rfl (by decide) ?_
      exact r_lret dX12_reckon_112 rfl V
    · have V := V2 c31
      refine r_lconst (x := 1) dX12_reckon_107 rfl (by decide) ?_
      refine r_goto (tgt := 112) dX12_reckon_108 (by decide) ?_
      exact r_lret dX12_reckon_112 rfl V
  have V := VD c0 c1 c2 c3 c4 c5
  refine r_tableOut (tgt := 113) dX12_reckon_1 (by omega) (by decide) ?_
  refine r_lload_n dX12_reckon_113 rfl rfl ?_
  refine r_lload dX12_reckon_114 rfl ?_
  obtain ⟨V1, V2⟩ := V
  refine r_lne dX12_reckon_116 rfl dX12_reckon_117 (tgt := 124) (by decide) (fun c32 => ?_) (fun c32 => ?_)
  · have V := V1 c32
    refine r_lconst (x := 0) dX12_reckon_124 rfl (by decide) ?_
    exact r_lret dX12_reckon_125 rfl V
  · have V := V2 c32
    refine r_lconst (x := 1) dX12_reckon_120 rfl (by decide) ?_
    refine r_goto (tgt := 125) dX12_reckon_121 (by decide) ?_
    exact r_lret dX12_reckon_125 rfl V

section VMC
variable {w : WD} {d : Nat} {n : NM}
/-- a call, whatever it leaves in the numbers that it may change -/
theorem EV.usP {q : MI} {args : List AV} {P V : NM → Prop} (E : Ev w d 0 0 q args (B0, n) (fun r h' => ∃ n1 : NM, r = none ∧ h' = (B0, n1) ∧ P n1)) (hv : ∀ n1, P n1 → V n1) : Ev w d 0 0 q args (B0, n) (fun r h' => ∃ n1 : NM, r = none ∧ h' = (B0, n1) ∧ V n1) :=
  Ev.mono E (fun r h' z => by
    obtain ⟨n1, a, b, c⟩ := z
    exact ⟨n1, a, b, hv n1 c⟩)
theorem EI.usP {q : MI} {args : List AV} {P V : Int → NM → Prop} (E : Ev w d 0 0 q args (B0, n) (fun r h' => ∃ (x1 : Int) (n1 : NM), r = some (vi x1) ∧ h' = (B0, n1) ∧ P x1 n1)) (hv : ∀ x1 n1, P x1 n1 → V x1 n1) : Ev w d 0 0 q args (B0, n) (fun r h' => ∃ (x1 : Int) (n1 : NM), r = some (vi x1) ∧ h' = (B0, n1) ∧ V x1 n1) :=
  Ev.mono E (fun r h' z => by
    obtain ⟨x1, n1, a, b, c⟩ := z
    exact ⟨x1, n1, a, b, hv x1 n1 c⟩)
theorem EL.usP {q : MI} {args : List AV} {P V : Int → NM → Prop} (E : Ev w d 0 0 q args (B0, n) (fun r h' => ∃ (x1 : Int) (n1 : NM), r = some (vl x1) ∧ h' = (B0, n1) ∧ P x1 n1)) (hv : ∀ x1 n1, P x1 n1 → V x1 n1) : Ev w d 0 0 q args (B0, n) (fun r h' => ∃ (x1 : Int) (n1 : NM), r = some (vl x1) ∧ h' = (B0, n1) ∧ V x1 n1) :=
  Ev.mono E (fun r h' z => by
    obtain ⟨x1, n1, a, b, c⟩ := z
    exact ⟨x1, n1, a, b, hv x1 n1 c⟩)
theorem EV.ofP {m : MI} {ls : List (Nat × AV)} {args : List AV} {P : NM → Prop} (hy : plainName m.1.cls = true) (hn : (lg_sl (args.map (enc w))).length ≤ m.2.2.1) (hl : av_args 0 args = ls)
    (body : (∀ x ∈ args, okV x) → ∀ G : GM, Rn w m d G (fun r h' => ∃ n1 : NM, r = none ∧ h' = (B0, n1) ∧ P n1) 0 ls [] (B0, n)) : Ev w d 0 0 m args (B0, n) (fun r h' => ∃ n1 : NM, r = none ∧ h' = (B0, n1) ∧ P n1) :=
  Ev.ofB hy hn hl (fun r h' z => by obtain ⟨n1, _, b, _⟩ := z; rw [b]) body
theorem EI.ofP {m : MI} {ls : List (Nat × AV)} {args : List AV} {P : Int → NM → Prop} (hy : plainName m.1.cls = true) (hn : (lg_sl (args.map (enc w))).length ≤ m.2.2.1) (hl : av_args 0 args = ls)
    (body : (∀ x ∈ args, okV x) → ∀ G : GM, Rn w m d G (fun r h' => ∃ (x1 : Int) (n1 : NM), r = some (vi x1) ∧ h' = (B0, n1) ∧ P x1 n1) 0 ls [] (B0, n)) : Ev w d 0 0 m args (B0, n) (fun r h' => ∃ (x1 : Int) (n1 : NM), r = some (vi x1) ∧ h' = (B0, n1) ∧ P x1 n1) :=
  Ev.ofB hy hn hl (fun r h' z => by obtain ⟨x1, n1, _, b, _⟩ := z; rw [b]) body
theorem EL.ofP {m : MI} {ls : List (Nat × AV)} {args : List AV} {P : Int → NM → Prop} (hy : plainName m.1.cls = true) (hn : (lg_sl (args.map (enc w))).length ≤ m.2.2.1) (hl : av_args 0 args = ls)
    (body : (∀ x ∈ args, okV x) → ∀ G : GM, Rn w m d G (fun r h' => ∃ (x1 : Int) (n1 : NM), r = some (vl x1) ∧ h' = (B0, n1) ∧ P x1 n1) 0 ls [] (B0, n)) : Ev w d 0 0 m args (B0, n) (fun r h' => ∃ (x1 : Int) (n1 : NM), r = some (vl x1) ∧ h' = (B0, n1) ∧ P x1 n1) :=
  Ev.ofB hy hn hl (fun r h' z => by obtain ⟨x1, n1, _, b, _⟩ := z; rw [b]) body
/-- the pile, its top first -/
def StkC (n : NM) (a : Nat) : List Int → Prop
  | [] => True
  | x :: S => n a (S.length : Int) = x ∧ StkC n a S
theorem StkC.put {a : Nat} {i v : Int} : ∀ {S : List Int}, (S.length : Int) ≤ i → StkC n a S → StkC (upn n a i v) a S
  | [], _, _ => trivial
  | x :: S, hi, h => by
    rw [List.length_cons] at hi
    exact ⟨by rw [upn_i (by omega)]; exact h.1, StkC.put (by omega) h.2⟩
theorem StkC.congr {n2 : NM} {a : Nat} (e : n2 a = n a) : ∀ {S : List Int}, StkC n a S → StkC n2 a S
  | [], _ => trivial
  | x :: S, h => ⟨by rw [e]; exact h.1, StkC.congr e h.2⟩
abbrev inZ (x : Int) : Prop := -1000000000 ≤ x ∧ x ≤ 1000000000
/-- the asker's pile -/
def CSt (n : NM) (S : List Int) : Prop := n 47 1 = (S.length : Int) ∧ StkC n 48 S ∧ (∀ x ∈ S, inZ x)
/-- what its work leaves as it was -/
def FrW (n2 n : NM) : Prop := (∀ t : Nat, t ≠ 47 → t ≠ 48 → n2 t = n t) ∧ n2 47 5 = n 47 5
theorem FrW.rf : FrW n n := ⟨fun _ _ _ => rfl, rfl⟩
theorem FrW.tr {n2 n3 : NM} (h : FrW n2 n) (h2 : FrW n3 n2) : FrW n3 n := ⟨fun t a b => (h2.1 t a b).trans (h.1 t a b), h2.2.trans h.2⟩
theorem FrW.h {i v : Int} (hi : i ≠ 5) : FrW (upn n 47 i v) n := ⟨fun t a _ => upn_ne a, upn_i (fun z => hi z.symm)⟩
theorem FrW.s {i v : Int} : FrW (upn n 48 i v) n := ⟨fun t _ b => upn_ne b, upn_a (by decide)⟩
theorem s_push {S : List Int} {x : Int} (h : CSt n S) (hl : S.length < 64) (hx : inZ x) : Ev w d 0 0 mX0_push [vr 47, vi x] (B0, n) (fun r h' => ∃ n1 : NM, r = none ∧ h' = (B0, n1) ∧ CSt n1 (x :: S) ∧ FrW n1 n ∧ n1 47 2 = n 47 2) := by
  have e := h.1
  refine EV.ofP (by decide +kernel) (Nat.le_of_ble_eq_true rfl) rfl (fun _ G => gX0_push_0 ⟨fun z => absurd z (by omega), fun _ => ⟨fun z => absurd z (by omega), fun _ => ⟨by omega, by omega, ⟨by omega, by omega⟩, _, rfl, rfl, ⟨?_, ⟨?_, ?_⟩, ?_⟩, ?_, ?_⟩⟩⟩)
  · rw [upn_self, List.length_cons, e]
    rfl
  · rw [upn_a (by decide), e, upn_self]
  · exact StkC.congr (upn_ne (by decide)) (h.2.1.put (by omega))
  · intro y hy
    rcases List.mem_cons.mp hy with rfl | hy
    · exact hx
    · exact h.2.2 y hy
  · exact FrW.s.tr (FrW.h (by decide))
  · rw [upn_i (by decide), upn_a (by decide)]
theorem s_top {S : List Int} {x : Int} (h : CSt n (x :: S)) (hl : S.length < 64) : EI w d mX0_top [vr 47] B0 n x n := by
  have e : n 47 1 = (S.length : Int) + 1 := h.1
  refine EI.of (by decide +kernel) (Nat.le_of_ble_eq_true rfl) rfl (fun _ G => gX0_top_0 ⟨fun z => absurd z (by omega), fun _ => ⟨fun z => absurd z (by omega), fun _ => ⟨⟨by omega, by omega⟩, by omega, by omega, ?_, rfl⟩⟩⟩)
  rw [e, show (S.length : Int) + 1 - 1 = (S.length : Int) by omega, h.2.1.1]
theorem s_pop {S : List Int} {x : Int} (h : CSt n (x :: S)) (hl : S.length < 64) : Ev w (d + 1) 0 0 mX0_pop [vr 47] (B0, n) (fun r h' => ∃ (x1 : Int) (n1 : NM), r = some (vi x1) ∧ h' = (B0, n1) ∧ x1 = x ∧ CSt n1 S ∧ FrW n1 n ∧ n1 47 2 = n 47 2) := by
  have e : n 47 1 = (S.length : Int) + 1 := h.1
  refine EI.ofP (by decide +kernel) (Nat.le_of_ble_eq_true rfl) rfl (fun _ G => gX0_pop_0 (EI.use (s_top h hl) ⟨⟨by omega, by omega⟩, _, _, rfl, rfl, rfl, ⟨?_, StkC.congr (upn_ne (by decide)) h.2.1.2, fun y hy => h.2.2 y (List.mem_cons_of_mem _ hy)⟩, FrW.h (by decide), upn_i (by decide)⟩))
  rw [upn_self, e]
  omega
/-- a pop of a pile that nobody knows any more -/
theorem s_popB (h0 : 0 ≤ n 47 1) (h1 : n 47 1 ≤ 64) : Ev w (d + 1) 0 0 mX0_pop [vr 47] (B0, n) (fun r h' => ∃ (x1 : Int) (n1 : NM), r = some (vi x1) ∧ h' = (B0, n1) ∧ FrW n1 n ∧ n1 47 2 = n 47 2) := by
  refine EI.ofP (by decide +kernel) (Nat.le_of_ble_eq_true rfl) rfl (fun _ G => gX0_pop_0 (EI.usP (P := fun x1 n1 => n1 = n) (EI.ofP (by decide +kernel) (Nat.le_of_ble_eq_true rfl) rfl (fun _ G => gX0_top_0 ⟨fun z => ⟨_, _, rfl, rfl, rfl⟩, fun _ => ⟨fun z => absurd z (by omega), fun _ => ⟨⟨by omega, by omega⟩, by omega, by omega, _, _, rfl, rfl, rfl⟩⟩⟩)) (fun x1 n1 e => ?_)))
  subst e
  exact ⟨⟨by omega, by omega⟩, _, _, rfl, rfl, FrW.h (by decide), upn_i (by decide)⟩
/-- behind a step that keeps z, if it can be kept -/
def KpP (n : NM) (z : Option Int) (S : List Int) (n1 : NM) : Prop := FrW n1 n ∧ match z with
  | some z => CSt n1 (z :: S) ∧ n1 47 2 = n 47 2
  | none => n1 47 2 = 1 ∧ 0 ≤ n1 47 1 ∧ n1 47 1 ≤ 64
theorem KpP.brk {S : List Int} (h : CSt n S) (hl : S.length ≤ 64) : KpP n none S (upn n 47 2 1) := by
  have e := h.1
  exact ⟨FrW.h (by decide), upn_self _ _ _ _, by rw [upn_i (by decide)]; omega, by rw [upn_i (by decide)]; omega⟩
theorem s_keep {S : List Int} {z : Int} (h : CSt n S) (hl : S.length < 64) : Ev w (d + 1) 0 0 mX0_keep [vr 47, vl z] (B0, n) (fun r h' => ∃ n1 : NM, r = none ∧ h' = (B0, n1) ∧ KpP n (keepZ z) S n1) := by
  refine EV.ofP (by decide +kernel) (Nat.le_of_ble_eq_true rfl) rfl (fun _ G => gX0_keep_0 ⟨fun c => ⟨_, rfl, rfl, ?_⟩, fun c1 => ⟨fun c2 => ⟨⟨by omega, by omega⟩, EV.usP (s_push h hl ⟨c2, c1⟩) (fun n1 p => ⟨_, rfl, rfl, ?_⟩)⟩, fun c2 => ⟨_, rfl, rfl, ?_⟩⟩⟩)
  · rw [keepZ, if_neg (by omega)]
    exact KpP.brk h (by omega)
  · rw [keepZ, if_pos ⟨c2, c1⟩]
    exact ⟨p.2.1, p.1, p.2.2⟩
  · rw [keepZ, if_neg (by omega)]
    exact KpP.brk h (by omega)
theorem s_divide {S : List Int} {x y : Int} (h : CSt n S) (hl : S.length < 64) (hx : inZ x) : Ev w (d + 2) 0 0 mX0_divide [vr 47, vl x, vl y] (B0, n) (fun r h' => ∃ n1 : NM, r = none ∧ h' = (B0, n1) ∧ KpP n (if y = 0 then none else keepZ (x.tdiv y)) S n1) := by
  refine EV.ofP (by decide +kernel) (Nat.le_of_ble_eq_true rfl) rfl (fun _ G => gX0_divideT ⟨fun c => ⟨by omega, EV.usP (s_keep h hl) (fun n1 p => ⟨_, rfl, rfl, ?_⟩)⟩, fun c => ⟨_, rfl, rfl, ?_⟩⟩)
  · rw [if_neg c]
    exact p
  · rw [if_pos c]
    exact KpP.brk h (by omega)
theorem mulZ {x y : Int} (hx : inZ x) (hy : inZ y) : -1000000000000000000 ≤ x * y ∧ x * y ≤ 1000000000000000000 := by
  have h1 : (x * y).natAbs ≤ 1000000000 * 1000000000 := by
    rw [Int.natAbs_mul]
    exact Nat.mul_le_mul (by omega) (by omega)
  omega
theorem KpP.fr {S : List Int} {n2 n3 : NM} {z : Option Int} (h : FrW n2 n) (h2 : n2 47 2 = n 47 2) (p : KpP n2 z S n3) : KpP n z S n3 := by
  refine ⟨h.tr p.1, ?_⟩
  have p2 := p.2
  match z with
  | some z => exact ⟨p2.1, p2.2.trans h2⟩
  | none => exact p2
theorem s_join {S : List Int} {k x y : Int} (h : CSt n (y :: x :: S)) (hl : S.length + 1 < 64) (k2 : 2 ≤ k) (k8 : k ≤ 8) : Ev w (d + 3) 0 0 mX0_join [vr 47, vi k] (B0, n) (fun r h' => ∃ n1 : NM, r = none ∧ h' = (B0, n1) ∧ KpP n (binZ k x y) S n1) := by
  have hy := h.2.2 y List.mem_cons_self
  have hx := h.2.2 x (List.mem_cons_of_mem _ List.mem_cons_self)
  have hm := mulZ hx hy
  refine EV.ofP (by decide +kernel) (Nat.le_of_ble_eq_true rfl) rfl (fun _ G => gX0_join_0 (EI.usP (s_pop h hl) (fun x1 n1 p => EI.usP (s_pop p.2.1 (by omega)) (fun x2 n2 q => ?_))))
  obtain ⟨rfl, p1, p2, p3⟩ := p
  obtain ⟨rfl, q1, q2, q3⟩ := q
  have fr : FrW n2 n := p2.tr q2
  have f2 : n2 47 2 = n 47 2 := q3.trans p3
  have lt : S.length < 64 := by omega
  refine ⟨fun e => ⟨⟨by omega, by omega⟩, EV.usP (s_keep q1 lt) (fun n3 p => ⟨_, rfl, rfl, ?_⟩)⟩, fun e => ⟨⟨by omega, by omega⟩, EV.usP (s_keep q1 lt) (fun n3 p => ⟨_, rfl, rfl, ?_⟩)⟩, fun e => ⟨⟨by omega, by omega⟩, EV.usP (s_keep q1 lt) (fun n3 p => ⟨_, rfl, rfl, ?_⟩)⟩, fun e => EV.usP (s_divide q1 lt hx) (fun n3 p => ⟨_, rfl, rfl, ?_⟩), fun e z ez => EV.usP (s_push (x := z) q1 lt ?_) (fun n3 p => ⟨_, rfl, rfl, ?_⟩), fun e z ez => EV.usP (s_push (x := z) q1 lt ?_) (fun n3 p => ⟨_, rfl, rfl, ?_⟩), fun e2 e3 e4 e5 e6 e7 z ez => EV.usP (s_push (x := z) q1 lt ?_) (fun n3 p => ⟨_, rfl, rfl, ?_⟩)⟩
  · rw [show binZ k x2 x1 = keepZ (x2 + x1) from if_pos e]
    exact p.fr fr f2
  · rw [show binZ k x2 x1 = keepZ (x2 - x1) by unfold binZ; rw [if_neg (by omega), if_pos e]]
    exact p.fr fr f2
  · rw [show binZ k x2 x1 = keepZ (x2 * x1) by unfold binZ; rw [if_neg (by omega), if_neg (by omega), if_pos e]]
    exact p.fr fr f2
  · rw [show binZ k x2 x1 = (if x1 = 0 then none else keepZ (x2.tdiv x1)) by unfold binZ; rw [if_neg (by omega), if_neg (by omega), if_neg (by omega), if_pos e]]
    exact p.fr fr f2
  · rw [ez]
    split <;> exact ⟨by decide, by decide⟩
  · rw [show binZ k x2 x1 = some z by
      unfold binZ
      rw [if_neg (by omega), if_neg (by omega), if_neg (by omega), if_neg (by omega), if_pos e, ez]
      by_cases c : x2 < x1
      · rw [if_pos c, if_neg (by omega)]
      · rw [if_neg c, if_pos (by omega)]]
    exact ⟨fr.tr p.2.1, p.1, p.2.2.trans f2⟩
  · rw [ez]
    split <;> exact ⟨by decide, by decide⟩
  · rw [show binZ k x2 x1 = some z by
      unfold binZ
      rw [if_neg (by omega), if_neg (by omega), if_neg (by omega), if_neg (by omega), if_neg (by omega), if_pos e, ez]
      by_cases c : x1 < x2
      · rw [if_pos c, if_neg (by omega)]
      · rw [if_neg c, if_pos (by omega)]]
    exact ⟨fr.tr p.2.1, p.1, p.2.2.trans f2⟩
  · rw [ez]
    split <;> exact ⟨by decide, by decide⟩
  · rw [show binZ k x2 x1 = some z by
      unfold binZ
      rw [if_neg (by omega), if_neg (by omega), if_neg (by omega), if_neg (by omega), if_neg (by omega), if_neg (by omega), ez]
      by_cases c : x2 = x1
      · rw [if_pos c, if_neg (by omega)]
      · rw [if_neg c, if_pos (by omega)]]
    exact ⟨fr.tr p.2.1, p.1, p.2.2.trans f2⟩
theorem pushN_le {K : Int → Int} {a : Nat} : ∀ m : Nat, pushN K a ≤ pushN K (a + m)
  | 0 => Int.le_refl _
  | m + 1 => by
    have ih := pushN_le (K := K) (a := a) m
    have e : pushN K (a + (m + 1)) = pushN K (a + m) + (if K ((a + m : Nat) : Int) = 0 ∨ K ((a + m : Nat) : Int) = 1 then 1 else 0) := rfl
    rw [e]
    split <;> omega
theorem pushN_mono {K : Int → Int} {a b : Nat} (h : a ≤ b) : pushN K a ≤ pushN K b := by
  have := pushN_le (K := K) (a := a) (b - a)
  rw [show a + (b - a) = b by omega] at this
  exact this
/-- what work leaves and answers -/
def WkP (n : NM) (o : Option (Int × List Int)) (x : Int) (n1 : NM) : Prop := FrW n1 n ∧ match o with
  | some ps => n1 47 2 = 0 ∧ ∀ y S, ps.2 = y :: S → x = y
  | none => n1 47 2 = 1
theorem s_kindOf {p : Int} (p0 : 0 ≤ p) (p1 : p < 400) : EI w d mX2_kindOf [vr 16, vi p] B0 n (n 17 p) n :=
  EI.of (by decide +kernel) (Nat.le_of_ble_eq_true rfl) rfl (fun _ G => gX2_kindOf_0 ob_16 (k := 17) (v := 18) (t := 19) rfl rfl rfl ob_17 ob_18 ob_19 ⟨fun z => absurd z (by omega), fun _ => ⟨fun z => absurd z (by omega), fun _ => ⟨p0, p1, rfl, rfl⟩⟩⟩)
theorem s_valueOf {p : Int} (p0 : 0 ≤ p) (p1 : p < 400) : EI w d mX2_valueOf [vr 16, vi p] B0 n (n 18 p) n :=
  EI.of (by decide +kernel) (Nat.le_of_ble_eq_true rfl) rfl (fun _ G => gX2_valueOf_0 ob_16 (k := 17) (v := 18) (t := 19) rfl rfl rfl ob_17 ob_18 ob_19 ⟨fun z => absurd z (by omega), fun _ => ⟨fun z => absurd z (by omega), fun _ => ⟨p0, p1, rfl, rfl⟩⟩⟩)
theorem s_afterSkip1 {p v : Int} (hv : p < v) (hv2 : v ≤ 400) (h0 : 0 ≤ p) : EI w (d + 1) mX0_afterSkip [vr 47, vi 1, vi p, vi v] B0 n (v - 1) n :=
  EI.of (by decide +kernel) (Nat.le_of_ble_eq_true rfl) rfl (fun _ G => gX0_afterSkip_0 ⟨fun z => absurd z (by decide), fun _ => ⟨⟨by omega, by omega⟩, by rw [show max p (v - 1) = v - 1 by omega], rfl⟩⟩)
theorem s_afterSkip0 {p v x : Int} {S : List Int} (h : CSt n (x :: S)) (hl : S.length < 64) : Ev w (d + 2) 0 0 mX0_afterSkip [vr 47, vi 0, vi p, vi v] (B0, n) (fun r h' => ∃ (x1 : Int) (n1 : NM), r = some (vi x1) ∧ h' = (B0, n1) ∧ x1 = p ∧ CSt n1 S ∧ FrW n1 n ∧ n1 47 2 = n 47 2) :=
  EI.ofP (by decide +kernel) (Nat.le_of_ble_eq_true rfl) rfl (fun _ G => gX0_afterSkip_0 ⟨fun _ => EI.usP (s_pop h hl) (fun x1 n1 p => ⟨_, _, rfl, rfl, rfl, p.2⟩), fun z => absurd rfl z⟩)
/-- the steps that lie in a state -/
def InC (n : NM) (K V W : Int → Int) (NS : Int) : Prop := (∀ p, 0 ≤ p → p < NS → n 17 p = K p ∧ n 18 p = V p) ∧ ∀ i, 0 ≤ i → i < 9 → n 49 i = W i ∧ inZ (W i)
theorem InC.fr {n2 : NM} {K V W : Int → Int} {NS : Int} (h : InC n K V W NS) (f : FrW n2 n) : InC n2 K V W NS := by
  refine ⟨fun p a b => ?_, fun i a b => ?_⟩
  · rw [f.1 17 (by decide) (by decide), f.1 18 (by decide) (by decide)]
    exact h.1 p a b
  · rw [f.1 49 (by decide) (by decide)]
    exact h.2 i a b
theorem s_workL {G : GM} {K V W : Int → Int} {NS q : Int} {n0 : NM} {o : Option (Int × List Int)} (hC : CodeC K V NS) (hq : q ≤ NS) : ∀ (f : Nat) (n : NM) (p : Int) (S : List Int), InC n K V W NS → CSt n S → n 47 2 = 0 → (S.length : Int) ≤ pushN K p.toNat → 0 ≤ p → p ≤ NS → FrW n n0 → vmz (cstep K V W) f p q S = some o →
    Rn w mX0_work (d + 4) G (fun r h' => ∃ (x1 : Int) (n1 : NM), r = some (vi x1) ∧ h' = (B0, n1) ∧ WkP n0 o x1 n1) 13 [(0, vr 47), (1, vr 16), (3, vi q), (4, vi p)] [] (B0, n) := by
  have h50 := hC.2.2.1
  have fin : ∀ (n : NM) (p : Int) (S : List Int), CSt n S → n 47 2 = 0 → (S.length : Int) ≤ 50 → q ≤ p → FrW n n0 → o = some (p, S) → Rn w mX0_work (d + 4) G (fun r h' => ∃ (x1 : Int) (n1 : NM), r = some (vi x1) ∧ h' = (B0, n1) ∧ WkP n0 o x1 n1) 13 [(0, vr 47), (1, vr 16), (3, vi q), (4, vi p)] [] (B0, n) := by
    intro n p S hS hb hl hp hf ho
    subst ho
    refine gX0_work_13 ⟨fun _ => ?_, fun z => absurd z (by omega)⟩
    match S, hS, hl with
    | [], hS, hl =>
      have e := hS.1
      refine EI.usP (s_popB (by rw [e]; decide) (by rw [e]; decide)) (fun x1 n1 z => ⟨_, _, rfl, rfl, hf.tr z.1, z.2.trans hb, fun y S c => by cases c⟩)
    | y :: S', hS, hl =>
      rw [List.length_cons] at hl
      refine EI.usP (s_pop hS (by omega)) (fun x1 n1 z => ⟨_, _, rfl, rfl, hf.tr z.2.2.1, z.2.2.2.trans hb, fun y' S'' c => ?_⟩)
      cases c
      exact z.1
  intro f
  induction f with
  | zero =>
    intro n p S hI hS hb hl p0 p1 hf hv
    have e : vmz (cstep K V W) 0 p q S = if p = q then some (some (p, S)) else none := rfl
    rw [e] at hv
    by_cases c : p = q
    · rw [if_pos c] at hv
      have hm := pushN_mono (K := K) (a := p.toNat) (b := NS.toNat) (by omega)
      exact fin n p S hS hb (by omega) (by omega) hf (Option.some.inj hv).symm
    · rw [if_neg c] at hv
      cases hv
  | succ f ih =>
    intro n p S hI hS hb hl p0 p1 hf hv
    have e : vmz (cstep K V W) (f + 1) p q S = if q ≤ p then some (some (p, S)) else match cstep K V W p S with
      | none => none
      | some none => some none
      | some (some (p', S')) => vmz (cstep K V W) f p' q S' := rfl
    rw [e] at hv
    have hm := pushN_mono (K := K) (a := p.toNat) (b := NS.toNat) (by omega)
    by_cases c : q ≤ p
    · rw [if_pos c] at hv
      exact fin n p S hS hb (by omega) c hf (Option.some.inj hv).symm
    · rw [if_neg c] at hv
      have hN4 := hC.2.1
      have hp := hC.2.2.2 p p0 (by omega)
      have hI1 := hI.1 p p0 (by omega)
      have hpn : pushN K (p + 1).toNat = pushN K p.toNat + (if K p = 0 ∨ K p = 1 then 1 else 0) := by
        rw [show (p + 1).toNat = p.toNat + 1 by omega]
        show pushN K p.toNat + (if K ((p.toNat : Nat) : Int) = 0 ∨ K ((p.toNat : Nat) : Int) = 1 then 1 else 0) = _
        rw [show ((p.toNat : Nat) : Int) = p by omega]
      have hm1 := pushN_mono (K := K) (a := (p + 1).toNat) (b := NS.toNat) (by omega)
      refine gX0_work_13 ⟨fun z => absurd z c, fun _ => ⟨fun z => absurd hb z, fun _ => EI.use (s_valueOf p0 (by omega)) (EI.use (s_kindOf p0 (by omega)) ?_)⟩⟩
      rw [hI1.1, hI1.2]
      refine ⟨fun k0 => ?_, fun k1 => ?_, fun k9 => ?_, fun k10 => ?_, fun k11 => ?_, fun k0 k1 k9 k10 k11 => ?_⟩
      · have hs : cstep K V W p S = some (some (p + 1, V p :: S)) := if_pos k0
        rw [hs] at hv
        rw [if_pos (Or.inl k0)] at hpn
        have hV := hp.2.2.1 k0
        exact EV.usP (s_push hS (by omega) ⟨by omega, by omega⟩) (fun n1 z => ⟨⟨by omega, by omega⟩, ih n1 (p + 1) _ (hI.fr z.2.1) z.1 (z.2.2.trans hb) (by rw [List.length_cons]; omega) (by omega) (by omega) (hf.tr z.2.1) hv⟩)
      · have hs : cstep K V W p S = some (some (p + 1, W (V p) :: S)) := by
          unfold cstep
          rw [if_neg (by omega), if_pos k1]
        rw [hs] at hv
        rw [if_pos (Or.inr k1)] at hpn
        have hV := hp.2.2.2.1 k1
        have hW := hI.2 (V p) hV.1 (by omega)
        have wa : EI w (d + 3) mX0_wordAt [vr 47, vi (V p)] B0 n (W (V p)) n := EI.of (by decide +kernel) (Nat.le_of_ble_eq_true rfl) rfl (fun _ G => gX0_wordAt_0 ⟨fun z => absurd z (by omega), fun _ => ⟨fun z => absurd z (by omega), fun _ => ⟨hV.1, by omega, by rw [hW.1], rfl⟩⟩⟩)
        exact EI.use wa (EV.usP (s_push hS (by omega) hW.2) (fun n1 z => ⟨⟨by omega, by omega⟩, ih n1 (p + 1) _ (hI.fr z.2.1) z.1 (z.2.2.trans hb) (by rw [List.length_cons]; omega) (by omega) (by omega) (hf.tr z.2.1) hv⟩))
      · match S, hS, hl, hv with
        | [], hS, hl, hv =>
          have hs : cstep K V W p [] = none := by
            unfold cstep
            rw [if_neg (by omega), if_neg (by omega), if_pos k9]
          rw [hs] at hv
          cases hv
        | x :: S', hS, hl, hv =>
          have hs : cstep K V W p (x :: S') = some (some (p + 1, (if x = 0 then 1 else 0) :: S')) := by
            unfold cstep
            rw [if_neg (by omega), if_neg (by omega), if_pos k9]
          rw [hs] at hv
          rw [List.length_cons] at hl
          rw [if_neg (by omega)] at hpn
          refine EI.usP (s_pop hS (by omega)) (fun x1 n1 z zz ez => ?_)
          obtain ⟨rfl, z1, z2, z3⟩ := z
          have ez2 : zz = (if x1 = 0 then 1 else 0) := by
            rw [ez]
            by_cases c : x1 = 0
            · rw [if_pos c, if_neg (by omega)]
            · rw [if_neg c, if_pos c]
          rw [ez2]
          refine EV.usP (s_push z1 (by omega) (by split <;> exact ⟨by decide, by decide⟩)) (fun n2 u => ⟨⟨by omega, by omega⟩, ih n2 (p + 1) _ (hI.fr (z2.tr u.2.1)) u.1 (u.2.2.trans (z3.trans hb)) (by rw [List.length_cons]; omega) (by omega) (by omega) (hf.tr (z2.tr u.2.1)) hv⟩)
      · have hV := hp.2.2.2.2 (Or.inl k10)
        match S, hS, hl, hv with
        | [], hS, hl, hv =>
          have hs : cstep K V W p [] = none := by
            unfold cstep
            rw [if_neg (by omega), if_neg (by omega), if_neg (by omega), if_pos k10]
          rw [hs] at hv
          cases hv
        | x :: S', hS, hl, hv =>
          have hs : cstep K V W p (x :: S') = if x ≠ 0 then some (some (V p, x :: S')) else some (some (p + 1, S')) := by
            unfold cstep
            rw [if_neg (by omega), if_neg (by omega), if_neg (by omega), if_pos k10]
          rw [hs] at hv
          rw [List.length_cons] at hl
          rw [if_neg (by omega)] at hpn
          refine EI.use (s_top hS (by omega)) (fun zz ez => ?_)
          by_cases c : x = 0
          · rw [if_neg (not_not_intro c)] at hv
            rw [if_pos c] at ez
            rw [ez]
            refine EI.usP (s_afterSkip0 hS (by omega)) (fun x1 n1 z => ?_)
            obtain ⟨rfl, z1, z2, z3⟩ := z
            exact ⟨⟨by omega, by omega⟩, ih n1 _ _ (hI.fr z2) z1 (z3.trans hb) (by omega) (by omega) (by omega) (hf.tr z2) hv⟩
          · rw [if_pos c] at hv
            rw [if_neg c] at ez
            rw [ez]
            have hmV := pushN_mono (K := K) (a := p.toNat) (b := (V p).toNat) (by omega)
            refine EI.use (s_afterSkip1 hV.1 (by omega) p0) ⟨⟨by omega, by omega⟩, ?_⟩
            rw [show V p - 1 + 1 = V p by omega]
            exact ih n _ _ hI hS hb (by rw [List.length_cons]; omega) (by omega) hV.2 hf hv
      · have hV := hp.2.2.2.2 (Or.inr k11)
        match S, hS, hl, hv with
        | [], hS, hl, hv =>
          have hs : cstep K V W p [] = none := by
            unfold cstep
            rw [if_neg (by omega), if_neg (by omega), if_neg (by omega), if_neg (by omega), if_pos k11]
          rw [hs] at hv
          cases hv
        | x :: S', hS, hl, hv =>
          have hs : cstep K V W p (x :: S') = if x = 0 then some (some (V p, x :: S')) else some (some (p + 1, S')) := by
            unfold cstep
            rw [if_neg (by omega), if_neg (by omega), if_neg (by omega), if_neg (by omega), if_pos k11]
          rw [hs] at hv
          rw [List.length_cons] at hl
          rw [if_neg (by omega)] at hpn
          refine EI.use (s_top hS (by omega)) (fun zz ez => ?_)
          by_cases c : x = 0
          · rw [if_pos c] at hv
            rw [if_neg (not_not_intro c)] at ez
            rw [ez]
            have hmV := pushN_mono (K := K) (a := p.toNat) (b := (V p).toNat) (by omega)
            refine EI.use (s_afterSkip1 hV.1 (by omega) p0) ⟨⟨by omega, by omega⟩, ?_⟩
            rw [show V p - 1 + 1 = V p by omega]
            exact ih n _ _ hI hS hb (by rw [List.length_cons]; omega) (by omega) hV.2 hf hv
          · rw [if_neg c] at hv
            rw [if_pos c] at ez
            rw [ez]
            refine EI.usP (s_afterSkip0 hS (by omega)) (fun x1 n1 z => ?_)
            obtain ⟨rfl, z1, z2, z3⟩ := z
            exact ⟨⟨by omega, by omega⟩, ih n1 _ _ (hI.fr z2) z1 (z3.trans hb) (by omega) (by omega) (by omega) (hf.tr z2) hv⟩
      · rw [if_neg (by omega)] at hpn
        match S, hS, hl, hv with
        | [], hS, hl, hv =>
          have hs : cstep K V W p [] = none := by
            unfold cstep
            rw [if_neg k0, if_neg k1, if_neg k9, if_neg k10, if_neg k11]
          rw [hs] at hv
          cases hv
        | [x], hS, hl, hv =>
          have hs : cstep K V W p [x] = none := by
            unfold cstep
            rw [if_neg k0, if_neg k1, if_neg k9, if_neg k10, if_neg k11]
          rw [hs] at hv
          cases hv
        | y :: x :: S', hS, hl, hv =>
          have hs : cstep K V W p (y :: x :: S') = some ((binZ (K p) x y).map (fun z => (p + 1, z :: S'))) := by
            unfold cstep
            rw [if_neg k0, if_neg k1, if_neg k9, if_neg k10, if_neg k11]
          rw [hs] at hv
          rw [List.length_cons, List.length_cons] at hl
          refine EV.usP (s_join hS (by omega) (by omega) (by omega)) (fun n1 z => ⟨⟨by omega, by omega⟩, ?_⟩)
          have hv2 : (match some ((binZ (K p) x y).map (fun z => (p + 1, z :: S'))) with
            | none => none
            | some none => some none
            | some (some (p', S')) => vmz (cstep K V W) f p' q S') = some o := hv
          have zf := z.1
          have z2 := z.2
          cases hz : binZ (K p) x y with
          | none =>
            rw [hz] at hv2 z2
            have ho : o = none := (Option.some.inj hv2).symm
            subst ho
            have z3 : n1 47 2 = 1 ∧ 0 ≤ n1 47 1 ∧ n1 47 1 ≤ 64 := z2
            have last : Ev w (d + 3) 0 0 mX0_pop [vr 47] (B0, n1) (fun r h' => ∃ (x1 : Int) (n2 : NM), r = some (vi x1) ∧ h' = (B0, n2) ∧ ∃ (x1' : Int) (n1' : NM), some (vi x1) = some (vi x1') ∧ ((B0, n2) : Hp) = (B0, n1') ∧ WkP n0 none x1' n1') := EI.usP (s_popB z3.2.1 z3.2.2) (fun x1 n2 u => ⟨_, _, rfl, rfl, hf.tr (zf.tr u.1), u.2.trans z3.1⟩)
            exact gX0_work_13 ⟨fun _ => last, fun _ => ⟨fun _ => last, fun c => absurd c (by rw [z3.1]; decide)⟩⟩
          | some v =>
            rw [hz] at hv2 z2
            have z3 : CSt n1 (v :: S') ∧ n1 47 2 = n 47 2 := z2
            exact ih n1 (p + 1) (v :: S') (hI.fr zf) z3.1 (z3.2.trans hb) (by rw [List.length_cons]; omega) (by omega) (by omega) (hf.tr zf) hv2
end VMC
