section SPEC0
variable {w : WD} {m : MI} {d d' mc ms : Nat} {G : GM} {Q Q' : Option AV → Hp → Prop} {pc : Nat} {ls : List (Nat × AV)} {st : List AV} {h : Hp}
theorem room_mono {s : State} {pl : Platform} {d d' mc ms : Nat} (hd : d ≤ d') (h : s.hasRoom pl { frames := d', cells := mc, slots := ms, locals := 64 * d' } = true) : s.hasRoom pl { frames := d, cells := mc, slots := ms, locals := 64 * d } = true := by
  simp only [State.hasRoom, Bool.and_eq_true, decide_eq_true_eq] at h ⊢
  and_intros
  all_goals first | omega | grind
theorem Ev.deep {q : MI} {args : List AV} {P : Option AV → Hp → Prop} (hd : d ≤ d') (E : Ev w d mc ms q args h P) : Ev w d' mc ms q args h P := by
  intro p e ha hc hk s mm aa below hf happ hpc hkk
  refine E p e ha hc hk s mm aa below hf ?_ hpc hkk
  simp only [Spec.appliesLoose, hf, Bool.and_eq_true] at happ ⊢
  exact ⟨⟨happ.1.1, room_mono hd happ.1.2⟩, happ.2⟩
theorem Rn.weak (hq : ∀ v h', Q v h' → Q' v h') (k : Rn w m d G Q pc ls st h) : Rn w m d G Q' pc ls st h := by
  intro C
  refine k ⟨C.1, C.2.1, C.2.2.1, C.2.2.2.1, C.2.2.2.2.1, C.2.2.2.2.2.1, C.2.2.2.2.2.2.1, C.2.2.2.2.2.2.2.1, C.2.2.2.2.2.2.2.2.1, C.2.2.2.2.2.2.2.2.2.1, C.2.2.2.2.2.2.2.2.2.2.1, C.2.2.2.2.2.2.2.2.2.2.2.1, ?_⟩
  intro h' H locs cells slots pc L hR
  obtain ⟨a1, a2, a3, a4⟩ := C.2.2.2.2.2.2.2.2.2.2.2.2 h' H locs cells slots pc L hR
  exact ⟨fun x rt q => a1 x rt (hq _ _ q), fun x q => a2 x (hq _ _ q), fun a rt q => a3 a rt (hq _ _ q), fun q => a4 (hq _ _ q)⟩
/-- a call that makes nothing: the base stays -/
theorem Ev.ofB {B : HB} {n : NM} {args : List AV} (hy : plainName m.1.cls = true) (hn : (lg_sl (args.map (enc w))).length ≤ m.2.2.1) (hl : av_args 0 args = ls) (hq : ∀ r h', Q r h' → h'.1 = B)
    (body : (∀ x ∈ args, okV x) → ∀ G : GM, Rn w m d G Q 0 ls [] (B, n)) : Ev w d 0 0 m args (B, n) Q := by
  refine Ev.of hy hn hl (fun ho G _ _ => Rn.weak (fun v h' z => ⟨z, ?_, ?_⟩) (body ho G))
  · rw [hq v h' z]
    rfl
  · rw [hq v h' z]
    rfl
abbrev EI (w : WD) (d : Nat) (q : MI) (args : List AV) (B : HB) (n : NM) (x : Int) (n' : NM) : Prop := Ev w d 0 0 q args (B, n) (fun r h' => r = some (vi x) ∧ h' = (B, n'))
abbrev EL (w : WD) (d : Nat) (q : MI) (args : List AV) (B : HB) (n : NM) (x : Int) (n' : NM) : Prop := Ev w d 0 0 q args (B, n) (fun r h' => r = some (vl x) ∧ h' = (B, n'))
abbrev EV (w : WD) (d : Nat) (q : MI) (args : List AV) (B : HB) (n : NM) (n' : NM) : Prop := Ev w d 0 0 q args (B, n) (fun r h' => r = none ∧ h' = (B, n'))
theorem EI.of {B : HB} {n n' : NM} {x : Int} {args : List AV} (hy : plainName m.1.cls = true) (hn : (lg_sl (args.map (enc w))).length ≤ m.2.2.1) (hl : av_args 0 args = ls)
    (body : (∀ x ∈ args, okV x) → ∀ G : GM, Rn w m d G (fun r h' => r = some (vi x) ∧ h' = (B, n')) 0 ls [] (B, n)) : EI w d m args B n x n' := Ev.ofB hy hn hl (fun _ _ z => by rw [z.2]) body
theorem EL.of {B : HB} {n n' : NM} {x : Int} {args : List AV} (hy : plainName m.1.cls = true) (hn : (lg_sl (args.map (enc w))).length ≤ m.2.2.1) (hl : av_args 0 args = ls)
    (body : (∀ x ∈ args, okV x) → ∀ G : GM, Rn w m d G (fun r h' => r = some (vl x) ∧ h' = (B, n')) 0 ls [] (B, n)) : EL w d m args B n x n' := Ev.ofB hy hn hl (fun _ _ z => by rw [z.2]) body
theorem EV.of {B : HB} {n n' : NM} {args : List AV} (hy : plainName m.1.cls = true) (hn : (lg_sl (args.map (enc w))).length ≤ m.2.2.1) (hl : av_args 0 args = ls)
    (body : (∀ x ∈ args, okV x) → ∀ G : GM, Rn w m d G (fun r h' => r = none ∧ h' = (B, n')) 0 ls [] (B, n)) : EV w d m args B n n' := Ev.ofB hy hn hl (fun _ _ z => by rw [z.2]) body
theorem EI.use {B : HB} {n n' : NM} {x : Int} {args : List AV} {V : Int → NM → Prop} (E : EI w d m args B n x n') (hv : V x n') : Ev w d 0 0 m args (B, n) (fun r h' => ∃ (x1 : Int) (n1 : NM), r = some (vi x1) ∧ h' = (B, n1) ∧ V x1 n1) :=
  Ev.mono E (fun r h' z => ⟨x, n', z.1, z.2, hv⟩)
theorem EL.use {B : HB} {n n' : NM} {x : Int} {args : List AV} {V : Int → NM → Prop} (E : EL w d m args B n x n') (hv : V x n') : Ev w d 0 0 m args (B, n) (fun r h' => ∃ (x1 : Int) (n1 : NM), r = some (vl x1) ∧ h' = (B, n1) ∧ V x1 n1) :=
  Ev.mono E (fun r h' z => ⟨x, n', z.1, z.2, hv⟩)
theorem EV.use {B : HB} {n n' : NM} {args : List AV} {V : NM → Prop} (E : EV w d m args B n n') (hv : V n') : Ev w d 0 0 m args (B, n) (fun r h' => ∃ n1 : NM, r = none ∧ h' = (B, n1) ∧ V n1) :=
  Ev.mono E (fun r h' z => ⟨n', z.1, z.2, hv⟩)
end SPEC0
theorem upn_ap (n : NM) (a : Nat) (i v : Int) (b : Nat) (j : Int) : upn n a i v b j = if b = a ∧ j = i then v else n b j := rfl
theorem upn_self (n : NM) (a : Nat) (i v : Int) : upn n a i v a i = v := by simp [upn]
theorem upn_a {n : NM} {a b : Nat} {i v j : Int} (h : b ≠ a) : upn n a i v b j = n b j := by simp [upn, h]
theorem upn_i {n : NM} {a b : Nat} {i v j : Int} (h : j ≠ i) : upn n a i v b j = n b j := by simp [upn, h]
/-- a table: its own numbers -/
def TW (n : NM) (t : Nat) (W R : Int) : Prop := n t 1 = W ∧ n t 2 = R ∧ 0 ≤ n t 3 ∧ n t 3 ≤ R
section TABLE
variable {w : WD} {d : Nat} {B : HB} {n : NM} {t c L : Nat}
theorem s_size (ot : Obj B t 7 4) (rt : rf B t 0 = some c) (oc : Obj B c 100 L) : EI w d mX7_size [vr t] B n (n t 3) n :=
  EI.of (by decide +kernel) (Nat.le_of_ble_eq_true rfl) rfl (fun _ G => gX7_size_0 ot rt oc ⟨rfl, rfl⟩)
theorem s_isFull (ot : Obj B t 7 4) (rt : rf B t 0 = some c) (oc : Obj B c 100 L) : EI w d mX7_isFull [vr t] B n (if n t 2 ≤ n t 3 then 1 else 0) n := by
  refine EI.of (by decide +kernel) (Nat.le_of_ble_eq_true rfl) rfl (fun _ G => gX7_isFull_0 ot rt oc ⟨fun c => ⟨?_, rfl⟩, fun c => ⟨?_, rfl⟩⟩)
  · rw [if_neg (by omega)]
  · rw [if_pos c]
theorem s_holds (ot : Obj B t 7 4) (rt : rf B t 0 = some c) (oc : Obj B c 100 L) (x : Int) : EI w d mX7_holds [vr t, vi x] B n (if 0 ≤ x ∧ x < n t 3 then 1 else 0) n := by
  refine EI.of (by decide +kernel) (Nat.le_of_ble_eq_true rfl) rfl (fun _ G => gX7_holds_0 ot rt oc ⟨fun c => ⟨?_, rfl⟩, fun c => ⟨fun c => ⟨?_, rfl⟩, fun c => ⟨?_, rfl⟩⟩⟩)
  · rw [if_neg (by omega)]
  · rw [if_neg (by omega)]
  · rw [if_pos (by omega)]
theorem s_isCell (ot : Obj B t 7 4) (rt : rf B t 0 = some c) (oc : Obj B c 100 L) (x y : Int) : EI w d mX7_isCell [vr t, vi x, vi y] B n (if 0 ≤ x ∧ x < n t 3 ∧ 0 ≤ y ∧ y < n t 1 then 1 else 0) n := by
  refine EI.of (by decide +kernel) (Nat.le_of_ble_eq_true rfl) rfl (fun _ G => gX7_isCell_0 ot rt oc ⟨fun c => ⟨?_, rfl⟩, fun c => ⟨fun c => ⟨?_, rfl⟩, fun c => ⟨fun c => ⟨?_, rfl⟩, fun c => ⟨fun c => ⟨?_, rfl⟩, fun c => ⟨?_, rfl⟩⟩⟩⟩⟩)
  · rw [if_neg (by omega)]
  · rw [if_neg (by omega)]
  · rw [if_neg (by omega)]
  · rw [if_neg (by omega)]
  · rw [if_pos (by omega)]
theorem cell_in {i j W R : Int} (h0 : 0 ≤ i) (h1 : i < R) (h2 : 0 ≤ j) (h3 : j < W) : 0 ≤ i * W + j ∧ i * W + j < R * W ∧ 0 ≤ i * W ∧ i * W ≤ R * W := by
  have a1 : 0 ≤ i * W := Int.mul_nonneg h0 (by omega)
  have a2 : (i + 1) * W ≤ R * W := Int.mul_le_mul_of_nonneg_right (by omega) (by omega)
  rw [Int.add_mul] at a2
  omega
/-- what a table's cell holds; 0 where there is none -/
def tg (n : NM) (t c : Nat) (i j : Int) : Int := if 0 ≤ i ∧ i < n t 3 ∧ 0 ≤ j ∧ j < n t 1 then n c (i * n t 1 + j) else 0
/-- a table behind a write -/
def tset (n : NM) (t c : Nat) (i j v : Int) : NM := if 0 ≤ i ∧ i < n t 3 ∧ 0 ≤ j ∧ j < n t 1 then upn n c (i * n t 1 + j) v else n
theorem s_get (ot : Obj B t 7 4) (rt : rf B t 0 = some c) (oc : Obj B c 100 L) {W R : Int} (hT : TW n t W R) (hL : R * W = (L : Int)) (hL2 : (L : Int) ≤ 100000) (x y : Int) : EI w (d + 1) mX7_get [vr t, vi x, vi y] B n (tg n t c x y) n := by
  obtain ⟨e1, e2, e3, e4⟩ := hT
  refine EI.of (by decide +kernel) (Nat.le_of_ble_eq_true rfl) rfl (fun _ G => gX7_get_0 ot rt oc (EI.use (s_isCell ot rt oc x y) ⟨fun q => ⟨?_, rfl⟩, fun q => ?_⟩))
  · by_cases hc : 0 ≤ x ∧ x < n t 3 ∧ 0 ≤ y ∧ y < n t 1
    · rw [if_pos hc] at q
      cases q
    · rw [tg, if_neg hc]
  · by_cases hc : 0 ≤ x ∧ x < n t 3 ∧ 0 ≤ y ∧ y < n t 1
    · have hh := cell_in (i := x) (j := y) (W := n t 1) (R := R) hc.1 (by omega) hc.2.2.1 hc.2.2.2
      rw [e1] at hh
      rw [tg, if_pos hc, e1]
      exact ⟨⟨by omega, by omega⟩, ⟨by omega, by omega⟩, by omega, by omega, rfl, rfl⟩
    · rw [if_neg hc] at q
      exact absurd rfl q
theorem s_set (ot : Obj B t 7 4) (rt : rf B t 0 = some c) (oc : Obj B c 100 L) {W R : Int} (hT : TW n t W R) (hL : R * W = (L : Int)) (hL2 : (L : Int) ≤ 100000) (x y v : Int) : EV w (d + 1) mX7_set [vr t, vi x, vi y, vi v] B n (tset n t c x y v) := by
  obtain ⟨e1, e2, e3, e4⟩ := hT
  refine EV.of (by decide +kernel) (Nat.le_of_ble_eq_true rfl) rfl (fun _ G => gX7_set_0 ot rt oc (EI.use (s_isCell ot rt oc x y) ⟨fun q => ⟨rfl, ?_⟩, fun q => ?_⟩))
  · by_cases hc : 0 ≤ x ∧ x < n t 3 ∧ 0 ≤ y ∧ y < n t 1
    · rw [if_pos hc] at q
      cases q
    · rw [tset, if_neg hc]
  · by_cases hc : 0 ≤ x ∧ x < n t 3 ∧ 0 ≤ y ∧ y < n t 1
    · have hh := cell_in (i := x) (j := y) (W := n t 1) (R := R) hc.1 (by omega) hc.2.2.1 hc.2.2.2
      rw [e1] at hh
      rw [tset, if_pos hc, e1]
      exact ⟨⟨by omega, by omega⟩, ⟨by omega, by omega⟩, by omega, by omega, rfl, rfl⟩
    · rw [if_neg hc] at q
      exact absurd rfl q
end TABLE
