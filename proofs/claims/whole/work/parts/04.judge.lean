def gT : List Cond := lw_tbl.filter goodWord
theorem gT_in {w : Cond} (h : w ∈ lw_tbl) (g : goodWord w = true) : w ∈ gT := List.mem_filter.mpr ⟨h, g⟩
theorem gT_sub {w : Cond} (h : w ∈ gT) : w ∈ lw_tbl := (List.mem_filter.mp h).1
theorem gT_good {w : Cond} (h : w ∈ gT) : goodWord w = true := (List.mem_filter.mp h).2
def nestW : List Cond := [.methodLinkNest RX1 40 yX2_init RX11, .methodLinkNest RX11 26 yX8_init RX11, .methodLinkNest RX11 33 yX3_init RX11, .methodLinkNest RX3 11 yX9_init RX11, .methodLinkNest RX3 20 yX2_init RX11, .methodLinkNest RX11 40 yX0_init RX11, .methodLinkNest RX6 17 yX4_init RX11, .methodLinkNest RX11 54 yX5_init RX11, .methodLinkNest RX11 61 yX10_init RX11, .methodLinkNest RX1 77 yX11_within RX11, .methodLinkNest RX9 53 yX11_within RX11, .methodLinkNest RX3 59 yX11_within RX11]
theorem nestW_in : ∀ x ∈ nestW, x ∈ lw_tbl := by decide +kernel
def strT : String := "wake beast log bent made grow humps length wind bend news gone place minute late if or and not"
def strB : List Int32 := [119, 97, 107, 101, 32, 98, 101, 97, 115, 116, 32, 108, 111, 103, 32, 98, 101, 110, 116, 32, 109, 97, 100, 101, 32, 103, 114, 111, 119, 32, 104, 117, 109, 112, 115, 32, 108, 101, 110, 103, 116, 104, 32, 119, 105, 110, 100, 32, 98, 101, 110, 100, 32, 110, 101, 119, 115, 32, 103, 111, 110, 101, 32, 112, 108, 97, 99, 101, 32, 109, 105, 110, 117, 116, 101, 32, 108, 97, 116, 101, 32, 105, 102, 32, 111, 114, 32, 97, 110, 100, 32, 110, 111, 116]
def StrOk (w : WD) (U : State) : Prop :=
  vk_R RX9 64 strT (wS w) U ∧ vk_S 1 [94] [strB] (fun _ => wS w) (fun _ => wV w) (fun q => w0 w ≤ q) U (wH w) ∧ va_Z "java/lang/String" "COMPACT_STRINGS" "Z" (.int 1) (fun q => w0 w ≤ q) U (wH w) ∧
  va_Z "jdk/internal/util/Preconditions" "SIOOBE_FORMATTER" "Ljava/util/function/BiFunction;" (wF w) (fun q => w0 w ≤ q) U (wH w) ∧ (wF w = .null ∨ ∃ t : Nat, wF w = .ref t)
def KOk (w : WD) (U : State) : Prop :=
  va_K (wC w, wI w) vwCl (tysA w) U ∧ (∀ x ∈ nestW, va_Nw x U) ∧ (va_AO "LakeWatch$Lake" U ∧ va_AO "LakeWatch$Natural" U) ∧ StrOk w U ∧ va_X (wB w) (wN w) (wX w) U (wH w)
theorem KOk.warm {w : WD} {s U : State} (hW : s.WarmedH U.vm) (h : KOk w s) : KOk w U := by
  have hA := hW.alike
  refine ⟨va_K.moved hA h.1, fun x hx => ?_, ⟨va_AO.moved hA h.2.2.1.1, va_AO.moved hA h.2.2.1.2⟩, ⟨vk_R.warm hW h.2.2.2.1.1, vk_S.moved hA h.2.2.2.1.2.1, ?_, ?_, h.2.2.2.1.2.2.2.2⟩, va_X.moved hA h.2.2.2.2⟩
  · have h1 := h.2.1 x hx
    simp only [nestW, List.mem_cons, List.not_mem_nil, or_false] at hx
    rcases hx with rfl | rfl | rfl | rfl | rfl | rfl | rfl | rfl | rfl | rfl | rfl | rfl <;> exact va_Nw.warmM hW h1
  · exact h.2.2.2.1.2.2.1.moved hA
  · exact h.2.2.2.1.2.2.2.1.moved hA
theorem KOk.same {w : WD} {s U : State} (hv : s.vm = U.vm) (h : KOk w s) : KOk w U := by
  have hA : s.vm.Alike U.vm := by rw [hv]; exact Vm.Alike.refl _
  refine ⟨va_K.moved hA h.1, fun x hx => ?_, ⟨va_AO.moved hA h.2.2.1.1, va_AO.moved hA h.2.2.1.2⟩, ⟨vk_R.same hv.symm h.2.2.2.1.1, vk_S.moved hA h.2.2.2.1.2.1, ?_, ?_, h.2.2.2.1.2.2.2.2⟩, va_X.moved hA h.2.2.2.2⟩
  · have h1 := h.2.1 x hx
    simp only [nestW, List.mem_cons, List.not_mem_nil, or_false] at hx
    rcases hx with rfl | rfl | rfl | rfl | rfl | rfl | rfl | rfl | rfl | rfl | rfl | rfl <;> exact va_Nw.same rfl hv h1
  · exact h.2.2.2.1.2.2.1.moved hA
  · exact h.2.2.2.1.2.2.2.1.moved hA
/-- a method: its name, its bytes, its locals, what it returns -/
abbrev MI : Type := MethodName × ByteArray × Nat × Option FieldType
abbrev GM : Type := Program × Env × Room × State × MethodId × Array Value × List Frame × Method × Code × (State → Prop) × Nat × Nat × Nat × Nat
abbrev gp (G : GM) : Program := G.1
abbrev ge (G : GM) : Env := G.2.1
abbrev gR (G : GM) : Room := G.2.2.1
abbrev gs (G : GM) : State := G.2.2.2.1
abbrev gm (G : GM) : MethodId := G.2.2.2.2.1
abbrev ga (G : GM) : Array Value := G.2.2.2.2.2.1
abbrev gb (G : GM) : List Frame := G.2.2.2.2.2.2.1
abbrev gme (G : GM) : Method := G.2.2.2.2.2.2.2.1
abbrev gc (G : GM) : Code := G.2.2.2.2.2.2.2.2.1
abbrev gZ (G : GM) : State → Prop := G.2.2.2.2.2.2.2.2.2.1
abbrev gz0 (G : GM) : Nat := G.2.2.2.2.2.2.2.2.2.2.1
abbrev gu0 (G : GM) : Nat := G.2.2.2.2.2.2.2.2.2.2.2.1
abbrev gcz (G : GM) : Nat := G.2.2.2.2.2.2.2.2.2.2.2.2.1
abbrev gcu (G : GM) : Nat := G.2.2.2.2.2.2.2.2.2.2.2.2.2
abbrev Wg (w : WD) (G : GM) (H : Heap) (locs : List Loc) (cells slots : Nat) (g : JFrame) : Prop := W (gp G) (wL w) (ge G) (gR G) (gs G) (gm G) (ga G) (gb G) (gme G) (gc G) H locs cells slots (gZ G) g
/-- the state of the machine in a frame: what the abstract state says of it -/
def Rep (w : WD) (G : GM) (h : Hp) (H : Heap) (locs : List Loc) (cells slots : Nat) : Prop :=
  RepH w h H ∧ (∀ q ∈ locs, w0 w ≤ q.base) ∧ cells + gz0 G = hz h.1 ∧ slots + gu0 G = hu h.1 ∧ hz h.1 ≤ gcz G ∧ hu h.1 ≤ gcu G
/-- an end: with the value v -/
def Ret (w : WD) (m : MI) (G : GM) (Q : Option AV → Hp → Prop) : Prop :=
  ∀ (h : Hp) (H : Heap) (locs : List Loc) (cells slots pc : Nat) (L : Array Slot), Rep w G h H locs cells slots →
    (∀ (x : Int) (rt : FieldType), Q (some (vi x)) h → inI x → m.2.2.2 = some rt → narrow rt (.int (Int32.ofInt x)) = .int (Int32.ofInt x) → decode m.2.1 pc = .ok (.ireturn, 1) → Wg w G H locs cells slots (F0 (gm G) pc L [.int (Int32.ofInt x)])) ∧
    (∀ (x : Int), Q (some (vl x)) h → inJ x → m.2.2.2 = some .long → decode m.2.1 pc = .ok (.lreturn, 1) → Wg w G H locs cells slots (F0 (gm G) pc L [.long (Int64.ofInt x)])) ∧
    (∀ (a : Nat) (rt : FieldType), Q (some (vr a)) h → m.2.2.2 = some rt → ((∃ n, rt = .object n) ∨ ∃ t, rt = .array t) → decode m.2.1 pc = .ok (.areturn, 1) → Wg w G H locs cells slots (F0 (gm G) pc L [.ref (w0 w + a)])) ∧
    (Q none h → m.2.2.2 = none → decode m.2.1 pc = .ok (.return_, 1) → Wg w G H locs cells slots (F0 (gm G) pc L []))
def Ctx (w : WD) (m : MI) (d : Nat) (G : GM) (Q : Option AV → Hp → Prop) : Prop :=
  (gp G).tables.exec = Jvm.exec ∧ (gc G).code = m.2.1 ∧ (gc G).maxLocals = m.2.2.1 ∧ (gme G).sig.returnType = m.2.2.2 ∧ (gme G).locks = false ∧ (gme G).name = m.1.name ∧ (gs G).vm.findClass m.1.cls = some (gm G).cls ∧ (∀ x ∈ gT, x.before (ga G) (gs G) = true) ∧ KOk w (gs G) ∧
  (d ≤ (gR G).frames ∧ 64 * d ≤ (gR G).locals) ∧ ((gs G).heap.size = w0 w + gz0 G ∧ ∀ q : Nat, q < w0 w → (gs G).heap[q]? = (wH w)[q]?) ∧ (gcz G ≤ (gR G).cells + gz0 G ∧ gcu G ≤ (gR G).slots + gu0 G) ∧ Ret w m G Q
def encl (w : WD) (ls : List (Nat × AV)) : List (Nat × Value) := ls.map (fun q => (q.1, enc w q.2))
def Rn (w : WD) (m : MI) (d : Nat) (G : GM) (Q : Option AV → Hp → Prop) (pc : Nat) (ls : List (Nat × AV)) (st : List AV) (h : Hp) : Prop :=
  Ctx w m d G Q → ∀ (H : Heap) (L : Array Slot) (locs : List Loc) (cells slots : Nat), Rep w G h H locs cells slots → lv_has L m.2.2.1 (encl w ls) → (∀ q ∈ ls, okV q.2) → (∀ x ∈ st, okV x) → Wg w G H locs cells slots (F0 (gm G) pc L (st.map (enc w)))
def wsM (m : MI) : List Cond := .code m.1 m.2.1 m.2.2.1 m.2.2.2 :: gT
def PC (w : WD) (args : List AV) (h : Hp) : Array Value → State → Prop := fun v U => v = (args.map (enc w)).toArray ∧ RepH w h U.heap ∧ KOk w U ∧ (∀ x ∈ args, okV x)
def okO : Option AV → Prop
  | some x => okV x
  | none => True
def QC (w : WD) (mc ms : Nat) (h : Hp) (Q : Option AV → Hp → Prop) : Array Value → State → Outcome → State → Prop := fun _ _ o t =>
  ∃ (r : Option AV) (h' : Hp), o = .returned (r.map (enc w)) ∧ okO r ∧ RepH w h' t.heap ∧ Q r h' ∧ hz h'.1 = hz h.1 + mc ∧ hu h'.1 = hu h.1 + ms
/-- a method, called: from every start it returns, with Q -/
def Ev (w : WD) (d mc ms : Nat) (m : MI) (args : List AV) (h : Hp) (Q : Option AV → Hp → Prop) : Prop :=
  Met (wL w) m.1 (wsM m) { frames := d, cells := mc, slots := ms, locals := 64 * d } (PC w args h) (QC w mc ms h Q) mc ms (fun q => w0 w ≤ q)
def av_args : Nat → List AV → List (Nat × AV)
  | _, [] => []
  | i, .inr (.inl x) :: vs => (i, .inr (.inl x)) :: av_args (i + 2) vs
  | i, v :: vs => (i, v) :: av_args (i + 1) vs
theorem enc_cat1 (w : WD) (h : wF w = .null ∨ ∃ t : Nat, wF w = .ref t) : ∀ v : AV, (∀ x, v ≠ .inr (.inl x)) → (enc w v).category = 1 := by
  intro v hv
  match v, hv with
  | .inl x, _ => rfl
  | .inr (.inl x), hv => exact absurd rfl (hv x)
  | .inr (.inr (.inl a)), _ => rfl
  | .inr (.inr (.inr 0)), _ => rfl
  | .inr (.inr (.inr 1)), _ => rfl
  | .inr (.inr (.inr 2)), _ => rfl
  | .inr (.inr (.inr 3)), _ =>
    show (wF w).category = 1
    rcases h with h | ⟨t, h⟩ <;> rw [h] <;> rfl
  | .inr (.inr (.inr (k + 4))), _ => rfl
theorem av_args_enc (w : WD) (h : wF w = .null ∨ ∃ t : Nat, wF w = .ref t) : ∀ (args : List AV) (i : Nat), lv_args i (args.map (enc w)) = encl w (av_args i args) := by
  intro args
  induction args with
  | nil => intro i; rfl
  | cons v vs ih =>
    intro i
    match v with
    | .inr (.inl x) =>
      show (i, _) :: lv_args _ _ = _
      rw [if_pos (show (enc w (Sum.inr (Sum.inl x))).category = 2 from rfl), ih]
      rfl
    | .inl x =>
      show (i, _) :: lv_args _ _ = _
      rw [if_neg (by rw [enc_cat1 w h _ (fun x q => by cases q)]; decide), ih]
      rfl
    | .inr (.inr z) =>
      show (i, _) :: lv_args _ _ = _
      rw [if_neg (by rw [enc_cat1 w h _ (fun x q => by cases q)]; decide), ih]
      rfl
theorem Ev.of2 {w : WD} {d mc ms : Nat} {m : MI} {args : List AV} {h : Hp} {Q : Option AV → Hp → Prop} {ls : List (Nat × AV)} (hy : plainName m.1.cls = true) (hn : (wF w = .null ∨ ∃ t : Nat, wF w = .ref t) → (lg_sl (args.map (enc w))).length ≤ m.2.2.1) (hl : av_args 0 args = ls)
    (body : (∀ x ∈ args, okV x) → ∀ G : GM, gcz G = hz h.1 + mc → gcu G = hu h.1 + ms → Rn w m d G (fun r h' => Q r h' ∧ hz h'.1 = hz h.1 + mc ∧ hu h'.1 = hu h.1 + ms) 0 ls [] h) : Ev w d mc ms m args h Q := by
  refine Met.ofW (cc := m.2.1) (maxL := m.2.2.1) (ret := m.2.2.2) hy rfl ?_
  intro p e s md vs below meth c s₁ B hml hv
  obtain ⟨rfl, hH, hK, hok⟩ := hv
  have hts := atoms_spec (ws := wsM m) B.pre
  have hrun := body hok (p, e, { frames := d, cells := mc, slots := ms, locals := 64 * d }, s, md, (args.map (enc w)).toArray, below, meth, c, MQ below (QC w mc ms h Q) (args.map (enc w)).toArray s mc ms (fun q => w0 w ≤ q), hz h.1, hu h.1, hz h.1 + mc, hu h.1 + ms) rfl rfl
  have hst : wF w = .null ∨ ∃ t : Nat, wF w = .ref t := hK.2.2.2.1.2.2.2.2
  have key : Ctx w m d (p, e, { frames := d, cells := mc, slots := ms, locals := 64 * d }, s, md, (args.map (enc w)).toArray, below, meth, c, MQ below (QC w mc ms h Q) (args.map (enc w)).toArray s mc ms (fun q => w0 w ≤ q), hz h.1, hu h.1, hz h.1 + mc, hu h.1 + ms) (fun r h' => Q r h' ∧ hz h'.1 = hz h.1 + mc ∧ hu h'.1 = hu h.1 + ms) := by
    refine ⟨B.exec, B.bytes, hml, B.returns, B.notSynchronized, (name_of_methodNamed B.named B.method).1, findClass_of_methodNamed B.named, fun x hx => hts x (List.mem_cons_of_mem _ hx), hK, ⟨Nat.le_refl _, Nat.le_refl _⟩, ⟨hH.1, hH.2.1⟩, ⟨by show hz h.1 + mc ≤ mc + hz h.1; omega, by show hu h.1 + ms ≤ ms + hu h.1; omega⟩, ?_⟩
    intro h' H' locs cells slots pc L hR
    have hlocks := B.notSynchronized
    refine ⟨fun x rt hq hx hrt hna hd => ?_, fun x hq hx hrt hd => ?_, fun a rt hq hrt hro hd => ?_, fun hq hrt hd => ?_⟩
    all_goals
      obtain ⟨hq1, hq2, hq3⟩ := hq
      obtain ⟨h1, h2, h3, h4, -, -⟩ := hR
      have hc : cells = mc := by
        have : cells + hz h.1 = hz h'.1 := h3
        omega
      have hs : slots = ms := by
        have : slots + hu h.1 = hu h'.1 := h4
        omega
      subst hc
      subst hs
    · exact W.zret (v := Int32.ofInt x) B.exec B.bytes (by rw [B.returns]; exact hrt) hna (fun t ht hW => ⟨some (vi x), h', rfl, hx, by rw [ht]; exact h1, hq1, hq2, hq3⟩) h2 hd
    · exact W.lret (v := Int64.ofInt x) B.exec B.bytes (by rw [B.returns]; exact hrt) (fun t ht hW => ⟨some (vl x), h', rfl, hx, by rw [ht]; exact h1, hq1, hq2, hq3⟩) h2 hd
    · exact W.aret (v := .ref (w0 w + a)) B.exec B.bytes (by rw [B.returns]; exact hrt) hro (Or.inr ⟨_, rfl⟩) (fun t ht hW => ⟨some (vr a), h', rfl, trivial, by rw [ht]; exact h1, hq1, hq2, hq3⟩) h2 hd
    · exact W.vret B.exec B.bytes (by rw [B.returns]; exact hrt) (fun t ht hW => ⟨none, h', rfl, trivial, by rw [ht]; exact h1, hq1, hq2, hq3⟩) h2 hd
  rw [lg_entry_eq]
  have hen := lv_entry (args.map (enc w)) (hn hst)
  rw [av_args_enc w hst, hl] at hen
  refine hrun key s.heap _ [] 0 0 ⟨hH, fun q h => (by cases h), by show 0 + hz h.1 = hz h.1; omega, by show 0 + hu h.1 = hu h.1; omega, by show hz h.1 ≤ hz h.1 + mc; omega, by show hu h.1 ≤ hu h.1 + ms; omega⟩ hen ?_ (fun x hx => by cases hx)
  have hall : ∀ (as : List AV) (i : Nat), (∀ x ∈ as, okV x) → ∀ q ∈ av_args i as, okV q.2 := by
    intro as
    induction as with
    | nil => intro i _ q hq; cases hq
    | cons v vs ih =>
      intro i ho q hq
      have h0 := ho v List.mem_cons_self
      have h1 := fun x hx => ho x (List.mem_cons_of_mem _ hx)
      match v, h0, hq with
      | .inr (.inl x), h0, hq =>
        rcases List.mem_cons.mp hq with rfl | hq
        · exact h0
        · exact ih _ h1 q hq
      | .inl x, h0, hq =>
        rcases List.mem_cons.mp hq with rfl | hq
        · exact h0
        · exact ih _ h1 q hq
      | .inr (.inr z), h0, hq =>
        rcases List.mem_cons.mp hq with rfl | hq
        · exact h0
        · exact ih _ h1 q hq
  rw [← hl]
  exact hall args 0 hok
theorem Ev.of {w : WD} {d mc ms : Nat} {m : MI} {args : List AV} {h : Hp} {Q : Option AV → Hp → Prop} {ls : List (Nat × AV)} (hy : plainName m.1.cls = true) (hn : (lg_sl (args.map (enc w))).length ≤ m.2.2.1) (hl : av_args 0 args = ls)
    (body : (∀ x ∈ args, okV x) → ∀ G : GM, gcz G = hz h.1 + mc → gcu G = hu h.1 + ms → Rn w m d G (fun r h' => Q r h' ∧ hz h'.1 = hz h.1 + mc ∧ hu h'.1 = hu h.1 + ms) 0 ls [] h) : Ev w d mc ms m args h Q := Ev.of2 hy (fun _ => hn) hl body
