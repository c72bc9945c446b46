def catA : AV → Nat
  | .inr (.inl _) => 2
  | _ => 1
def catS (st : List AV) : Nat := (st.map catA).sum
theorem catA_enc (w : WD) (h : wF w = .null ∨ ∃ t : Nat, wF w = .ref t) (v : AV) : (enc w v).category = catA v := by
  match v with
  | .inr (.inl x) => rfl
  | .inl x => rfl
  | .inr (.inr z) => exact enc_cat1 w h _ (fun x q => by cases q)
theorem catS_enc (w : WD) (h : wF w = .null ∨ ∃ t : Nat, wF w = .ref t) (st : List AV) : ((st.map (enc w)).map fun v => v.category).sum = catS st := by
  unfold catS
  rw [List.map_map]
  congr 1
  apply List.map_congr_left
  intro v _
  exact catA_enc w h v
def LinkB (own : String) (idx : Nat) (q : MI) (n : Nat) : Prop :=
  Cond.methodLink own idx q.1 ∈ gT ∧ Cond.initialized q.1.cls ∈ gT ∧ Cond.code q.1 q.2.1 q.2.2.1 q.2.2.2 ∈ gT ∧ (q.1.cls ≠ "java/lang/invoke/MethodHandle" ∧ q.1.cls ≠ "java/lang/invoke/VarHandle") ∧ (parseMethodDescriptor q.1.desc).map (fun d => d.parameters.length) = some n ∧ q.2.2.1 ≤ 45
def LinkN (own : String) (idx : Nat) (q : MI) (n : Nat) (host : String) : Prop :=
  Cond.methodLinkNest own idx q.1 host ∈ nestW ∧ Cond.initialized q.1.cls ∈ gT ∧ Cond.code q.1 q.2.1 q.2.2.1 q.2.2.2 ∈ gT ∧ (q.1.cls ≠ "java/lang/invoke/MethodHandle" ∧ q.1.cls ≠ "java/lang/invoke/VarHandle") ∧ (parseMethodDescriptor q.1.desc).map (fun d => d.parameters.length) = some n ∧ q.2.2.1 ≤ 45
def LinkV (own : String) (idx : Nat) (q : MI) (n : Nat) : Prop := LinkB own idx q n ∧ Cond.instanceMethod q.1 ∈ gT ∧ Cond.selects q.1.cls q.1 q.1 ∈ gT
def LinkS (own : String) (idx : Nat) (q : MI) (n : Nat) : Prop := LinkB own idx q n ∧ Cond.static q.1 ∈ gT
def LinkI (own : String) (idx : Nat) (q : MI) (n : Nat) : Prop := LinkB own idx q n ∧ q.1.name = "<init>" ∧ Cond.instanceMethod q.1 ∈ gT ∧ q.2.2.2 = none
def LinkSN (own : String) (idx : Nat) (q : MI) (n : Nat) (host : String) : Prop := LinkN own idx q n host ∧ Cond.static q.1 ∈ gT
def LinkIN (own : String) (idx : Nat) (q : MI) (n : Nat) (host : String) : Prop := LinkN own idx q n host ∧ q.1.name = "<init>" ∧ Cond.instanceMethod q.1 ∈ gT ∧ q.2.2.2 = none
theorem goodIn_wsM {q : MI} (h : Cond.code q.1 q.2.1 q.2.2.1 q.2.2.2 ∈ gT) : GoodIn gT (wsM q) := by
  intro x hx
  rcases List.mem_cons.mp hx with rfl | hx
  · exact ⟨h, good_of_word (gT_good h)⟩
  · exact ⟨hx, good_of_word (gT_good hx)⟩
theorem PC_blind (w : WD) (args : List AV) (h : Hp) : FrameBlind (PC w args h) := fun a U g mk q => ⟨q.1, q.2.1, KOk.same (s := U) (U := U.calling g mk a) rfl q.2.2.1, q.2.2.2⟩
section CALLS
variable {w : WD} {m : MI} {d : Nat} {G : GM} {Q : Option AV → Hp → Prop} {pc : Nat} {ls : List (Nat × AV)} {st : List AV} {h : Hp}
/-- what comes behind a call: the kit's run of it, with what the callee's contract says, and the frame's own going on -/
theorem after_call {args' : Array Value} {mc ms : Nat} {stk : List AV} {H : Heap} {L : Array Slot} {locs : List Loc} {cells slots : Nat} (C : Ctx w m (d + 1) G Q) (hR : Rep w G h H locs cells slots) (hL : lv_has L m.2.2.1 (encl w ls)) (hl : ∀ q ∈ ls, okV q.2) (hs : ∀ x ∈ st, okV x) (hcap : hz h.1 + mc ≤ gcz G ∧ hu h.1 + ms ≤ gcu G)
    (hr : va_Run (gp G) (wL w) (ge G) (gR G) (gs G) (gm G) (ga G) (gb G) (gme G) (gc G) H locs cells slots mc ms (F0 (gm G) pc L (stk.map (enc w))) (st.map (enc w)) (QC w mc ms h (fun r h' => Rn w m (d + 1) G Q (pc + 3) ls (r.toList ++ st) h') args') (fun q => w0 w ≤ q)) : Wg w G H locs cells slots (F0 (gm G) pc L (stk.map (enc w))) := by
  intro T hT X
  obtain ⟨v, st₀, t, T', LL, e0, X', hLL, e1, e2, ⟨r, h', hv, hor, hRH, hq, z1, z2⟩, stp⟩ := hr T hT X
  have hv' : v = r.map (enc w) := by cases hv; rfl
  subst hv'
  obtain ⟨hH, hlo, c1, c2, c3, c4⟩ := hR
  have hR' : Rep w G h' T'.heap (locs ++ LL) (cells + mc) (slots + ms) := by
    refine ⟨by rw [e1]; exact hRH, fun q hq => ?_, by omega, by omega, by omega, by omega⟩
    rcases List.mem_append.mp hq with hq | hq
    · exact hlo q hq
    · exact hLL q hq
  have hs' : ∀ x ∈ r.toList ++ st, okV x := by
    intro x hx
    rcases List.mem_append.mp hx with hx | hx
    · cases r with
      | none => cases hx
      | some y =>
        have : x = y := by simpa using hx
        subst this
        exact hor
    · exact hs x hx
  have kk := hq C T'.heap L (locs ++ LL) (cells + mc) (slots + ms) hR' hL hl hs'
  have e3 : (r.toList ++ st).map (enc w) = (r.map (enc w)).toList ++ st.map (enc w) := by
    cases r <;> simp
  rw [e3] at kk
  obtain ⟨t2, a1, b1⟩ := kk T' rfl X'
  exact ⟨t2, stp t2 a1, b1⟩
theorem r_callV {idx n a ci nf mc ms : Nat} {q : MI} {args stk : List AV} (hd : decode m.2.1 pc = .ok (.invokevirtual idx, 3)) (hl : LinkV m.1.cls idx q n) (ho : Obj h.1 a ci nf) (hcl : ∃ T N, vwCl[ci]? = some (q.1.cls, T, N)) (hci : ci < 100) (hn : args.length = n) (hstk : stk = args.reverse ++ vr a :: st) (hcat : catS st ≤ 8)
    (hcap : hz h.1 ≤ gcz G → hu h.1 ≤ gcu G → hz h.1 + mc ≤ gcz G ∧ hu h.1 + ms ≤ gcu G)
    (E : Ev w d mc ms q (vr a :: args) h (fun r h' => Rn w m (d + 1) G Q (pc + 3) ls (r.toList ++ st) h')) : Rn w m (d + 1) G Q pc ls stk h := by
  intro C H L locs cells slots hR hL hlo hs
  subst hstk
  have hts := C.2.2.2.2.2.2.2.1
  obtain ⟨⟨l1, l2, l3, l4, l5, l6⟩, l7, l8⟩ := hl
  obtain ⟨hcA, hcB⟩ := hcap hR.2.2.2.2.1 hR.2.2.2.2.2
  have hroom := C.2.2.2.2.2.2.2.2.2.1
  have hcaps := C.2.2.2.2.2.2.2.2.2.2.2.1
  have hK := C.2.2.2.2.2.2.2.2.1
  have hP := hR.1.P1 ho.1 (cellE_obj (w := w) ho.2 hci)
  obtain ⟨T, N, hvc⟩ := hcl
  have hsr : ∀ x ∈ st, okV x := fun x hx => hs x (by simp [hx])
  have hsa : ∀ x ∈ vr a :: args, okV x := okc trivial (fun x hx => hs x (by simp [hx]))
  refine after_call (args' := (Value.ref (w0 w + a) :: args.map (enc w)).toArray) C hR hL hlo hsr ⟨hcA, hcB⟩ ?_
  refine va_runV (Ts := gT) (own := m.1.cls) (As := args.map (enc w)) (ws := wsM q) (n := n) (nL := m.2.2.1) ⟨C.1, C.2.1, C.2.2.1, C.2.2.2.2.2.2.1, hts⟩ E (cwV n hts ?_ rfl rfl rfl ⟨rfl, l4.1, l4.2, l5⟩ ⟨?_, ?_⟩) ⟨PC_blind w _ h, va_recv (q0 := 0) hK.1 hP hvc rfl, fun U hU hW => ⟨by simp [enc], by rw [hU]; exact hR.1, KOk.warm hW hK, hsa⟩⟩ rfl (by rw [List.length_map, hn]) hL.1 (by simp [enc]) (lv_room (by rw [catS_enc w C.wF]; exact hcat)) hd ?_
  · intro x hx
    rcases List.mem_append.mp hx with hx | hx
    rotate_left
    · exact goodIn_wsM l3 x hx
    simp only [List.mem_cons, List.not_mem_nil, or_false] at hx
    rcases hx with rfl | rfl | rfl | rfl
    · exact ⟨l1, good_of_word (gT_good l1)⟩
    · exact ⟨l7, good_of_word (gT_good l7)⟩
    · exact ⟨l8, good_of_word (gT_good l8)⟩
    · exact ⟨l2, good_of_word (gT_good l2)⟩
  · show d + 1 ≤ _
    exact hroom.1
  · show 8 + (q.2.2.1 + 11) + 64 * d ≤ _
    have := hroom.2
    omega
  · have := hR.2.2.1
    have := hR.2.2.2.1
    exact ⟨by omega, by omega⟩
theorem r_callS {idx n mc ms : Nat} {q : MI} {args stk : List AV} (hd : decode m.2.1 pc = .ok (.invokestatic idx, 3)) (hl : LinkS m.1.cls idx q n) (hn : args.length = n) (hstk : stk = args.reverse ++ st) (hcat : catS st ≤ 8)
    (hcap : hz h.1 ≤ gcz G → hu h.1 ≤ gcu G → hz h.1 + mc ≤ gcz G ∧ hu h.1 + ms ≤ gcu G)
    (E : Ev w d mc ms q args h (fun r h' => Rn w m (d + 1) G Q (pc + 3) ls (r.toList ++ st) h')) : Rn w m (d + 1) G Q pc ls stk h := by
  intro C H L locs cells slots hR hL hlo hs
  subst hstk
  have hts := C.2.2.2.2.2.2.2.1
  obtain ⟨⟨l1, l2, l3, l4, l5, l6⟩, l7⟩ := hl
  obtain ⟨hcA, hcB⟩ := hcap hR.2.2.2.2.1 hR.2.2.2.2.2
  have hroom := C.2.2.2.2.2.2.2.2.2.1
  have hcaps := C.2.2.2.2.2.2.2.2.2.2.2.1
  have hK := C.2.2.2.2.2.2.2.2.1
  have hsr : ∀ x ∈ st, okV x := fun x hx => hs x (by simp [hx])
  have hsa : ∀ x ∈ args, okV x := fun x hx => hs x (by simp [hx])
  refine after_call (args' := (args.map (enc w)).toArray) C hR hL hlo hsr ⟨hcA, hcB⟩ ?_
  refine va_runS (Ts := gT) (own := m.1.cls) (As := args.map (enc w)) (ws := wsM q) (n := n) (nL := m.2.2.1) (bytes := q.2.1) (maxL := q.2.2.1) (ret := q.2.2.2) ⟨C.1, C.2.1, C.2.2.1, C.2.2.2.2.2.2.1, hts⟩ E ⟨callB_of n hts (goodIn_wsM l3) rfl rfl rfl (hts _ l2) (hts _ l1) ⟨l4.1, l4.2, l5⟩ ⟨?_, ?_⟩, hts _ l7⟩ ⟨PC_blind w _ h, fun U hU hW => ⟨rfl, by rw [hU]; exact hR.1, KOk.warm hW hK, hsa⟩⟩ rfl (by rw [List.length_map, hn]) hL.1 (by simp) (lv_room (by rw [catS_enc w C.wF]; exact hcat)) hd ?_
  · show d + 1 ≤ _
    exact hroom.1
  · show 8 + (q.2.2.1 + 11) + 64 * d ≤ _
    have := hroom.2
    omega
  · have := hR.2.2.1
    have := hR.2.2.2.1
    exact ⟨by omega, by omega⟩
theorem r_callI {idx n a mc ms : Nat} {q : MI} {args stk : List AV} (hd : decode m.2.1 pc = .ok (.invokespecial idx, 3)) (hl : LinkI m.1.cls idx q n) (hn : args.length = n) (hstk : stk = args.reverse ++ vr a :: st) (hcat : catS st ≤ 8)
    (hcap : hz h.1 ≤ gcz G → hu h.1 ≤ gcu G → hz h.1 + mc ≤ gcz G ∧ hu h.1 + ms ≤ gcu G)
    (E : Ev w d mc ms q (vr a :: args) h (fun r h' => Rn w m (d + 1) G Q (pc + 3) ls (r.toList ++ st) h')) : Rn w m (d + 1) G Q pc ls stk h := by
  intro C H L locs cells slots hR hL hlo hs
  subst hstk
  have hts := C.2.2.2.2.2.2.2.1
  obtain ⟨⟨l1, l2, l3, l4, l5, l6⟩, l7, l8, l9⟩ := hl
  obtain ⟨hcA, hcB⟩ := hcap hR.2.2.2.2.1 hR.2.2.2.2.2
  have hroom := C.2.2.2.2.2.2.2.2.2.1
  have hcaps := C.2.2.2.2.2.2.2.2.2.2.2.1
  have hK := C.2.2.2.2.2.2.2.2.1
  have hsr : ∀ x ∈ st, okV x := fun x hx => hs x (by simp [hx])
  have hsa : ∀ x ∈ vr a :: args, okV x := okc trivial (fun x hx => hs x (by simp [hx]))
  obtain ⟨y, by_, ml, rt⟩ := q
  have l9 : rt = none := l9
  subst l9
  refine after_call (args' := (Value.ref (w0 w + a) :: args.map (enc w)).toArray) C hR hL hlo hsr ⟨hcA, hcB⟩ ?_
  refine va_runI (Ts := gT) (own := m.1.cls) (As := args.map (enc w)) (b := w0 w + a) (ws := wsM (y, by_, ml, none)) (n := n) (nL := m.2.2.1) ⟨C.1, C.2.1, C.2.2.1, C.2.2.2.2.2.2.1, hts⟩ E (cwI n hts (goodIn_wsM l3) rfl rfl rfl (hts _ l2) (hts _ l1) (hts _ l8) l7 ⟨l4.1, l4.2, l5⟩ ⟨?_, ?_⟩) ⟨PC_blind w _ h, fun U hU hW => ⟨by simp [enc], by rw [hU]; exact hR.1, KOk.warm hW hK, hsa⟩⟩ rfl (by rw [List.length_map, hn]) hL.1 (by simp [enc]) (lv_room (by rw [catS_enc w C.wF]; exact hcat)) hd ?_
  · show d + 1 ≤ _
    exact hroom.1
  · show 8 + (ml + 11) + 64 * d ≤ _
    have := hroom.2
    have : ml ≤ 45 := l6
    omega
  · have := hR.2.2.1
    have := hR.2.2.2.1
    exact ⟨by omega, by omega⟩
theorem r_callSN {idx n mc ms : Nat} {q : MI} {host : String} {args stk : List AV} (hd : decode m.2.1 pc = .ok (.invokestatic idx, 3)) (hl : LinkSN m.1.cls idx q n host) (hn : args.length = n) (hstk : stk = args.reverse ++ st) (hcat : catS st ≤ 8)
    (hcap : hz h.1 ≤ gcz G → hu h.1 ≤ gcu G → hz h.1 + mc ≤ gcz G ∧ hu h.1 + ms ≤ gcu G)
    (E : Ev w d mc ms q args h (fun r h' => Rn w m (d + 1) G Q (pc + 3) ls (r.toList ++ st) h')) : Rn w m (d + 1) G Q pc ls stk h := by
  intro C H L locs cells slots hR hL hlo hs
  subst hstk
  have hts := C.2.2.2.2.2.2.2.1
  obtain ⟨⟨l1, l2, l3, l4, l5, l6⟩, l7⟩ := hl
  obtain ⟨hcA, hcB⟩ := hcap hR.2.2.2.2.1 hR.2.2.2.2.2
  have hroom := C.2.2.2.2.2.2.2.2.2.1
  have hcaps := C.2.2.2.2.2.2.2.2.2.2.2.1
  have hK := C.2.2.2.2.2.2.2.2.1
  have hsr : ∀ x ∈ st, okV x := fun x hx => hs x (by simp [hx])
  have hsa : ∀ x ∈ args, okV x := fun x hx => hs x (by simp [hx])
  refine after_call (args' := (args.map (enc w)).toArray) C hR hL hlo hsr ⟨hcA, hcB⟩ ?_
  refine va_runSN (Ts := gT) (own := m.1.cls) (host := host) (As := args.map (enc w)) (ws := wsM q) (n := n) (nL := m.2.2.1) (bytes := q.2.1) (maxL := q.2.2.1) (ret := q.2.2.2) ⟨C.1, C.2.1, C.2.2.1, C.2.2.2.2.2.2.1, hts⟩ E ⟨va_cnB n hts (goodIn_wsM l3) rfl rfl rfl (hK.2.1 _ l1) (hts _ l2) ⟨l4.1, l4.2, l5⟩ ⟨?_, ?_⟩, hts _ l7, trivial⟩ ⟨PC_blind w _ h, fun U hU hW => ⟨rfl, by rw [hU]; exact hR.1, KOk.warm hW hK, hsa⟩⟩ rfl (by rw [List.length_map, hn]) hL.1 (by simp) (lv_room (by rw [catS_enc w C.wF]; exact hcat)) hd ?_
  · show d + 1 ≤ _
    exact hroom.1
  · show 8 + (q.2.2.1 + 11) + 64 * d ≤ _
    have := hroom.2
    omega
  · have := hR.2.2.1
    have := hR.2.2.2.1
    exact ⟨by omega, by omega⟩
theorem r_callIN {idx n a mc ms : Nat} {q : MI} {host : String} {args stk : List AV} (hd : decode m.2.1 pc = .ok (.invokespecial idx, 3)) (hl : LinkIN m.1.cls idx q n host) (hn : args.length = n) (hstk : stk = args.reverse ++ vr a :: st) (hcat : catS st ≤ 8)
    (hcap : hz h.1 ≤ gcz G → hu h.1 ≤ gcu G → hz h.1 + mc ≤ gcz G ∧ hu h.1 + ms ≤ gcu G)
    (E : Ev w d mc ms q (vr a :: args) h (fun r h' => Rn w m (d + 1) G Q (pc + 3) ls (r.toList ++ st) h')) : Rn w m (d + 1) G Q pc ls stk h := by
  intro C H L locs cells slots hR hL hlo hs
  subst hstk
  have hts := C.2.2.2.2.2.2.2.1
  obtain ⟨⟨l1, l2, l3, l4, l5, l6⟩, l7, l8, l9⟩ := hl
  obtain ⟨hcA, hcB⟩ := hcap hR.2.2.2.2.1 hR.2.2.2.2.2
  have hroom := C.2.2.2.2.2.2.2.2.2.1
  have hcaps := C.2.2.2.2.2.2.2.2.2.2.2.1
  have hK := C.2.2.2.2.2.2.2.2.1
  have hsr : ∀ x ∈ st, okV x := fun x hx => hs x (by simp [hx])
  have hsa : ∀ x ∈ vr a :: args, okV x := okc trivial (fun x hx => hs x (by simp [hx]))
  obtain ⟨y, by_, ml, rt⟩ := q
  have l9 : rt = none := l9
  subst l9
  refine after_call (args' := (Value.ref (w0 w + a) :: args.map (enc w)).toArray) C hR hL hlo hsr ⟨hcA, hcB⟩ ?_
  refine va_runIN (Ts := gT) (own := m.1.cls) (host := host) (As := args.map (enc w)) (b := w0 w + a) (ws := wsM (y, by_, ml, none)) (n := n) (nL := m.2.2.1) ⟨C.1, C.2.1, C.2.2.1, C.2.2.2.2.2.2.1, hts⟩ E ⟨va_cnB n hts (goodIn_wsM l3) rfl rfl rfl (hK.2.1 _ l1) (hts _ l2) ⟨l4.1, l4.2, l5⟩ ⟨?_, ?_⟩, l7, hts _ l8⟩ ⟨PC_blind w _ h, fun U hU hW => ⟨by simp [enc], by rw [hU]; exact hR.1, KOk.warm hW hK, hsa⟩⟩ rfl (by rw [List.length_map, hn]) hL.1 (by simp [enc]) (lv_room (by rw [catS_enc w C.wF]; exact hcat)) hd ?_
  · show d + 1 ≤ _
    exact hroom.1
  · show 8 + (ml + 11) + 64 * d ≤ _
    have := hroom.2
    have : ml ≤ 45 := l6
    omega
  · have := hR.2.2.1
    have := hR.2.2.2.1
    exact ⟨by omega, by omega⟩
theorem r_iret {x : Int} (hd : decode m.2.1 pc = .ok (.ireturn, 1)) (hrt : m.2.2.2 = some .int) (hq : Q (some (vi x)) h) : Rn w m d G Q pc ls [vi x] h := by
  intro C H L locs cells slots hR hL hl hs
  exact (C.2.2.2.2.2.2.2.2.2.2.2.2 h H locs cells slots pc L hR).1 x .int hq (okh hs) hrt rfl hd
theorem r_zret {x : Int} (hd : decode m.2.1 pc = .ok (.ireturn, 1)) (hrt : m.2.2.2 = some .boolean) (hx : x = 0 ∨ x = 1) (hq : Q (some (vi x)) h) : Rn w m d G Q pc ls [vi x] h := by
  intro C H L locs cells slots hR hL hl hs
  exact (C.2.2.2.2.2.2.2.2.2.2.2.2 h H locs cells slots pc L hR).1 x .boolean hq (okh hs) hrt (by rcases hx with rfl | rfl <;> decide +kernel) hd
theorem r_lret {x : Int} (hd : decode m.2.1 pc = .ok (.lreturn, 1)) (hrt : m.2.2.2 = some .long) (hq : Q (some (vl x)) h) : Rn w m d G Q pc ls [vl x] h := by
  intro C H L locs cells slots hR hL hl hs
  exact (C.2.2.2.2.2.2.2.2.2.2.2.2 h H locs cells slots pc L hR).2.1 x hq (okh hs) hrt hd
theorem r_aret {a : Nat} {rt : FieldType} (hd : decode m.2.1 pc = .ok (.areturn, 1)) (hrt : m.2.2.2 = some rt) (ho : isRefT rt = true) (hq : Q (some (vr a)) h) : Rn w m d G Q pc ls [vr a] h := by
  intro C H L locs cells slots hR hL hl hs
  refine (C.2.2.2.2.2.2.2.2.2.2.2.2 h H locs cells slots pc L hR).2.2.1 a rt hq hrt ?_ hd
  cases rt <;> first | (cases ho; done) | exact Or.inl ⟨_, rfl⟩ | exact Or.inr ⟨_, rfl⟩
theorem r_ret (hd : decode m.2.1 pc = .ok (.return_, 1)) (hrt : m.2.2.2 = none) (hq : Q none h) : Rn w m d G Q pc ls [] h := by
  intro C H L locs cells slots hR hL hl hs
  exact (C.2.2.2.2.2.2.2.2.2.2.2.2 h H locs cells slots pc L hR).2.2.2 hq hrt hd
theorem cap0 {a b : Nat} : hz h.1 ≤ a → hu h.1 ≤ b → hz h.1 + 0 ≤ a ∧ hu h.1 + 0 ≤ b := fun x y => ⟨x, y⟩
theorem Ev.mono {mc ms : Nat} {q : MI} {args : List AV} {P P' : Option AV → Hp → Prop} (E : Ev w d mc ms q args h P) (hp : ∀ r h', P r h' → P' r h') : Ev w d mc ms q args h P' := by
  intro p e ha hc hk s mm aa below hf happ hpc hkk
  obtain ⟨t, o, h1, h2, h3, ⟨r, h', g1, g2, g3, g4, g5, g6⟩, h5⟩ := E p e ha hc hk s mm aa below hf happ hpc hkk
  exact ⟨t, o, h1, h2, h3, ⟨r, h', g1, g2, g3, hp r h' g4, g5, g6⟩, h5⟩
end CALLS
