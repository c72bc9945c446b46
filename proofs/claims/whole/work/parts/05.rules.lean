theorem okc {v : AV} {st : List AV} (h : okV v) (hs : ∀ x ∈ st, okV x) : ∀ x ∈ v :: st, okV x := List.forall_mem_cons.mpr ⟨h, hs⟩
theorem oke {v : AV} {st : List AV} (hs : ∀ x ∈ v :: st, okV x) : ∀ x ∈ st, okV x := (List.forall_mem_cons.mp hs).2
theorem okh {v : AV} {st : List AV} (hs : ∀ x ∈ v :: st, okV x) : okV v := (List.forall_mem_cons.mp hs).1
def isL : AV → Bool
  | .inr (.inl _) => true
  | _ => false
def lk : List (Nat × AV) → Nat → Option AV
  | [], _ => none
  | q :: l, i => cond (Nat.beq q.1 i) (some q.2) (lk l i)
def insS (i : Nat) (v : AV) : List (Nat × AV) → List (Nat × AV)
  | [] => [(i, v)]
  | q :: l => cond (Nat.blt q.1 i) (q :: insS i v l) ((i, v) :: q :: l)
def fltI (i : Nat) : List (Nat × AV) → List (Nat × AV)
  | [] => []
  | q :: l => cond (Nat.beq q.1 i || (Nat.beq (q.1 + 1) i && isL q.2)) (fltI i l) (q :: fltI i l)
def fltL (i : Nat) : List (Nat × AV) → List (Nat × AV)
  | [] => []
  | q :: l => cond (Nat.beq q.1 i || Nat.beq q.1 (i + 1) || (Nat.beq (q.1 + 1) i && isL q.2)) (fltL i l) (q :: fltL i l)
def stI (i : Nat) (v : AV) (ls : List (Nat × AV)) : List (Nat × AV) := insS i v (fltI i ls)
def stL (i : Nat) (v : AV) (ls : List (Nat × AV)) : List (Nat × AV) := insS i v (fltL i ls)
theorem insS_mem {i : Nat} {v : AV} {l : List (Nat × AV)} {q : Nat × AV} (h : q ∈ insS i v l) : q = (i, v) ∨ q ∈ l := by
  induction l with
  | nil => exact Or.inl (by simpa [insS] using h)
  | cons p l ih =>
    unfold insS at h
    cases hb : Nat.blt p.1 i with
    | true =>
      rw [hb] at h
      rcases List.mem_cons.mp h with rfl | h
      · exact Or.inr List.mem_cons_self
      · rcases ih h with h | h
        · exact Or.inl h
        · exact Or.inr (List.mem_cons_of_mem _ h)
    | false =>
      rw [hb] at h
      rcases List.mem_cons.mp h with h | h
      · exact Or.inl h
      · exact Or.inr h
theorem fltI_mem {i : Nat} {l : List (Nat × AV)} {q : Nat × AV} (h : q ∈ fltI i l) : q ∈ l ∧ q.1 ≠ i ∧ ¬ (q.1 + 1 = i ∧ isL q.2 = true) := by
  induction l with
  | nil => cases h
  | cons p l ih =>
    unfold fltI at h
    cases hb : (Nat.beq p.1 i || (Nat.beq (p.1 + 1) i && isL p.2)) with
    | true =>
      rw [hb] at h
      obtain ⟨h1, h2⟩ := ih h
      exact ⟨List.mem_cons_of_mem _ h1, h2⟩
    | false =>
      rw [hb] at h
      rcases List.mem_cons.mp h with rfl | h
      · refine ⟨List.mem_cons_self, fun e => ?_, fun e => ?_⟩
        · rw [e] at hb
          simp at hb
        · rw [e.2, e.1] at hb
          simp at hb
      · obtain ⟨h1, h2⟩ := ih h
        exact ⟨List.mem_cons_of_mem _ h1, h2⟩
theorem fltL_mem {i : Nat} {l : List (Nat × AV)} {q : Nat × AV} (h : q ∈ fltL i l) : q ∈ l ∧ q.1 ≠ i ∧ q.1 ≠ i + 1 ∧ ¬ (q.1 + 1 = i ∧ isL q.2 = true) := by
  induction l with
  | nil => cases h
  | cons p l ih =>
    unfold fltL at h
    cases hb : (Nat.beq p.1 i || Nat.beq p.1 (i + 1) || (Nat.beq (p.1 + 1) i && isL p.2)) with
    | true =>
      rw [hb] at h
      obtain ⟨h1, h2⟩ := ih h
      exact ⟨List.mem_cons_of_mem _ h1, h2⟩
    | false =>
      rw [hb] at h
      rcases List.mem_cons.mp h with rfl | h
      · refine ⟨List.mem_cons_self, fun e => ?_, fun e => ?_, fun e => ?_⟩
        · rw [e] at hb
          simp at hb
        · rw [e] at hb
          simp at hb
        · rw [e.2, e.1] at hb
          simp at hb
      · obtain ⟨h1, h2⟩ := ih h
        exact ⟨List.mem_cons_of_mem _ h1, h2⟩
theorem lk_mem {l : List (Nat × AV)} {i : Nat} {v : AV} (h : lk l i = some v) : (i, v) ∈ l := by
  induction l with
  | nil => cases h
  | cons p l ih =>
    unfold lk at h
    cases hb : Nat.beq p.1 i with
    | true =>
      rw [hb] at h
      have e1 : p.1 = i := Nat.eq_of_beq_eq_true hb
      have e2 : p.2 = v := Option.some.inj h
      rw [← e1, ← e2]
      exact List.mem_cons_self
    | false =>
      rw [hb] at h
      exact List.mem_cons_of_mem _ (ih h)
theorem enc_cat2 (w : WD) (h : wF w = .null ∨ ∃ t : Nat, wF w = .ref t) (v : AV) : (enc w v).category = 2 ↔ isL v = true := by
  match v with
  | .inr (.inl x) => exact ⟨fun _ => rfl, fun _ => rfl⟩
  | .inl x => rw [enc_cat1 w h _ (fun x q => by cases q)]; exact ⟨fun q => (by cases q), fun q => (by cases q)⟩
  | .inr (.inr z) => rw [enc_cat1 w h _ (fun x q => by cases q)]; exact ⟨fun q => (by cases q), fun q => (by cases q)⟩
theorem encl_mem {w : WD} {ls : List (Nat × AV)} {q : Nat × AV} (h : q ∈ ls) : (q.1, enc w q.2) ∈ encl w ls := List.mem_map.mpr ⟨q, h, rfl⟩
theorem lv_atE {w : WD} {L : Array Slot} {n i : Nat} {ls : List (Nat × AV)} {v : AV} (h : lv_has L n (encl w ls)) (hv : lk ls i = some v) : L[i]? = some (.val (enc w v)) := h.2.2 _ (encl_mem (lk_mem hv))
theorem lv_stI {w : WD} (hw : wF w = .null ∨ ∃ t : Nat, wF w = .ref t) {L : Array Slot} {n i : Nat} {ls : List (Nat × AV)} {v : AV} (h : lv_has L n ((i, enc w v) :: (encl w ls).filter (fun q => !(q.1 == i) && !(q.1 + 1 == i && q.2.category == 2)))) : lv_has L n (encl w (stI i v ls)) := by
  refine ⟨h.1, h.2.1, fun q hq => h.2.2 q ?_⟩
  obtain ⟨p, hp, rfl⟩ := List.mem_map.mp hq
  rcases insS_mem hp with rfl | hp
  · exact List.mem_cons_self
  · obtain ⟨h1, h2, h3⟩ := fltI_mem hp
    refine List.mem_cons_of_mem _ (List.mem_filter.mpr ⟨encl_mem h1, ?_⟩)
    simp only [Bool.and_eq_true, Bool.not_eq_true', beq_eq_false_iff_ne, ne_eq, Bool.and_eq_false_iff]
    refine ⟨h2, ?_⟩
    by_cases e : p.1 + 1 = i
    · exact Or.inr (fun q => h3 ⟨e, (enc_cat2 w hw _).mp q⟩)
    · exact Or.inl e
theorem lv_stL {w : WD} (hw : wF w = .null ∨ ∃ t : Nat, wF w = .ref t) {L : Array Slot} {n i : Nat} {ls : List (Nat × AV)} {v : AV} (h : lv_has L n ((i, enc w v) :: (encl w ls).filter (fun q => !(q.1 == i) && (!(q.1 == i + 1) && !(q.1 + 1 == i && q.2.category == 2))))) : lv_has L n (encl w (stL i v ls)) := by
  refine ⟨h.1, h.2.1, fun q hq => h.2.2 q ?_⟩
  obtain ⟨p, hp, rfl⟩ := List.mem_map.mp hq
  rcases insS_mem hp with rfl | hp
  · exact List.mem_cons_self
  · obtain ⟨h1, h2, h3, h4⟩ := fltL_mem hp
    refine List.mem_cons_of_mem _ (List.mem_filter.mpr ⟨encl_mem h1, ?_⟩)
    simp only [Bool.and_eq_true, Bool.not_eq_true', beq_eq_false_iff_ne, ne_eq, Bool.and_eq_false_iff]
    refine ⟨h2, h3, ?_⟩
    by_cases e : p.1 + 1 = i
    · exact Or.inr (fun q => h4 ⟨e, (enc_cat2 w hw _).mp q⟩)
    · exact Or.inl e
theorem stI_ok {i : Nat} {v : AV} {ls : List (Nat × AV)} (hv : okV v) (h : ∀ q ∈ ls, okV q.2) : ∀ q ∈ stI i v ls, okV q.2 := by
  intro q hq
  rcases insS_mem hq with rfl | hq
  · exact hv
  · exact h q (fltI_mem hq).1
theorem stL_ok {i : Nat} {v : AV} {ls : List (Nat × AV)} (hv : okV v) (h : ∀ q ∈ ls, okV q.2) : ∀ q ∈ stL i v ls, okV q.2 := by
  intro q hq
  rcases insS_mem hq with rfl | hq
  · exact hv
  · exact h q (fltL_mem hq).1
theorem Ctx.wF {w : WD} {m : MI} {d : Nat} {G : GM} {Q : Option AV → Hp → Prop} (C : Ctx w m d G Q) : wF w = .null ∨ ∃ t : Nat, wF w = .ref t := C.2.2.2.2.2.2.2.2.1.2.2.2.1.2.2.2.2
section RULES
variable {w : WD} {m : MI} {d : Nat} {G : GM} {Q : Option AV → Hp → Prop} {pc : Nat} {ls : List (Nat × AV)} {st : List AV} {h : Hp}
theorem r_iconst {n : Int} {x : Int} (hd : decode m.2.1 pc = .ok (.iconst n, 1)) (hx : n = x) (ho : inI x) (k : Rn w m d G Q (pc + 1) ls (vi x :: st) h) : Rn w m d G Q pc ls st h := by
  intro C H L locs cells slots hR hL hl hs
  subst hx
  exact lv_iconst C.1 C.2.1 hd rfl (k C H L locs cells slots hR hL hl (okc ho hs))
theorem r_bipush {n : Int} {x : Int} (hd : decode m.2.1 pc = .ok (.bipush n, 2)) (hx : (Int8.ofInt n).toInt32 = Int32.ofInt x) (ho : inI x) (k : Rn w m d G Q (pc + 2) ls (vi x :: st) h) : Rn w m d G Q pc ls st h := by
  intro C H L locs cells slots hR hL hl hs
  exact lv_bipush C.1 C.2.1 hd hx (k C H L locs cells slots hR hL hl (okc ho hs))
theorem r_sipush {n : Int} {x : Int} (hd : decode m.2.1 pc = .ok (.sipush n, 3)) (hx : (Int16.ofInt n).toInt32 = Int32.ofInt x) (ho : inI x) (k : Rn w m d G Q (pc + 3) ls (vi x :: st) h) : Rn w m d G Q pc ls st h := by
  intro C H L locs cells slots hR hL hl hs
  exact lv_sipush C.1 C.2.1 hd hx (k C H L locs cells slots hR hL hl (okc ho hs))
theorem r_lconst {n : Fin 2} {x : Int} (hd : decode m.2.1 pc = .ok (.lconst n, 1)) (hx : ((n : Nat) : Int) = x) (ho : inJ x) (k : Rn w m d G Q (pc + 1) ls (vl x :: st) h) : Rn w m d G Q pc ls st h := by
  intro C H L locs cells slots hR hL hl hs
  subst hx
  exact lv_lconst C.1 C.2.1 hd rfl (k C H L locs cells slots hR hL hl (okc ho hs))
theorem r_ldc {idx : Nat} {x : Int} (hd : decode m.2.1 pc = .ok (.ldc idx, 2)) (hc : Cond.constant m.1.cls idx (Int32.ofInt x) ∈ gT) (ho : inI x) (k : Rn w m d G Q (pc + 2) ls (vi x :: st) h) : Rn w m d G Q pc ls st h := by
  intro C H L locs cells slots hR hL hl hs
  exact lv_ldc C.1 C.2.1 C.2.2.2.2.2.2.1 (C.2.2.2.2.2.2.2.1 _ hc) hd (k C H L locs cells slots hR hL hl (okc ho hs))
theorem r_ldcw {idx : Nat} {x : Int} (hd : decode m.2.1 pc = .ok (.ldc_w idx, 3)) (hc : Cond.constant m.1.cls idx (Int32.ofInt x) ∈ gT) (ho : inI x) (k : Rn w m d G Q (pc + 3) ls (vi x :: st) h) : Rn w m d G Q pc ls st h := by
  intro C H L locs cells slots hR hL hl hs
  exact lv_ldcw C.1 C.2.1 C.2.2.2.2.2.2.1 (C.2.2.2.2.2.2.2.1 _ hc) hd (k C H L locs cells slots hR hL hl (okc ho hs))
theorem r_ldc2 {idx : Nat} {x : Int} (hd : decode m.2.1 pc = .ok (.ldc2_w idx, 3)) (hc : Cond.constantLong m.1.cls idx (Int64.ofInt x) ∈ gT) (ho : inJ x) (k : Rn w m d G Q (pc + 3) ls (vl x :: st) h) : Rn w m d G Q pc ls st h := by
  intro C H L locs cells slots hR hL hl hs
  exact lv_ldc2 C.1 C.2.1 C.2.2.2.2.2.2.1 (C.2.2.2.2.2.2.2.1 _ hc) hd (k C H L locs cells slots hR hL hl (okc ho hs))
theorem r_iload_n {k : Fin 4} {i : Nat} {x : Int} (hd : decode m.2.1 pc = .ok (.iload_n k, 1)) (hi : (k : Nat) = i) (hv : lk ls i = some (vi x)) (kk : Rn w m d G Q (pc + 1) ls (vi x :: st) h) : Rn w m d G Q pc ls st h := by
  intro C H L locs cells slots hR hL hl hs
  exact lv_iload_n C.1 C.2.1 hd hi (lv_atE hL hv) (kk C H L locs cells slots hR hL hl (okc (hl _ (lk_mem hv)) hs))
theorem r_iload {i : Nat} {x : Int} (hd : decode m.2.1 pc = .ok (.iload i, 2)) (hv : lk ls i = some (vi x)) (kk : Rn w m d G Q (pc + 2) ls (vi x :: st) h) : Rn w m d G Q pc ls st h := by
  intro C H L locs cells slots hR hL hl hs
  exact lv_iload C.1 C.2.1 hd (lv_atE hL hv) (kk C H L locs cells slots hR hL hl (okc (hl _ (lk_mem hv)) hs))
theorem r_lload_n {k : Fin 4} {i : Nat} {x : Int} (hd : decode m.2.1 pc = .ok (.lload_n k, 1)) (hi : (k : Nat) = i) (hv : lk ls i = some (vl x)) (kk : Rn w m d G Q (pc + 1) ls (vl x :: st) h) : Rn w m d G Q pc ls st h := by
  intro C H L locs cells slots hR hL hl hs
  exact lv_lload_n C.1 C.2.1 hd hi (lv_atE hL hv) (kk C H L locs cells slots hR hL hl (okc (hl _ (lk_mem hv)) hs))
theorem r_lload {i : Nat} {x : Int} (hd : decode m.2.1 pc = .ok (.lload i, 2)) (hv : lk ls i = some (vl x)) (kk : Rn w m d G Q (pc + 2) ls (vl x :: st) h) : Rn w m d G Q pc ls st h := by
  intro C H L locs cells slots hR hL hl hs
  exact lv_lload C.1 C.2.1 hd (lv_atE hL hv) (kk C H L locs cells slots hR hL hl (okc (hl _ (lk_mem hv)) hs))
theorem r_aload_n {k : Fin 4} {i : Nat} {a : Nat} (hd : decode m.2.1 pc = .ok (.aload_n k, 1)) (hi : (k : Nat) = i) (hv : lk ls i = some (vr a)) (kk : Rn w m d G Q (pc + 1) ls (vr a :: st) h) : Rn w m d G Q pc ls st h := by
  intro C H L locs cells slots hR hL hl hs
  exact lv_aload_n C.1 C.2.1 hd hi (lv_atE hL hv) (kk C H L locs cells slots hR hL hl (okc (hl _ (lk_mem hv)) hs))
theorem r_aload {i : Nat} {a : Nat} (hd : decode m.2.1 pc = .ok (.aload i, 2)) (hv : lk ls i = some (vr a)) (kk : Rn w m d G Q (pc + 2) ls (vr a :: st) h) : Rn w m d G Q pc ls st h := by
  intro C H L locs cells slots hR hL hl hs
  exact lv_aload C.1 C.2.1 hd (lv_atE hL hv) (kk C H L locs cells slots hR hL hl (okc (hl _ (lk_mem hv)) hs))
theorem r_istore_n {k : Fin 4} {i : Nat} {x : Int} {ls' : List (Nat × AV)} (hd : decode m.2.1 pc = .ok (.istore_n k, 1)) (hi : (k : Nat) = i) (hn : i < m.2.2.1) (hl' : stI i (vi x) ls = ls') (kk : Rn w m d G Q (pc + 1) ls' st h) : Rn w m d G Q pc ls (vi x :: st) h := by
  intro C H L locs cells slots hR hL hl hs
  subst hl'
  exact lv_istore_n C.1 C.2.1 hd hi hL hn rfl (fun L' hL' => kk C H L' locs cells slots hR (lv_stI (v := vi x) C.wF hL') (stI_ok (okh hs) hl) (oke hs))
theorem r_istore {i : Nat} {x : Int} {ls' : List (Nat × AV)} (hd : decode m.2.1 pc = .ok (.istore i, 2)) (hn : i < m.2.2.1) (hl' : stI i (vi x) ls = ls') (kk : Rn w m d G Q (pc + 2) ls' st h) : Rn w m d G Q pc ls (vi x :: st) h := by
  intro C H L locs cells slots hR hL hl hs
  subst hl'
  exact lv_istore C.1 C.2.1 hd hL hn rfl (fun L' hL' => kk C H L' locs cells slots hR (lv_stI (v := vi x) C.wF hL') (stI_ok (okh hs) hl) (oke hs))
theorem r_lstore_n {k : Fin 4} {i : Nat} {x : Int} {ls' : List (Nat × AV)} (hd : decode m.2.1 pc = .ok (.lstore_n k, 1)) (hi : (k : Nat) = i) (hn : i + 1 < m.2.2.1) (hl' : stL i (vl x) ls = ls') (kk : Rn w m d G Q (pc + 1) ls' st h) : Rn w m d G Q pc ls (vl x :: st) h := by
  intro C H L locs cells slots hR hL hl hs
  subst hl'
  exact lv_lstore_n C.1 C.2.1 hd hi hL hn rfl (fun L' hL' => kk C H L' locs cells slots hR (lv_stL (v := vl x) C.wF hL') (stL_ok (okh hs) hl) (oke hs))
theorem r_lstore {i : Nat} {x : Int} {ls' : List (Nat × AV)} (hd : decode m.2.1 pc = .ok (.lstore i, 2)) (hn : i + 1 < m.2.2.1) (hl' : stL i (vl x) ls = ls') (kk : Rn w m d G Q (pc + 2) ls' st h) : Rn w m d G Q pc ls (vl x :: st) h := by
  intro C H L locs cells slots hR hL hl hs
  subst hl'
  exact lv_lstore C.1 C.2.1 hd hL hn rfl (fun L' hL' => kk C H L' locs cells slots hR (lv_stL (v := vl x) C.wF hL') (stL_ok (okh hs) hl) (oke hs))
theorem r_astore_n {k : Fin 4} {i : Nat} {a : Nat} {ls' : List (Nat × AV)} (hd : decode m.2.1 pc = .ok (.astore_n k, 1)) (hi : (k : Nat) = i) (hn : i < m.2.2.1) (hl' : stI i (vr a) ls = ls') (kk : Rn w m d G Q (pc + 1) ls' st h) : Rn w m d G Q pc ls (vr a :: st) h := by
  intro C H L locs cells slots hR hL hl hs
  subst hl'
  exact lv_astore_n C.1 C.2.1 hd hi hL hn rfl (fun L' hL' => kk C H L' locs cells slots hR (lv_stI (v := vr a) C.wF hL') (stI_ok (okh hs) hl) (oke hs))
theorem r_astore {i : Nat} {a : Nat} {ls' : List (Nat × AV)} (hd : decode m.2.1 pc = .ok (.astore i, 2)) (hn : i < m.2.2.1) (hl' : stI i (vr a) ls = ls') (kk : Rn w m d G Q (pc + 2) ls' st h) : Rn w m d G Q pc ls (vr a :: st) h := by
  intro C H L locs cells slots hR hL hl hs
  subst hl'
  exact lv_astore C.1 C.2.1 hd hL hn rfl (fun L' hL' => kk C H L' locs cells slots hR (lv_stI (v := vr a) C.wF hL') (stI_ok (okh hs) hl) (oke hs))
theorem r_locals {ls' : List (Nat × AV)} (hs : ∀ q ∈ ls', q ∈ ls) (kk : Rn w m d G Q pc ls' st h) : Rn w m d G Q pc ls st h := by
  intro C H L locs cells slots hR hL hl hst
  refine kk C H L locs cells slots hR ⟨hL.1, hL.2.1, fun q hq => ?_⟩ (fun q hq => hl q (hs q hq)) hst
  obtain ⟨p, hp, rfl⟩ := List.mem_map.mp hq
  exact hL.2.2 _ (encl_mem (hs p hp))
theorem r_pick {ls' : List (Nat × AV)} (ks : List Nat) (hs : ks.filterMap (fun k => ls[k]?) = ls') (kk : Rn w m d G Q pc ls' st h) : Rn w m d G Q pc ls st h := by
  refine r_locals (fun q hq => ?_) kk
  rw [← hs] at hq
  obtain ⟨k, -, hk⟩ := List.mem_filterMap.mp hq
  exact List.mem_of_getElem? hk
theorem r_iadd {x y : Int} (hd : decode m.2.1 pc = .ok (.iadd, 1)) (ho : inI (x + y)) (k : Rn w m d G Q (pc + 1) ls (vi (x + y) :: st) h) : Rn w m d G Q pc ls (vi y :: vi x :: st) h := by
  intro C H L locs cells slots hR hL hl hs
  have k := k C H L locs cells slots hR hL hl (okc ho (oke (oke hs)))
  refine lv_iadd C.1 C.2.1 hd ?_
  rw [← Int32.ofInt_add]
  exact k
theorem r_isub {x y : Int} (hd : decode m.2.1 pc = .ok (.isub, 1)) (ho : inI (x - y)) (k : Rn w m d G Q (pc + 1) ls (vi (x - y) :: st) h) : Rn w m d G Q pc ls (vi y :: vi x :: st) h := by
  intro C H L locs cells slots hR hL hl hs
  have k := k C H L locs cells slots hR hL hl (okc ho (oke (oke hs)))
  refine lv_isub C.1 C.2.1 hd ?_
  rw [← Int32.ofInt_sub]
  exact k
theorem r_imul {x y : Int} (hd : decode m.2.1 pc = .ok (.imul, 1)) (ho : inI (x * y)) (k : Rn w m d G Q (pc + 1) ls (vi (x * y) :: st) h) : Rn w m d G Q pc ls (vi y :: vi x :: st) h := by
  intro C H L locs cells slots hR hL hl hs
  have k := k C H L locs cells slots hR hL hl (okc ho (oke (oke hs)))
  refine lv_imul C.1 C.2.1 hd ?_
  rw [← Int32.ofInt_mul]
  exact k
theorem r_ineg {x : Int} (hd : decode m.2.1 pc = .ok (.ineg, 1)) (ho : inI (-x)) (k : Rn w m d G Q (pc + 1) ls (vi (-x) :: st) h) : Rn w m d G Q pc ls (vi x :: st) h := by
  intro C H L locs cells slots hR hL hl hs
  have k := k C H L locs cells slots hR hL hl (okc ho (oke hs))
  refine lv_ineg C.1 C.2.1 hd ?_
  first
    | (rw [← Int32.ofInt_neg]; exact k)
    | (have e : (0 : Int32) - Int32.ofInt x = Int32.ofInt (-x) := by rw [Int32.ofInt_neg]; simp
       rw [e]; exact k)
theorem tdiv_nn {x y : Int} (h0 : 0 ≤ x) (h1 : 0 < y) : x.tdiv y = x / y := Int.tdiv_eq_ediv_of_nonneg h0
theorem ediv_in {x y b : Int} (h0 : 0 ≤ x) (h1 : 0 < y) (hb : x ≤ b) : 0 ≤ x / y ∧ x / y ≤ b := by
  refine ⟨Int.ediv_nonneg h0 (by omega), ?_⟩
  have := Int.ediv_le_self y h0
  omega
theorem r_idiv {x y : Int} (hd : decode m.2.1 pc = .ok (.idiv, 1)) (h0 : 0 ≤ x) (h1 : 0 < y) (k : Rn w m d G Q (pc + 1) ls (vi (x / y) :: st) h) : Rn w m d G Q pc ls (vi y :: vi x :: st) h := by
  intro C H L locs cells slots hR hL hl hs
  have oy : inI y := okh hs
  have ox : inI x := okh (oke hs)
  have hb := ediv_in h0 h1 ox.2
  have k := k C H L locs cells slots hR hL hl (okc (show inI (x / y) from ⟨by omega, hb.2⟩) (oke (oke hs)))
  refine lv_idiv C.1 C.2.1 hd (fun q => ?_) ?_
  · have : Int32.ofInt y = Int32.ofInt 0 := q
    rw [i32_eq oy (by omega)] at this
    omega
  · rw [← Int32.ofInt_tdiv ox.1 ox.2 oy.1 oy.2, tdiv_nn h0 h1]
    exact k
theorem r_irem {x y : Int} (hd : decode m.2.1 pc = .ok (.irem, 1)) (h0 : 0 ≤ x) (h1 : 0 < y) (k : Rn w m d G Q (pc + 1) ls (vi (x % y) :: st) h) : Rn w m d G Q pc ls (vi y :: vi x :: st) h := by
  intro C H L locs cells slots hR hL hl hs
  have oy : inI y := okh hs
  have ox : inI x := okh (oke hs)
  have e1 := Int.emod_nonneg x (show y ≠ 0 by omega)
  have e2 := Int.emod_lt_of_pos x h1
  have k := k C H L locs cells slots hR hL hl (okc (show inI (x % y) from ⟨by omega, by omega⟩) (oke (oke hs)))
  refine lv_irem C.1 C.2.1 hd (fun q => ?_) ?_
  · have : Int32.ofInt y = Int32.ofInt 0 := q
    rw [i32_eq oy (by omega)] at this
    omega
  · rw [← Int32.ofInt_tdiv ox.1 ox.2 oy.1 oy.2, tdiv_nn h0 h1, ← Int32.ofInt_mul, ← Int32.ofInt_sub]
    have e : x - x / y * y = x % y := by
      have := Int.emod_add_mul_ediv x y
      rw [Int.mul_comm (x / y) y]
      omega
    rw [e]
    exact k
theorem r_ladd {x y : Int} (hd : decode m.2.1 pc = .ok (.ladd, 1)) (ho : inJ (x + y)) (k : Rn w m d G Q (pc + 1) ls (vl (x + y) :: st) h) : Rn w m d G Q pc ls (vl y :: vl x :: st) h := by
  intro C H L locs cells slots hR hL hl hs
  have k := k C H L locs cells slots hR hL hl (okc ho (oke (oke hs)))
  refine lv_ladd C.1 C.2.1 hd ?_
  rw [← Int64.ofInt_add]
  exact k
theorem r_lsub {x y : Int} (hd : decode m.2.1 pc = .ok (.lsub, 1)) (ho : inJ (x - y)) (k : Rn w m d G Q (pc + 1) ls (vl (x - y) :: st) h) : Rn w m d G Q pc ls (vl y :: vl x :: st) h := by
  intro C H L locs cells slots hR hL hl hs
  have k := k C H L locs cells slots hR hL hl (okc ho (oke (oke hs)))
  refine lv_lsub C.1 C.2.1 hd ?_
  rw [← Int64.ofInt_sub]
  exact k
theorem r_lmul {x y : Int} (hd : decode m.2.1 pc = .ok (.lmul, 1)) (ho : inJ (x * y)) (k : Rn w m d G Q (pc + 1) ls (vl (x * y) :: st) h) : Rn w m d G Q pc ls (vl y :: vl x :: st) h := by
  intro C H L locs cells slots hR hL hl hs
  have k := k C H L locs cells slots hR hL hl (okc ho (oke (oke hs)))
  refine lv_lmul C.1 C.2.1 hd ?_
  rw [← Int64.ofInt_mul]
  exact k
theorem r_ldiv {x y : Int} (hd : decode m.2.1 pc = .ok (.ldiv, 1)) (h0 : 0 ≤ x) (h1 : 0 < y) (k : Rn w m d G Q (pc + 1) ls (vl (x / y) :: st) h) : Rn w m d G Q pc ls (vl y :: vl x :: st) h := by
  intro C H L locs cells slots hR hL hl hs
  have oy : inJ y := okh hs
  have ox : inJ x := okh (oke hs)
  have hb := ediv_in h0 h1 ox.2
  have k := k C H L locs cells slots hR hL hl (okc (show inJ (x / y) from ⟨by omega, hb.2⟩) (oke (oke hs)))
  refine lv_ldiv C.1 C.2.1 hd (fun q => ?_) ?_
  · have : Int64.ofInt y = Int64.ofInt 0 := q
    rw [i64_eq oy (by omega)] at this
    omega
  · rw [← Int64.ofInt_tdiv ox.1 ox.2 oy.1 oy.2, tdiv_nn h0 h1]
    exact k
/-- the quotient of two longs of any sign, neither of them at the end of the range -/
theorem r_ldivT {x y : Int} (hd : decode m.2.1 pc = .ok (.ldiv, 1)) (h0 : ¬ y = 0) (hx : -9223372036854775807 ≤ x) (k : Rn w m d G Q (pc + 1) ls (vl (x.tdiv y) :: st) h) : Rn w m d G Q pc ls (vl y :: vl x :: st) h := by
  intro C H L locs cells slots hR hL hl hs
  have oy : inJ y := okh hs
  have ox : inJ x := okh (oke hs)
  have hq : inJ (x.tdiv y) := by
    have := Int.natAbs_tdiv_le_natAbs x y
    omega
  have k := k C H L locs cells slots hR hL hl (okc (show inJ (x.tdiv y) from hq) (oke (oke hs)))
  refine lv_ldiv C.1 C.2.1 hd (fun q => ?_) ?_
  · have : Int64.ofInt y = Int64.ofInt 0 := q
    rw [i64_eq oy (by omega)] at this
    omega
  · rw [← Int64.ofInt_tdiv ox.1 ox.2 oy.1 oy.2]
    exact k
theorem r_lrem {x y : Int} (hd : decode m.2.1 pc = .ok (.lrem, 1)) (h0 : 0 ≤ x) (h1 : 0 < y) (k : Rn w m d G Q (pc + 1) ls (vl (x % y) :: st) h) : Rn w m d G Q pc ls (vl y :: vl x :: st) h := by
  intro C H L locs cells slots hR hL hl hs
  have oy : inJ y := okh hs
  have ox : inJ x := okh (oke hs)
  have e1 := Int.emod_nonneg x (show y ≠ 0 by omega)
  have e2 := Int.emod_lt_of_pos x h1
  have k := k C H L locs cells slots hR hL hl (okc (show inJ (x % y) from ⟨by omega, by omega⟩) (oke (oke hs)))
  refine lv_lrem C.1 C.2.1 hd (fun q => ?_) ?_
  · have : Int64.ofInt y = Int64.ofInt 0 := q
    rw [i64_eq oy (by omega)] at this
    omega
  · rw [← Int64.ofInt_tdiv ox.1 ox.2 oy.1 oy.2, tdiv_nn h0 h1, ← Int64.ofInt_mul, ← Int64.ofInt_sub]
    have e : x - x / y * y = x % y := by
      have := Int.emod_add_mul_ediv x y
      rw [Int.mul_comm (x / y) y]
      omega
    rw [e]
    exact k
theorem r_i2l {x : Int} (hd : decode m.2.1 pc = .ok (.i2l, 1)) (k : Rn w m d G Q (pc + 1) ls (vl x :: st) h) : Rn w m d G Q pc ls (vi x :: st) h := by
  intro C H L locs cells slots hR hL hl hs
  have ox : inI x := okh hs
  exact lv_i2l C.1 C.2.1 hd (Int32.toInt64_ofInt ox.1 ox.2) (k C H L locs cells slots hR hL hl (okc (show inJ x from ⟨by omega, by omega⟩) (oke hs)))
theorem r_l2i {x : Int} (hd : decode m.2.1 pc = .ok (.l2i, 1)) (ho : inI x) (k : Rn w m d G Q (pc + 1) ls (vi x :: st) h) : Rn w m d G Q pc ls (vl x :: st) h := by
  intro C H L locs cells slots hR hL hl hs
  exact lv_l2i C.1 C.2.1 hd Int64.toInt32_ofInt (k C H L locs cells slots hR hL hl (okc ho (oke hs)))
theorem r_iinc {i : Nat} {n x y : Int} {ls' : List (Nat × AV)} (hd : decode m.2.1 pc = .ok (.iinc i n, 3)) (hv : lk ls i = some (vi x)) (hy : x + n = y) (ho : inI y) (hn : i < m.2.2.1) (hl' : stI i (vi y) ls = ls') (kk : Rn w m d G Q (pc + 3) ls' st h) : Rn w m d G Q pc ls st h := by
  intro C H L locs cells slots hR hL hl hs
  subst hl'
  obtain ⟨p, hp⟩ := List.getElem?_of_mem (encl_mem (w := w) (lk_mem hv))
  exact lv_iinc C.1 C.2.1 hd hL hp (by rw [← Int32.ofInt_add, hy]) hn rfl (fun L' hL' => kk C H L' locs cells slots hR (lv_stI (v := vi y) C.wF hL') (stI_ok ho hl) hs)
theorem r_goto {off : Int} {tgt : Nat} (hd : decode m.2.1 pc = .ok (.goto off, 3)) (ht : (pc : Int) + off = (tgt : Int)) (k : Rn w m d G Q tgt ls st h) : Rn w m d G Q pc ls st h := by
  intro C H L locs cells slots hR hL hl hs
  exact lv_goto C.1 C.2.1 hd ht (k C H L locs cells slots hR hL hl hs)
theorem r_dup {v : AV} (hd : decode m.2.1 pc = .ok (.dup, 1)) (hv : isL v = false) (k : Rn w m d G Q (pc + 1) ls (v :: v :: st) h) : Rn w m d G Q pc ls (v :: st) h := by
  intro C H L locs cells slots hR hL hl hs
  exact lv_dup C.1 C.2.1 hd (enc_cat1 w C.wF v (fun x q => by rw [q] at hv; cases hv)) (k C H L locs cells slots hR hL hl (okc (okh hs) hs))
theorem r_dup2 {u v : AV} (hd : decode m.2.1 pc = .ok (.dup2, 1)) (hu : isL u = false) (hv : isL v = false) (k : Rn w m d G Q (pc + 1) ls (u :: v :: u :: v :: st) h) : Rn w m d G Q pc ls (u :: v :: st) h := by
  intro C H L locs cells slots hR hL hl hs
  exact lv_dup2_11 C.1 C.2.1 hd (enc_cat1 w C.wF u (fun x q => by rw [q] at hu; cases hu)) (enc_cat1 w C.wF v (fun x q => by rw [q] at hv; cases hv)) (k C H L locs cells slots hR hL hl (okc (okh hs) (okc (okh (oke hs)) hs)))
theorem r_pop {v : AV} (hd : decode m.2.1 pc = .ok (.pop, 1)) (hv : isL v = false) (k : Rn w m d G Q (pc + 1) ls st h) : Rn w m d G Q pc ls (v :: st) h := by
  intro C H L locs cells slots hR hL hl hs
  exact lv_pop C.1 C.2.1 hd (enc_cat1 w C.wF v (fun x q => by rw [q] at hv; cases hv)) (k C H L locs cells slots hR hL hl (oke hs))
theorem r_icmp_eq {x y off : Int} {tgt : Nat} (hd : decode m.2.1 pc = .ok (.if_icmp .eq off, 3)) (ht : (pc : Int) + off = (tgt : Int)) (kt : x = y → Rn w m d G Q tgt ls st h) (kf : ¬ x = y → Rn w m d G Q (pc + 3) ls st h) : Rn w m d G Q pc ls (vi y :: vi x :: st) h := by
  intro C H L locs cells slots hR hL hl hs
  have e := i32_eq (show inI x from okh (oke hs)) (show inI y from okh hs)
  exact lv_icmp_eq C.1 C.2.1 hd ht (fun c => kt (e.mp c) C H L locs cells slots hR hL hl (oke (oke hs))) (fun c => kf (fun q => c (e.mpr q)) C H L locs cells slots hR hL hl (oke (oke hs)))
theorem r_icmp_ne {x y off : Int} {tgt : Nat} (hd : decode m.2.1 pc = .ok (.if_icmp .ne off, 3)) (ht : (pc : Int) + off = (tgt : Int)) (kt : ¬ x = y → Rn w m d G Q tgt ls st h) (kf : x = y → Rn w m d G Q (pc + 3) ls st h) : Rn w m d G Q pc ls (vi y :: vi x :: st) h := by
  intro C H L locs cells slots hR hL hl hs
  have e := i32_eq (show inI x from okh (oke hs)) (show inI y from okh hs)
  exact lv_icmp_ne C.1 C.2.1 hd ht (fun c => kt (fun q => c (e.mpr q)) C H L locs cells slots hR hL hl (oke (oke hs))) (fun c => kf (e.mp c) C H L locs cells slots hR hL hl (oke (oke hs)))
theorem r_icmp_lt {x y off : Int} {tgt : Nat} (hd : decode m.2.1 pc = .ok (.if_icmp .lt off, 3)) (ht : (pc : Int) + off = (tgt : Int)) (kt : x < y → Rn w m d G Q tgt ls st h) (kf : ¬ x < y → Rn w m d G Q (pc + 3) ls st h) : Rn w m d G Q pc ls (vi y :: vi x :: st) h := by
  intro C H L locs cells slots hR hL hl hs
  have e := i32_lt (show inI x from okh (oke hs)) (show inI y from okh hs)
  exact lv_icmp_lt C.1 C.2.1 hd ht (fun c => kt (e.mp c) C H L locs cells slots hR hL hl (oke (oke hs))) (fun c => kf (fun q => c (e.mpr q)) C H L locs cells slots hR hL hl (oke (oke hs)))
end RULES
