theorem RepH.P1 {w : WD} {h : Hp} {H : Heap} {a : Nat} {e : va_E} (R : RepH w h H) (ha : a < hz h.1) (he : cellE w h a = e) : va_P (wC w, wI w) vwCl [(w0 w + a, e)] H := by
  intro k q hq
  match k, hq with
  | 0, hq =>
    cases hq
    have := R.2.2.1 a ha
    rw [he] at this
    exact this
  | k + 1, hq => simp at hq
theorem Rep.wr {w : WD} {G : GM} {h h' : Hp} {H H1 : Heap} {locs locs1 : List Loc} {cells slots a : Nat} {e : va_E} (R : Rep w G h H locs cells slots) (hb : h'.1 = h.1) (he : cellE w h' a = e) (hc : va_at (wC w, wI w) vwCl (w0 w + a, e) H1) (ho : ∀ b, b ≠ a → cellE w h' b = cellE w h b) (hok : okH h'.1 h'.2) (e2 : H1.size = H.size) (e3 : ∀ q : Nat, q ≠ w0 w + a → H1[q]? = H[q]?) (hl : ∀ q ∈ locs1, w0 w ≤ q.base) : Rep w G h' H1 locs1 cells slots := by
  obtain ⟨⟨r1, r2, r3, r4, r5⟩, l, c1, c2, c3, c4⟩ := R
  refine ⟨⟨by rw [e2, r1, hb], fun q hq => (e3 q (by omega)).trans (r2 q hq), fun b hb2 => ?_, hok, by rw [hb]; exact r5⟩, hl, by rw [hb]; exact c1, by rw [hb]; exact c2, by rw [hb]; exact c3, by rw [hb]; exact c4⟩
  by_cases q : b = a
  · subst q
    rw [he]
    exact hc
  · rw [ho b q]
    rw [hb] at hb2
    exact (r3 b hb2).kept (e3 _ (by show w0 w + b ≠ w0 w + a; omega))
theorem upn_ne {n : NM} {a b : Nat} {i v : Int} (h : b ≠ a) : upn n a i v b = n b := by
  funext j
  simp [upn, h]
theorem cellE_same {w : WD} {B : HB} {n n' : NM} {b : Nat} (h : n' b = n b) : cellE w (B, n') b = cellE w (B, n) b := by
  simp only [cellE, fval, h]
theorem cellE_up {w : WD} {B : HB} {n : NM} {a b : Nat} {i v : Int} (h : b ≠ a) : cellE w (B, upn n a i v) b = cellE w (B, n) b := cellE_same (upn_ne h)
theorem okH_up {B : HB} {n : NM} {a k : Nat} {x : Int} (ho : okH B n) (hx : okT (slT B a k) x) : okH B (upn n a (k : Int) x) := by
  intro b i
  unfold upn
  by_cases c : b = a ∧ (i : Int) = (k : Int)
  · rw [if_pos c]
    obtain ⟨rfl, c2⟩ := c
    have : i = k := by omega
    subst this
    exact hx
  · rw [if_neg c]
    exact ho b i
abbrev Obj (B : HB) (a ci nf : Nat) : Prop := a < hz B ∧ kd B a = (ci, nf)
theorem cellE_obj {w : WD} {h : Hp} {a ci nf : Nat} (hk : kd h.1 a = (ci, nf)) (hc : ci < 100) : cellE w h a = .inr (ci, (List.range nf).map (fun f => fval w h.1 h.2 (ftA ci f) a f)) := by
  simp [cellE, hk, hc]
theorem slT_obj {B : HB} {a ci nf k : Nat} (hk : kd B a = (ci, nf)) (hc : ci < 100) : slT B a k = ftA ci k := by
  simp [slT, hk, hc]
theorem fields_get {w : WD} {B : HB} {n : NM} {ci nf a k : Nat} (hk : k < nf) : ((List.range nf).map (fun f => fval w B n (ftA ci f) a f))[k]? = some (fval w B n (ftA ci k) a k) := by
  simp [hk]
theorem fields_set {w : WD} {B : HB} {n : NM} {ci nf a k : Nat} {x : Int} {v : Value} (hv : fval w B (upn n a (k : Int) x) (ftA ci k) a k = v) : (List.range nf).map (fun f => fval w B (upn n a (k : Int) x) (ftA ci f) a f) = ((List.range nf).map (fun f => fval w B n (ftA ci f) a f)).set k v := by
  apply List.ext_getElem?
  intro j
  rw [List.getElem?_set]
  by_cases hj : j < nf
  · by_cases e : k = j
    · subst e
      rw [if_pos rfl, if_pos (by simpa using hj), fields_get hj, hv]
    · rw [if_neg e, fields_get hj, fields_get hj]
      have hne : ¬ ((j : Int) = (k : Int)) := by omega
      congr 1
      simp only [fval, upn, hne, and_false, if_false]
  · have h1 : ((List.range nf).map (fun f => fval w B (upn n a (k : Int) x) (ftA ci f) a f))[j]? = none := by
      apply List.getElem?_eq_none
      simp
      omega
    have h2 : ((List.range nf).map (fun f => fval w B n (ftA ci f) a f))[j]? = none := by
      apply List.getElem?_eq_none
      simp
      omega
    rw [h1, h2]
    by_cases e : k = j
    · rw [if_pos e, if_neg (by simp; omega)]
    · rw [if_neg e]
def ClsOk (ci : Nat) (C : String) (T : u_T) (N : Nat) : Prop := vwCl[ci]? = some (C, T, N) ∧ (∀ x ∈ u_ws C T N, x ∈ gT) ∧ (∀ k, k < N → parseFieldDescriptor (T k).2.2.1 = some (ftA ci k)) ∧ (∀ a, a < N → ∀ b, b < N → a ≠ b → (T a).2.1 ≠ (T b).2.1) ∧ ci < 100
def FieldAt (own : String) (idx ci k : Nat) : Prop := ∃ (C : String) (T : u_T) (N : Nat), ClsOk ci C T N ∧ k < N ∧ Cond.fieldLink own idx (T k).1 (T k).2.1 (T k).2.2.1 ∈ gT
def PutAt (own : String) (idx ci k : Nat) : Prop := ∃ (C : String) (T : u_T) (N : Nat), ClsOk ci C T N ∧ k < N ∧ Cond.fieldLink own idx (T k).1 (T k).2.1 (T k).2.2.1 ∈ gT ∧ (T k).2.2.2 = false
def PutFAt (own : String) (idx ci k : Nat) : Prop := ∃ (C : String) (T : u_T) (N : Nat), ClsOk ci C T N ∧ k < N ∧ Cond.fieldLink own idx (T k).1 (T k).2.1 (T k).2.2.1 ∈ gT ∧ (T k).2.2.2 = true ∧ (T k).1 = own
section RULES3
variable {w : WD} {m : MI} {d : Nat} {G : GM} {Q : Option AV → Hp → Prop} {pc : Nat} {ls : List (Nat × AV)} {st : List AV} {h : Hp}
theorem get_core {a ci nf k idx : Nat} {v : Value} (hd : decode m.2.1 pc = .ok (.getfield idx, 3)) (hf : FieldAt m.1.cls idx ci k) (ho : Obj h.1 a ci nf) (hk : k < nf) (hv : fval w h.1 h.2 (ftA ci k) a k = v) (C : Ctx w m d G Q) {H : Heap} {L : Array Slot} {locs : List Loc} {cells slots : Nat} {rest : List Value} (hR : Rep w G h H locs cells slots) (kk : Wg w G H locs cells slots (F0 (gm G) (pc + 3) L (v :: rest))) : Wg w G H locs cells slots (F0 (gm G) pc L (.ref (w0 w + a) :: rest)) := by
  obtain ⟨Cn, T, N, ⟨hc, hin, hty, hnm, hlt⟩, hkN, hl⟩ := hf
  have hP := hR.1.P1 ho.1 (cellE_obj (w := w) ho.2 hlt)
  exact va_get C.1 C.2.1 (Ts := gT) C.2.2.2.2.2.2.2.1 hin C.2.2.2.2.2.2.1 C.2.2.2.2.2.2.2.2.1.1 hP 0 rfl hc k hkN (C.2.2.2.2.2.2.2.1 _ hl) (fun _ h9 => h9) (by rw [fields_get hk, hv]) hd kk
theorem r_getI {a ci nf k idx : Nat} {fi : Int} (hd : decode m.2.1 pc = .ok (.getfield idx, 3)) (hf : FieldAt m.1.cls idx ci k) (ho : Obj h.1 a ci nf) (hk : k < nf) (ht : ftA ci k = .int ∨ ftA ci k = .boolean) (hfi : fi = (k : Int)) (kk : Rn w m d G Q (pc + 3) ls (vi (h.2 a fi) :: st) h) : Rn w m d G Q pc ls (vr a :: st) h := by
  intro C H L locs cells slots hR hL hl hs
  subst hfi
  have hci : ci < 100 := by
    obtain ⟨_, _, _, hC, _⟩ := hf
    exact hC.2.2.2.2
  have hok := hR.1.2.2.2.1 a k
  rw [slT_obj ho.2 hci] at hok
  have hi : inI (h.2 a (k : Int)) := by
    rcases ht with ht | ht
    · rw [ht] at hok
      exact hok
    · rw [ht] at hok
      rcases hok with hok | hok <;> rw [hok] <;> exact ⟨by decide, by decide⟩
  exact get_core hd hf ho hk (v := .int (Int32.ofInt (h.2 a (k : Int)))) (by rcases ht with ht | ht <;> rw [ht] <;> rfl) C hR (kk C H L locs cells slots hR hL hl (okc (show okV (vi _) from hi) (oke hs)))
theorem r_getL {a ci nf k idx : Nat} {fi : Int} (hd : decode m.2.1 pc = .ok (.getfield idx, 3)) (hf : FieldAt m.1.cls idx ci k) (ho : Obj h.1 a ci nf) (hk : k < nf) (ht : ftA ci k = .long) (hfi : fi = (k : Int)) (kk : Rn w m d G Q (pc + 3) ls (vl (h.2 a fi) :: st) h) : Rn w m d G Q pc ls (vr a :: st) h := by
  intro C H L locs cells slots hR hL hl hs
  subst hfi
  have hci : ci < 100 := by
    obtain ⟨_, _, _, hC, _⟩ := hf
    exact hC.2.2.2.2
  have hok := hR.1.2.2.2.1 a k
  rw [slT_obj ho.2 hci, ht] at hok
  exact get_core hd hf ho hk (v := .long (Int64.ofInt (h.2 a (k : Int)))) (by rw [ht]; rfl) C hR (kk C H L locs cells slots hR hL hl (okc (show okV (vl _) from hok) (oke hs)))
def isRefT : FieldType → Bool
  | .object _ => true
  | .array _ => true
  | _ => false
theorem r_getR {a b ci nf k idx : Nat} (hd : decode m.2.1 pc = .ok (.getfield idx, 3)) (hf : FieldAt m.1.cls idx ci k) (ho : Obj h.1 a ci nf) (hk : k < nf) (ht : isRefT (ftA ci k) = true) (hr : rf h.1 a k = some b) (kk : Rn w m d G Q (pc + 3) ls (vr b :: st) h) : Rn w m d G Q pc ls (vr a :: st) h := by
  intro C H L locs cells slots hR hL hl hs
  refine get_core hd hf ho hk (v := .ref (w0 w + b)) ?_ C hR (kk C H L locs cells slots hR hL hl (okc (show okV (vr _) from trivial) (oke hs)))
  cases htt : ftA ci k <;> rw [htt] at ht <;> first | (cases ht; done) | (simp only [fval, hr]; rfl)
theorem put_core {a ci nf k idx : Nat} {x : Int} {v : Value} (hd : decode m.2.1 pc = .ok (.putfield idx, 3)) (hf : PutAt m.1.cls idx ci k) (ho : Obj h.1 a ci nf) (hk : k < nf) (hv : fval w h.1 (upn h.2 a (k : Int) x) (ftA ci k) a k = v) (hn : narrow (ftA ci k) v = v) (hfit : fits (ftA ci k) v = true) (hokx : okT (ftA ci k) x) (C : Ctx w m d G Q) {H : Heap} {L : Array Slot} {locs : List Loc} {cells slots : Nat} {rest : List Value} (hR : Rep w G h H locs cells slots) (kk : ∀ (H1 : Heap) (locs1 : List Loc), Rep w G (h.1, upn h.2 a (k : Int) x) H1 locs1 cells slots → Wg w G H1 locs1 cells slots (F0 (gm G) (pc + 3) L rest)) : Wg w G H locs cells slots (F0 (gm G) pc L (v :: .ref (w0 w + a) :: rest)) := by
  obtain ⟨Cn, T, N, ⟨hc, hin, hty, hnm, hlt⟩, hkN, hl, hfin⟩ := hf
  have hts := C.2.2.2.2.2.2.2.1
  have hK := C.2.2.2.2.2.2.2.2.1.1
  have hown := C.2.2.2.2.2.2.1
  have hP := hR.1.P1 ho.1 (cellE_obj (w := w) ho.2 hlt)
  have hap := va_apart (own := m.1.cls) hts hin (ftA ci) hty hnm hK hc
  obtain ⟨r, h1, cell, q1, q2, q3, q4⟩ := hP 0 _ rfl
  have hr : r = (Cn, T, N) := Option.some.inj (h1.symm.trans hc)
  subst hr
  obtain ⟨hS, hfc, kC, hkC, hkind⟩ := hK.1 ci _ hc
  obtain ⟨cf, kf, fi, f, hi, hsl⟩ := hS k hkN
  have hlay := hts _ (hin _ (u_in_lay hkN))
  unfold u_lay at hlay
  rw [if_neg (by rw [hfin]; decide)] at hlay
  have hst := (u_facts hfc hkC (u_lays hts hin hkN) hi).1
  have h6 := u_store hfc hkC hkind hlay hi (hty k hkN) hn hfit
  refine W.putK C.1 C.2.1 (f := f) ⟨hown, hts _ hl, ⟨_, _, _, hi⟩, hst⟩ (by rw [q2]; exact h6) q1 q3 (by rw [hsl]; exact k2_hasslot (q4 k hkN)) rfl rfl hd fun H' e1 e2 e3 => ?_
  rw [hsl] at e1 ⊢
  refine kk H' _ (Rep.wr (h' := (h.1, upn h.2 a (k : Int) x)) (a := a) hR rfl (cellE_obj ho.2 hlt) ?_ (fun b hb => cellE_up hb) (okH_up hR.1.2.2.2.1 (by rw [slT_obj ho.2 hlt]; exact hokx)) e2 e3 ?_)
  · rw [fields_set hv]
    exact ⟨_, hc, t_OB.to (V := updV (vp_V _) k v) ⟨_, e1, q2, q3, t_set q4 hap hkN v⟩ (fun j _ => vp_updV_set (by simpa using hk) v j)⟩
  · intro q hq
    rcases List.mem_append.mp hq with hq | hq
    · exact hR.2.1 q hq
    · rw [List.mem_singleton.mp hq]
      exact Nat.le_add_right _ _
theorem r_putI {a ci nf k idx : Nat} {fi x : Int} {h' : Hp} (hd : decode m.2.1 pc = .ok (.putfield idx, 3)) (hf : PutAt m.1.cls idx ci k) (ho : Obj h.1 a ci nf) (hk : k < nf) (ht : ftA ci k = .int) (hfi : fi = (k : Int)) (hh : h' = (h.1, upn h.2 a fi x)) (kk : Rn w m d G Q (pc + 3) ls st h') : Rn w m d G Q pc ls (vi x :: vr a :: st) h := by
  intro C H L locs cells slots hR hL hl hs
  subst hfi
  subst hh
  have ox : inI x := okh hs
  exact put_core hd hf ho hk (v := .int (Int32.ofInt x)) (by rw [ht]; simp [fval, upn]) (by rw [ht]; rfl) (by rw [ht]; rfl) (by rw [ht]; exact ox) C hR (fun H1 locs1 hR1 => kk C H1 L locs1 cells slots hR1 hL hl (oke (oke hs)))
theorem r_putZ {a ci nf k idx : Nat} {fi x : Int} {h' : Hp} (hd : decode m.2.1 pc = .ok (.putfield idx, 3)) (hf : PutAt m.1.cls idx ci k) (ho : Obj h.1 a ci nf) (hk : k < nf) (ht : ftA ci k = .boolean) (hfi : fi = (k : Int)) (hx : x = 0 ∨ x = 1) (hh : h' = (h.1, upn h.2 a fi x)) (kk : Rn w m d G Q (pc + 3) ls st h') : Rn w m d G Q pc ls (vi x :: vr a :: st) h := by
  intro C H L locs cells slots hR hL hl hs
  subst hfi
  subst hh
  exact put_core hd hf ho hk (v := .int (Int32.ofInt x)) (by rw [ht]; simp [fval, upn]) (by rw [ht]; rcases hx with rfl | rfl <;> decide +kernel) (by rw [ht]; rcases hx with rfl | rfl <;> decide +kernel) (by rw [ht]; exact hx) C hR (fun H1 locs1 hR1 => kk C H1 L locs1 cells slots hR1 hL hl (oke (oke hs)))
theorem r_putL {a ci nf k idx : Nat} {fi x : Int} {h' : Hp} (hd : decode m.2.1 pc = .ok (.putfield idx, 3)) (hf : PutAt m.1.cls idx ci k) (ho : Obj h.1 a ci nf) (hk : k < nf) (ht : ftA ci k = .long) (hfi : fi = (k : Int)) (hh : h' = (h.1, upn h.2 a fi x)) (kk : Rn w m d G Q (pc + 3) ls st h') : Rn w m d G Q pc ls (vl x :: vr a :: st) h := by
  intro C H L locs cells slots hR hL hl hs
  subst hfi
  subst hh
  have ox : inJ x := okh hs
  exact put_core hd hf ho hk (v := .long (Int64.ofInt x)) (by rw [ht]; simp [fval, upn]) (by rw [ht]; rfl) (by rw [ht]; rfl) (by rw [ht]; exact ox) C hR (fun H1 locs1 hR1 => kk C H1 L locs1 cells slots hR1 hL hl (oke (oke hs)))
end RULES3
