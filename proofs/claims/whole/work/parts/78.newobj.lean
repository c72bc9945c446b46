section NEWOBJ
variable {w : WD} {m : MI} {d : Nat} {G : GM} {Q : Option AV → Hp → Prop} {pc : Nat} {ls : List (Nat × AV)} {st : List AV} {h : Hp}
/-- one object more, of kind k -/
def newB (B : HB) (k : HK) : HB := (hz B + 1, hu B + k.2, fun a => if a = hz B then k else kd B a, fun a f => if a = hz B then none else rf B a f)
theorem newB_kd {B : HB} {k : HK} : kd (newB B k) (hz B) = k := if_pos rfl
theorem newB_kd2 {B : HB} {k : HK} {a : Nat} (ha : a ≠ hz B) : kd (newB B k) a = kd B a := if_neg ha
theorem newB_rf {B : HB} {k : HK} {f : Nat} : rf (newB B k) (hz B) f = none := if_pos rfl
theorem newB_rf2 {B : HB} {k : HK} {a f : Nat} (ha : a ≠ hz B) : rf (newB B k) a f = rf B a f := if_neg ha
theorem cellE_cg {B B' : HB} {n : NM} {a : Nat} (e1 : B'.2.2.1 a = B.2.2.1 a) (e2 : B'.2.2.2 a = B.2.2.2 a) : cellE w (B', n) a = cellE w (B, n) a := by
  have e1' : kd ((B', n) : Hp).1 a = kd ((B, n) : Hp).1 a := e1
  have ef : ∀ (t : FieldType) (f : Nat), fval w B' n t a f = fval w B n t a f := fun t f => by
    have ex : rf B' a f = rf B a f := congrFun e2 f
    unfold fval
    split
    · rfl
    · rfl
    · rfl
    · rw [ex]
  have el : ∀ c nf : Nat, (List.range nf).map (fun f => fval w B' n (ftA c f) a f) = (List.range nf).map (fun f => fval w B n (ftA c f) a f) := fun c nf => List.map_congr_left (fun f _ => ef _ f)
  have er : (fun i => (rf B' a i).map (fun b => w0 w + b)) = (fun i => (rf B a i).map (fun b => w0 w + b)) := funext fun i => by rw [show rf B' a i = rf B a i from congrFun e2 i]
  unfold cellE
  rw [e1']
  split
  · rw [el]
  · split
    · rfl
    · split
      · rfl
      · split
        · rfl
        · rw [er]
theorem cellE_new {k : HK} {a : Nat} (ha : a ≠ hz h.1) : cellE w (newB h.1 k, h.2) a = cellE w h a :=
  cellE_cg (B := h.1) (if_neg ha) (funext fun f => if_neg ha)
theorem okT0 (t : FieldType) : okT t 0 := by
  unfold okT
  split
  · exact ⟨by decide, by decide⟩
  · exact Or.inl rfl
  · exact ⟨by decide, by decide⟩
  · trivial
theorem rep_new {k : HK} {H H1 : Heap} {locs : List Loc} {cells slots : Nat} (hR : Rep w G h H locs cells slots) (z0 : ∀ i, h.2 (hz h.1) i = 0) (rc : hz h.1 + 1 ≤ gcz G) (rs : hu h.1 + k.2 ≤ gcu G) (z1 : H1.size = w0 w + hz h.1 + 1) (o1 : ∀ q : Nat, q < w0 w + hz h.1 → H1[q]? = H[q]?) (e : va_at (wC w, wI w) vwCl (w0 w + hz h.1, cellE w (newB h.1 k, h.2) (hz h.1)) H1) (hk : k.1 < 100 → ∃ r : vw_C, vwCl[k.1]? = some r ∧ r.2.2 = k.2) : Rep w G (newB h.1 k, h.2) H1 locs (cells + 1) (slots + k.2) := by
  obtain ⟨⟨r1, r2, r3, r4, r5⟩, p2, p3, p4, p5, p6⟩ := hR
  have hz1 : hz ((newB h.1 k, h.2) : Hp).1 = hz h.1 + 1 := rfl
  have hu1 : hu ((newB h.1 k, h.2) : Hp).1 = hu h.1 + k.2 := rfl
  refine ⟨⟨by rw [hz1, z1]; omega, fun q hq => (o1 q (by omega)).trans (r2 q hq), fun a ha => ?_, fun a i => ?_, fun a ha hc => ?_⟩, p2, by rw [hz1]; omega, by rw [hu1]; omega, by rw [hz1]; exact rc, by rw [hu1]; exact rs⟩
  · by_cases q : a = hz h.1
    · rw [q]
      exact e
    · rw [cellE_new q]
      rw [hz1] at ha
      exact (r3 a (by omega)).kept (o1 _ (by show w0 w + a < _; omega))
  · by_cases q : a = hz h.1
    · rw [q, z0]
      exact okT0 _
    · have := r4 a i
      unfold slT at this ⊢
      rw [show kd ((newB h.1 k, h.2) : Hp).1 a = kd h.1 a from newB_kd2 q]
      exact this
  · by_cases q : a = hz h.1
    · subst q
      have e1 : kd ((newB h.1 k, h.2) : Hp).1 (hz h.1) = k := newB_kd
      rw [e1] at hc ⊢
      exact hk hc
    · have e1 : kd ((newB h.1 k, h.2) : Hp).1 a = kd h.1 a := newB_kd2 q
      rw [e1] at hc ⊢
      rw [hz1] at ha
      exact r5 a (by omega) hc
theorem i32_len {len : Nat} (hl : len ≤ 100000) : ¬ Int32.ofInt (len : Int) < 0 ∧ (Int32.ofInt (len : Int)).toNatClampNeg = len := by
  refine ⟨fun q => ?_, ?_⟩
  · have q : Int32.ofInt (len : Int) < Int32.ofInt 0 := q
    rw [i32_lt ⟨by omega, by omega⟩ ⟨by decide, by decide⟩] at q
    omega
  · rw [i32_clamp ⟨by omega, by omega⟩]
    omega
theorem r_newaI {len : Nat} {x : Int} (hd : decode m.2.1 pc = .ok (.newarray .int, 2)) (harr : Cond.arrayClass .int ∈ gT) (hx : x = (len : Int)) (hle : len ≤ 100000) (z0 : ∀ i, h.2 (hz h.1) i = 0) (rc : hz h.1 + 1 ≤ gcz G) (rs : hu h.1 + len ≤ gcu G) (kk : Rn w m d G Q (pc + 2) ls (vr (hz h.1) :: st) (newB h.1 (100, len), h.2)) : Rn w m d G Q pc ls (vi x :: st) h := by
  intro C H L locs cells slots hR hL hl hs
  subst hx
  have il := i32_len hle
  have hts := C.2.2.2.2.2.2.2.1
  have hrc := C.2.2.2.2.2.2.2.2.2.2.2.1
  have p3 := hR.2.2.1
  have p4 := hR.2.2.2.1
  refine va_newaK C.1 C.2.1 (atype := .int) (N := len) (hts _ harr) rfl hd rfl il.1 il.2 (by show len * 4 ≤ 536870912; omega) (by omega) (by omega) hR.1.1 (fun H1 cA e1 z1 o1 hAr hNm => ?_)
  have hcA : cA = wA w 0 := Option.some.inj (hNm.symm.trans (C.2.2.2.2.2.2.2.2.1.1.2 0 _ rfl).2)
  subst hcA
  refine kk C H1 L locs _ _ (rep_new (k := (100, len)) hR z0 rc rs z1 o1 ?_ (fun q => absurd q (show ¬ (100 : Nat) < 100 by decide))) hL hl (okc trivial (oke hs))
  rw [cellE_I newB_kd]
  show H1[w0 w + hz h.1]? = some (vp_cell _ _)
  rw [e1, vp_cell_i]
  congr 2
  funext i
  show defaultValue .int = .int (Int32.ofInt (h.2 (hz h.1) (i : Int)))
  rw [z0]
  rfl
theorem r_newaJ {len : Nat} {x : Int} (hd : decode m.2.1 pc = .ok (.newarray .long, 2)) (harr : Cond.arrayClass .long ∈ gT) (hx : x = (len : Int)) (hle : len ≤ 100000) (z0 : ∀ i, h.2 (hz h.1) i = 0) (rc : hz h.1 + 1 ≤ gcz G) (rs : hu h.1 + len ≤ gcu G) (kk : Rn w m d G Q (pc + 2) ls (vr (hz h.1) :: st) (newB h.1 (101, len), h.2)) : Rn w m d G Q pc ls (vi x :: st) h := by
  intro C H L locs cells slots hR hL hl hs
  subst hx
  have il := i32_len hle
  have hts := C.2.2.2.2.2.2.2.1
  have hrc := C.2.2.2.2.2.2.2.2.2.2.2.1
  have p3 := hR.2.2.1
  have p4 := hR.2.2.2.1
  refine va_newaK C.1 C.2.1 (atype := .long) (N := len) (hts _ harr) rfl hd rfl il.1 il.2 (by show len * 8 ≤ 536870912; omega) (by omega) (by omega) hR.1.1 (fun H1 cA e1 z1 o1 hAr hNm => ?_)
  have hcA : cA = wA w 1 := Option.some.inj (hNm.symm.trans (C.2.2.2.2.2.2.2.2.1.1.2 1 _ rfl).2)
  subst hcA
  refine kk C H1 L locs _ _ (rep_new (k := (101, len)) hR z0 rc rs z1 o1 ?_ (fun q => absurd q (show ¬ (101 : Nat) < 100 by decide))) hL hl (okc trivial (oke hs))
  rw [cellE_J newB_kd]
  show H1[w0 w + hz h.1]? = some (vp_cell _ _)
  rw [e1, vp_cell_l]
  congr 2
  funext i
  show defaultValue .long = .long (Int64.ofInt (h.2 (hz h.1) (i : Int)))
  rw [z0]
  rfl
theorem r_newaZ {len : Nat} {x : Int} (hd : decode m.2.1 pc = .ok (.newarray .boolean, 2)) (harr : Cond.arrayClass .boolean ∈ gT) (hx : x = (len : Int)) (hle : len ≤ 100000) (z0 : ∀ i, h.2 (hz h.1) i = 0) (rc : hz h.1 + 1 ≤ gcz G) (rs : hu h.1 + len ≤ gcu G) (kk : Rn w m d G Q (pc + 2) ls (vr (hz h.1) :: st) (newB h.1 (102, len), h.2)) : Rn w m d G Q pc ls (vi x :: st) h := by
  intro C H L locs cells slots hR hL hl hs
  subst hx
  have il := i32_len hle
  have hts := C.2.2.2.2.2.2.2.1
  have hrc := C.2.2.2.2.2.2.2.2.2.2.2.1
  have p3 := hR.2.2.1
  have p4 := hR.2.2.2.1
  refine va_newaK C.1 C.2.1 (atype := .boolean) (N := len) (hts _ harr) rfl hd rfl il.1 il.2 (by show len * 1 ≤ 536870912; omega) (by omega) (by omega) hR.1.1 (fun H1 cA e1 z1 o1 hAr hNm => ?_)
  have hcA : cA = wA w 2 := Option.some.inj (hNm.symm.trans (C.2.2.2.2.2.2.2.2.1.1.2 2 _ rfl).2)
  subst hcA
  refine kk C H1 L locs _ _ (rep_new (k := (102, len)) hR z0 rc rs z1 o1 ?_ (fun q => absurd q (show ¬ (102 : Nat) < 100 by decide))) hL hl (okc trivial (oke hs))
  rw [cellE_Z newB_kd]
  show H1[w0 w + hz h.1]? = some (vp_cell _ _)
  rw [e1, vp_cell_i]
  congr 2
  funext i
  show defaultValue .boolean = .int (Int32.ofInt (h.2 (hz h.1) (i : Int)))
  rw [z0]
  rfl
def NewAt (own : String) (idx ci : Nat) : Prop := ∃ (C : String) (T : u_T) (N : Nat), ClsOk ci C T N ∧ Cond.classLink own idx C ∈ gT ∧ Cond.instantiable C N ∈ gT ∧ Cond.initialized C ∈ gT
theorem r_new {ci nf idx : Nat} (hd : decode m.2.1 pc = .ok (.new idx, 3)) (hf : NewAt m.1.cls idx ci) (hnf : ∃ r : vw_C, vwCl[ci]? = some r ∧ r.2.2 = nf) (hty : ∀ k, k < nf → ftA ci k = .int ∨ ftA ci k = .boolean ∨ ftA ci k = .long ∨ (∃ n, ftA ci k = .object n) ∨ ∃ t, ftA ci k = .array t) (z0 : ∀ i, h.2 (hz h.1) i = 0) (rc : hz h.1 + 1 ≤ gcz G) (rs : hu h.1 + nf ≤ gcu G) (kk : Rn w m d G Q (pc + 3) ls (vr (hz h.1) :: st) (newB h.1 (ci, nf), h.2)) : Rn w m d G Q pc ls st h := by
  intro C H L locs cells slots hR hL hl hs
  obtain ⟨Cn, T, N, ⟨hc, hin, hty2, hnm, hlt⟩, hcl, hin2, hini⟩ := hf
  obtain ⟨r, hr, hr2⟩ := hnf
  have hN : N = nf := by
    have := Option.some.inj (hc.symm.trans hr)
    rw [← hr2, ← this]
  subst hN
  have hts := C.2.2.2.2.2.2.2.1
  have hK := C.2.2.2.2.2.2.2.2.1.1
  have hrc := C.2.2.2.2.2.2.2.2.2.2.2.1
  have p3 := hR.2.2.1
  have p4 := hR.2.2.2.1
  have hKn := hK.1 ci _ hc
  refine W.newcK C.1 C.2.1 C.2.2.2.2.2.2.1 (hts _ hcl) (hts _ hin2) (hts _ hini) rfl hd (by omega) (by omega) hKn.2.1 hR.1.1 (fun H1 kC hkC e1 z1 o1 => ?_)
  refine kk C H1 L locs _ _ (rep_new (k := (ci, N)) hR z0 rc rs z1 o1 ?_ (fun _ => ⟨_, hc, rfl⟩)) hL hl (okc trivial hs)
  rw [cellE_obj newB_kd hlt]
  refine ⟨_, hc, (u_born (ftA ci) hts hin hKn hkC e1 hty2).to (fun j hj => ?_)⟩
  show defaultValue (ftA ci j) = vp_V _ j
  unfold vp_V
  rw [List.getD_eq_getElem?_getD, fields_get hj, Option.getD_some]
  unfold fval
  rw [z0, newB_rf]
  rcases hty j hj with e | e | e | ⟨n, e⟩ | ⟨t, e⟩ <;> rw [e] <;> rfl
/-- a reference written into a base -/
def putB (B : HB) (a k b : Nat) : HB := (hz B, hu B, fun c => kd B c, fun c f => if c = a ∧ f = k then some b else rf B c f)
theorem cellE_putB {n : NM} {B : HB} {a k b c : Nat} (hc : c ≠ a) : cellE w (putB B a k b, n) c = cellE w (B, n) c :=
  cellE_cg rfl (funext fun f => if_neg (fun z => hc z.1))
theorem rep_putB {a k b ci nf : Nat} {H H1 : Heap} {locs locs1 : List Loc} {cells slots : Nat} (hR : Rep w G h H locs cells slots) (hc : va_at (wC w, wI w) vwCl (w0 w + a, cellE w (putB h.1 a k b, h.2) a) H1) (e2 : H1.size = H.size) (e3 : ∀ q : Nat, q ≠ w0 w + a → H1[q]? = H[q]?) (hl : ∀ q ∈ locs1, w0 w ≤ q.base) : Rep w G (putB h.1 a k b, h.2) H1 locs1 cells slots := by
  obtain ⟨⟨r1, r2, r3, r4, r5⟩, p2, p3, p4, p5, p6⟩ := hR
  refine ⟨⟨by rw [e2, r1]; rfl, fun q hq => (e3 q (by omega)).trans (r2 q hq), fun c hc2 => ?_, r4, r5⟩, hl, p3, p4, p5, p6⟩
  by_cases q : c = a
  · rw [q]
    exact hc
  · have e : cellE w ((putB h.1 a k b, h.2) : Hp) c = cellE w h c := cellE_putB q
    rw [e]
    exact (r3 c hc2).kept (e3 _ (by show w0 w + c ≠ w0 w + a; omega))
/-- a reference written into a final field, in the constructor -/
theorem r_putFR {a b ci nf k idx : Nat} (hd : decode m.2.1 pc = .ok (.putfield idx, 3)) (hf : PutFAt m.1.cls idx ci k) (hin2 : m.1.name = "<init>") (ho : Obj h.1 a ci nf) (hk : k < nf) (ht : isRefT (ftA ci k) = true) (kk : Rn w m d G Q (pc + 3) ls st (putB h.1 a k b, h.2)) : Rn w m d G Q pc ls (vr b :: vr a :: st) h := by
  intro C H L locs cells slots hR hL hl hs
  obtain ⟨Cn, T, N, ⟨hc, hin, hty, hnm, hlt⟩, hkN, hlk, hfin, hdecl⟩ := hf
  have hts := C.2.2.2.2.2.2.2.1
  have hK := C.2.2.2.2.2.2.2.2.1.1
  have hown := C.2.2.2.2.2.2.1
  have hP := hR.1.P1 ho.1 (cellE_obj (w := w) ho.2 hlt)
  have hap := va_apart (own := m.1.cls) hts hin (ftA ci) hty hnm hK hc
  obtain ⟨r, h1, cell, q1, q2, q3, q4⟩ := hP 0 _ rfl
  have hr : r = (Cn, T, N) := Option.some.inj (h1.symm.trans hc)
  subst hr
  obtain ⟨hS, hfc, kC, hkC, hkind⟩ := hK.1 ci _ hc
  obtain ⟨cf, kf, fi, f, hi, hsl⟩ := hS k hkN
  have hlay := hts _ (hin _ (u_in_lay hkN))
  unfold u_lay at hlay
  rw [if_pos hfin] at hlay
  have hst := (u_facts hfc hkC (u_lays hts hin hkN) hi).1
  have hcf : (gm G).cls = cf := by
    obtain ⟨_, _, c', _, _, _, -, -, hf', -, -, -, hown2, -⟩ := Cond.laysFinal_spec hlay
    have e1 : c' = cf := by have := hi.symm.trans hf'; simp at this; exact this.1.symm
    rw [hdecl] at hown2
    rw [← e1]
    exact Option.some.inj (hown.symm.trans hown2)
  have hn : narrow (ftA ci k) (.ref (w0 w + b)) = .ref (w0 w + b) := by
    cases htt : ftA ci k <;> rw [htt] at ht <;> first | (cases ht; done) | rfl
  have hfit : fits (ftA ci k) (.ref (w0 w + b)) = true := by
    cases htt : ftA ci k <;> rw [htt] at ht <;> first | (cases ht; done) | rfl
  have h6 := u_fits hfc hkC hkind (Or.inr hlay) hi (hty k hkN) hn hfit
  refine W.putFinK C.1 C.2.1 hown (hts _ hlk) hi hst hcf (C.2.2.2.2.2.1.trans hin2) (by rw [q2]; exact h6) q1 q3 (by rw [hsl]; exact k2_hasslot (q4 k hkN)) rfl rfl hd fun H' e1 e2 e3 => ?_
  rw [hsl] at e1 ⊢
  refine kk C H' L _ cells slots (rep_putB (ci := ci) (nf := nf) hR ?_ e2 e3 ?_) hL hl (oke (oke hs))
  · have ek : kd ((putB h.1 a k b, h.2) : Hp).1 a = (ci, nf) := ho.2
    rw [cellE_obj ek hlt]
    have es : (List.range nf).map (fun f => fval w (putB h.1 a k b) h.2 (ftA ci f) a f) = ((List.range nf).map (fun f => fval w h.1 h.2 (ftA ci f) a f)).set k (.ref (w0 w + b)) := by
      apply List.ext_getElem?
      intro j
      rw [List.getElem?_set]
      by_cases hj : j < nf
      · rw [fields_get hj]
        by_cases q : k = j
        · subst q
          rw [if_pos rfl, if_pos (by simpa using hk)]
          have : rf (putB h.1 a k b) a k = some b := if_pos ⟨rfl, rfl⟩
          congr 1
          cases htt : ftA ci k <;> rw [htt] at ht <;> first | (cases ht; done) | (simp only [fval, this]; rfl)
        · rw [if_neg q, fields_get hj]
          have ex : rf (putB h.1 a k b) a j = rf h.1 a j := if_neg (fun z => q z.2.symm)
          congr 1
          unfold fval
          split
          · rfl
          · rfl
          · rfl
          · rw [ex]
      · rw [List.getElem?_eq_none (by simp; omega), if_neg (by omega), List.getElem?_eq_none (by simp; omega)]
    rw [es]
    exact ⟨_, hc, t_OB.to (V := updV (vp_V _) k (.ref (w0 w + b))) ⟨_, e1, q2, q3, t_set q4 hap hkN _⟩ (fun j _ => vp_updV_set (by simpa using hk) _ j)⟩
  · intro q hq
    rcases List.mem_append.mp hq with hq | hq
    · exact hR.2.1 q hq
    · rw [List.mem_singleton.mp hq]
      exact Nat.le_add_right _ _
/-- a number written into a final field, in the constructor -/
theorem r_putFI {a ci nf k idx : Nat} {fi x : Int} {h' : Hp} (hd : decode m.2.1 pc = .ok (.putfield idx, 3)) (hf : PutFAt m.1.cls idx ci k) (hin2 : m.1.name = "<init>") (ho : Obj h.1 a ci nf) (hk : k < nf) (ht : ftA ci k = .int) (hfi : fi = (k : Int)) (hh : h' = (h.1, upn h.2 a fi x)) (kk : Rn w m d G Q (pc + 3) ls st h') : Rn w m d G Q pc ls (vi x :: vr a :: st) h := by
  intro C H L locs cells slots hR hL hl hs
  subst hfi
  subst hh
  have ox : inI x := okh hs
  obtain ⟨Cn, T, N, ⟨hc, hin, hty, hnm, hlt⟩, hkN, hlk, hfin, hdecl⟩ := hf
  have hts := C.2.2.2.2.2.2.2.1
  have hK := C.2.2.2.2.2.2.2.2.1.1
  have hown := C.2.2.2.2.2.2.1
  have hP := hR.1.P1 ho.1 (cellE_obj (w := w) ho.2 hlt)
  have hap := va_apart (own := m.1.cls) hts hin (ftA ci) hty hnm hK hc
  obtain ⟨r, h1, cell, q1, q2, q3, q4⟩ := hP 0 _ rfl
  have hr : r = (Cn, T, N) := Option.some.inj (h1.symm.trans hc)
  subst hr
  obtain ⟨hS, hfc, kC, hkC, hkind⟩ := hK.1 ci _ hc
  obtain ⟨cf, kf, fi, f, hi, hsl⟩ := hS k hkN
  have hlay := hts _ (hin _ (u_in_lay hkN))
  unfold u_lay at hlay
  rw [if_pos hfin] at hlay
  have hst := (u_facts hfc hkC (u_lays hts hin hkN) hi).1
  have hcf : (gm G).cls = cf := by
    obtain ⟨_, _, c', _, _, _, -, -, hf', -, -, -, hown2, -⟩ := Cond.laysFinal_spec hlay
    have e1 : c' = cf := by have := hi.symm.trans hf'; simp at this; exact this.1.symm
    rw [hdecl] at hown2
    rw [← e1]
    exact Option.some.inj (hown.symm.trans hown2)
  have hn : narrow (ftA ci k) (.int (Int32.ofInt x)) = .int (Int32.ofInt x) := by rw [ht]; rfl
  have hfit : fits (ftA ci k) (.int (Int32.ofInt x)) = true := by rw [ht]; rfl
  have hv : fval w h.1 (upn h.2 a (k : Int) x) (ftA ci k) a k = .int (Int32.ofInt x) := by rw [ht]; simp [fval, upn]
  have h6 := u_fits hfc hkC hkind (Or.inr hlay) hi (hty k hkN) hn hfit
  refine W.putFinK C.1 C.2.1 hown (hts _ hlk) hi hst hcf (C.2.2.2.2.2.1.trans hin2) (by rw [q2]; exact h6) q1 q3 (by rw [hsl]; exact k2_hasslot (q4 k hkN)) rfl rfl hd fun H' e1 e2 e3 => ?_
  rw [hsl] at e1 ⊢
  refine kk C H' L _ cells slots (Rep.wr (h' := (h.1, upn h.2 a (k : Int) x)) (a := a) hR rfl (cellE_obj ho.2 hlt) ?_ (fun b hb => cellE_up hb) (okH_up hR.1.2.2.2.1 (by rw [slT_obj ho.2 hlt, ht]; exact ox)) e2 e3 ?_) hL hl (oke (oke hs))
  · rw [fields_set hv]
    exact ⟨_, hc, t_OB.to (V := updV (vp_V _) k _) ⟨_, e1, q2, q3, t_set q4 hap hkN _⟩ (fun j _ => vp_updV_set (by simpa using hk) _ j)⟩
  · intro q hq
    rcases List.mem_append.mp hq with hq | hq
    · exact hR.2.1 q hq
    · rw [List.mem_singleton.mp hq]
      exact Nat.le_add_right _ _
def ObjIn (own : String) (idx : Nat) : Prop := Cond.methodLink own idx Lib.objectInit ∈ gT ∧ Cond.instanceMethod Lib.objectInit ∈ gT ∧ Cond.code Lib.objectInit ⟨#[0xb1]⟩ 1 none ∈ gT
theorem r_objInit {a idx : Nat} (hd : decode m.2.1 pc = .ok (.invokespecial idx, 3)) (hl : ObjIn m.1.cls idx) (hcat : catS st ≤ 8) (kk : Rn w m (d + 1) G Q (pc + 3) ls st h) : Rn w m (d + 1) G Q pc ls (vr a :: st) h := by
  intro C H L locs cells slots hR hL hlo hs
  have hts := C.2.2.2.2.2.2.2.1
  have hroom := C.2.2.2.2.2.2.2.2.2.1
  obtain ⟨l1, l2, l3⟩ := hl
  refine W.objInit C.1 C.2.1 C.2.2.2.2.2.2.1 (hts _ l1) (hts _ l2) (hts _ l3) rfl (by rw [C.2.2.1]; exact hL.1) rfl hd (by omega) ?_ (kk C H L locs cells slots hR hL hlo (oke hs))
  have := catS_enc w C.wF st
  show 2 * 0 + ((st.map (enc w)).map fun v => v.category).sum + 12 ≤ _
  omega
def AnewAt (own : String) (idx : Nat) (C : String) : Prop := Cond.classLink own idx C ∈ gT
theorem r_anew {len idx c : Nat} {x : Int} {Cn : String} (hd : decode m.2.1 pc = .ok (.anewarray idx, 3)) (hl : Cond.classLink m.1.cls idx Cn ∈ gT) (hc : (c = 0 ∧ Cn = "LakeWatch$Lake") ∨ (c = 1 ∧ Cn = "LakeWatch$Natural")) (hx : x = (len : Int)) (hle : len ≤ 100000) (z0 : ∀ i, h.2 (hz h.1) i = 0) (rc : hz h.1 + 1 ≤ gcz G) (rs : hu h.1 + len ≤ gcu G) (kk : Rn w m d G Q (pc + 3) ls (vr (hz h.1) :: st) (newB h.1 (103 + c, len), h.2)) : Rn w m d G Q pc ls (vi x :: st) h := by
  intro C H L locs cells slots hR hL hlo hs
  subst hx
  have il := i32_len hle
  have hts := C.2.2.2.2.2.2.2.1
  have hrc := C.2.2.2.2.2.2.2.2.2.2.2.1
  have hK := C.2.2.2.2.2.2.2.2.1
  have p3 := hR.2.2.1
  have p4 := hR.2.2.2.1
  have hover : va_AO Cn (gs G) := by
    rcases hc with ⟨_, rfl⟩ | ⟨_, rfl⟩
    · exact hK.2.2.1.1
    · exact hK.2.2.1.2
  have hty : (tysA w)[3 + c]? = some (wA w (3 + c), .object Cn) := by
    rcases hc with ⟨rfl, rfl⟩ | ⟨rfl, rfl⟩ <;> rfl
  refine W.anew C.1 C.2.1 C.2.2.2.2.2.2.1 (hts _ hl) (va_AO.use hover) rfl hd rfl il.1 (by rw [il.2]; omega) (by omega) (by rw [il.2]; omega) (fun cA kA comp f1 f2 f3 f4 => ?_)
  obtain ⟨_, _, _, _, _, f5⟩ := (hK.1.2 (3 + c) _ hty).2
  have hcA : cA = wA w (3 + c) := Option.some.inj (f1.symm.trans f5)
  subst hcA
  rw [il.2]
  generalize hH1 : H.push ({ cls := wA w (3 + c), slots := Array.replicate len .null, vm := .none } : Cell) = H1
  have z1 : H1.size = H.size + 1 := by rw [← hH1, Array.size_push]
  have e1 : H1[H.size]? = some (arrV (wA w (3 + c)) len (fun _ => .null)) := by rw [← hH1, Array.getElem?_push_size, ← arrV_new]
  have o1 : ∀ q : Nat, q < H.size → H1[q]? = H[q]? := fun q hq => by rw [← hH1, Array.getElem?_push, if_neg (Nat.ne_of_lt hq)]
  have sz : H.size = w0 w + hz h.1 := hR.1.1
  rw [sz] at z1 e1 o1 ⊢
  refine kk C H1 L locs _ _ (rep_new (k := (103 + c, len)) hR z0 rc rs z1 o1 ?_ (fun q => absurd q (show ¬ 103 + c < 100 by omega))) hL hlo (okc trivial (oke hs))
  rw [cellE_R newB_kd]
  show H1[w0 w + hz h.1]? = some (vp_cell _ _)
  rw [e1, vp_cell_q]
  congr 2
  funext i
  show Value.null = va_rf ((rf (newB h.1 (103 + c, len)) (hz h.1) i).map _)
  rw [newB_rf]
  rfl
/-- a reference stored in an array -/
theorem r_aast {a b c len ci nf : Nat} {i : Int} {Cn : String} (hd : decode m.2.1 pc = .ok (.aastore, 1)) (ho : Obj h.1 a (103 + c) len) (hob : Obj h.1 b ci nf) (hlt : ci < 100) (hc : (c = 0 ∧ Cn = "LakeWatch$Lake") ∨ (c = 1 ∧ Cn = "LakeWatch$Natural")) (hcl : ∃ r : vw_C, vwCl[ci]? = some r ∧ r.1 = Cn) (h0 : 0 ≤ i) (h1 : i < (len : Int)) (kk : Rn w m d G Q (pc + 1) ls st (putB h.1 a i.toNat b, h.2)) : Rn w m d G Q pc ls (vr b :: vi i :: vr a :: st) h := by
  intro C H L locs cells slots hR hL hlo hs
  have oi : inI i := okh (oke hs)
  have hin := i32_in oi h0 h1
  have hK := C.2.2.2.2.2.2.2.2.1
  obtain ⟨r, hr, hrn⟩ := hcl
  subst hrn
  have hty : (tysA w)[3 + c]? = some (wA w (3 + c), .object r.1) := by
    rcases hc with ⟨rfl, e⟩ | ⟨rfl, e⟩ <;> rw [e] <;> rfl
  have hA := hR.1.2.2.1 a ho.1
  have hBb := hR.1.2.2.1 b hob.1
  rw [cellE_R ho.2] at hA
  rw [cellE_obj (w := w) hob.2 hlt] at hBb
  have hA : H[w0 w + a]? = some (vp_cell (wA w (3 + c)) (len, .inr (.inr (.inr (.inr (fun i => (rf h.1 a i).map (fun b => w0 w + b))))))) := hA
  obtain ⟨r', hr', cellV, g1, g2, g3, -⟩ := hBb
  have hcls := (hK.1.1 ci r hr).2
  obtain ⟨kA, comp, k1, k2, k3, -⟩ := (hK.1.2 (3 + c) _ hty).2
  have hcomp : comp = wC w ci := Option.some.inj (k3.symm.trans hcls.1)
  subst hcomp
  obtain ⟨kC, hkC, -⟩ := hcls.2
  have hlt2 : (Int32.ofInt i).toNatClampNeg < len := Nat.not_le.mp fun q => hin (Or.inr q)
  have h02 : ¬ Int32.ofInt i < 0 := fun q => hin (Or.inl q)
  refine W.aast C.1 C.2.1 hA (fun q h => by cases h) (fun h => by cases h) k1 k2 rfl hkC ⟨h02, by show _ < (arrV _ _ _).slots.size; rw [arrV_size]; exact hlt2⟩ g1 (fun q h => by rw [g3] at h; cases h) (by rw [g2]; exact hkC) (by rw [g2]; exact va_assign hcls) rfl rfl hd fun H1 e z oq => ?_
  refine kk C H1 L _ cells slots (rep_putB (ci := 103 + c) (nf := len) hR ?_ z oq ?_) hL hlo (oke (oke (oke hs)))
  · have ek : kd ((putB h.1 a i.toNat b, h.2) : Hp).1 a = (103 + c, len) := ho.2
    rw [cellE_R ek]
    show H1[w0 w + a]? = some (vp_cell _ _)
    rw [e, vp_cell_q, vp_cell_q, arrV_store]
    congr 2
    funext q
    rw [i32_clamp oi]
    by_cases hq : q = i.toNat
    · subst hq
      have : rf (putB h.1 a i.toNat b) a i.toNat = some b := if_pos ⟨rfl, rfl⟩
      show updV _ _ _ _ = va_rf ((rf (putB h.1 a i.toNat b) a i.toNat).map _)
      rw [this]
      simp [updV, va_rf]
    · have : rf (putB h.1 a i.toNat b) a q = rf h.1 a q := if_neg (fun y => hq y.2)
      show updV _ _ _ _ = va_rf ((rf (putB h.1 a i.toNat b) a q).map _)
      rw [this]
      simp [updV, hq]
  · intro q hq
    rcases List.mem_append.mp hq with hq | hq
    · exact hR.2.1 q hq
    · rw [List.mem_singleton.mp hq]
      exact Nat.le_add_right _ _
end NEWOBJ
