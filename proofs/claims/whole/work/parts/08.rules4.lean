theorem cellE_I {w : WD} {h : Hp} {a len : Nat} (hk : kd h.1 a = (100, len)) : cellE w h a = .inl (wA w 0, len, .inl (fun i => Int32.ofInt (h.2 a (i : Int)))) := by
  simp [cellE, hk]
theorem cellE_J {w : WD} {h : Hp} {a len : Nat} (hk : kd h.1 a = (101, len)) : cellE w h a = .inl (wA w 1, len, .inr (.inl (fun i => Int64.ofInt (h.2 a (i : Int))))) := by
  simp [cellE, hk]
theorem cellE_Z {w : WD} {h : Hp} {a len : Nat} (hk : kd h.1 a = (102, len)) : cellE w h a = .inl (wA w 2, len, .inl (fun i => Int32.ofInt (h.2 a (i : Int)))) := by
  simp [cellE, hk]
theorem cellE_R {w : WD} {h : Hp} {a c len : Nat} (hk : kd h.1 a = (103 + c, len)) : cellE w h a = .inl (wA w (3 + c), len, .inr (.inr (.inr (.inr (fun i => (rf h.1 a i).map (fun b => w0 w + b)))))) := by
  have h1 : ¬ (103 + c < 100) := by omega
  have h2 : ¬ (103 + c = 100) := by omega
  have h3 : ¬ (103 + c = 101) := by omega
  have h4 : ¬ (103 + c = 102) := by omega
  have h5 : 103 + c - 100 = 3 + c := by omega
  simp [cellE, hk, h1, h2, h3, h4, h5]
theorem toN {i : Int} (h : 0 ≤ i) : ((i.toNat : Nat) : Int) = i := Int.toNat_of_nonneg h
section RULES4
variable {w : WD} {m : MI} {d : Nat} {G : GM} {Q : Option AV → Hp → Prop} {pc : Nat} {ls : List (Nat × AV)} {st : List AV} {h : Hp}
theorem r_iald {a len : Nat} {i : Int} (hd : decode m.2.1 pc = .ok (.iaload, 1)) (ho : Obj h.1 a 100 len) (h0 : 0 ≤ i) (h1 : i < (len : Int)) (kk : Rn w m d G Q (pc + 1) ls (vi (h.2 a i) :: st) h) : Rn w m d G Q pc ls (vi i :: vr a :: st) h := by
  intro C H L locs cells slots hR hL hl hs
  have oi : inI i := okh hs
  have hok := hR.1.2.2.2.1 a i.toNat
  rw [toN h0, show slT h.1 a i.toNat = .int by simp [slT, ho.2]] at hok
  have kk := kk C H L locs cells slots hR hL hl (okc (show okV (vi _) from hok) (oke (oke hs)))
  refine va_iald C.1 C.2.1 C.2.2.2.2.2.2.2.2.1.1 (hR.1.P1 ho.1 (cellE_I ho.2)) 0 0 rfl rfl (i32_in oi h0 h1) hd ?_
  rw [i32_clamp oi, toN h0]
  exact kk
theorem r_lald {a len : Nat} {i : Int} (hd : decode m.2.1 pc = .ok (.laload, 1)) (ho : Obj h.1 a 101 len) (h0 : 0 ≤ i) (h1 : i < (len : Int)) (kk : Rn w m d G Q (pc + 1) ls (vl (h.2 a i) :: st) h) : Rn w m d G Q pc ls (vi i :: vr a :: st) h := by
  intro C H L locs cells slots hR hL hl hs
  have oi : inI i := okh hs
  have hok := hR.1.2.2.2.1 a i.toNat
  rw [toN h0, show slT h.1 a i.toNat = .long by simp [slT, ho.2]] at hok
  have kk := kk C H L locs cells slots hR hL hl (okc (show okV (vl _) from hok) (oke (oke hs)))
  refine va_lald C.1 C.2.1 C.2.2.2.2.2.2.2.2.1.1 (hR.1.P1 ho.1 (cellE_J ho.2)) 0 1 rfl rfl (i32_in oi h0 h1) hd ?_
  rw [i32_clamp oi, toN h0]
  exact kk
theorem r_zald {a len : Nat} {i : Int} (hd : decode m.2.1 pc = .ok (.baload, 1)) (ho : Obj h.1 a 102 len) (h0 : 0 ≤ i) (h1 : i < (len : Int)) (kk : h.2 a i = 0 ∨ h.2 a i = 1 → Rn w m d G Q (pc + 1) ls (vi (h.2 a i) :: st) h) : Rn w m d G Q pc ls (vi i :: vr a :: st) h := by
  intro C H L locs cells slots hR hL hl hs
  have oi : inI i := okh hs
  have hok := hR.1.2.2.2.1 a i.toNat
  rw [toN h0, show slT h.1 a i.toNat = .boolean by simp [slT, ho.2]] at hok
  have kk := kk hok C H L locs cells slots hR hL hl (okc (show okV (vi _) by
    show inI _
    rcases hok with e | e <;> rw [e] <;> exact ⟨by decide, by decide⟩) (oke (oke hs)))
  refine va_zald C.1 C.2.1 C.2.2.2.2.2.2.2.2.1.1 (hR.1.P1 ho.1 (cellE_Z ho.2)) 0 2 rfl rfl (i32_in oi h0 h1) hd ?_
  rw [i32_clamp oi, toN h0]
  exact kk
theorem r_aald {a b c len : Nat} {i : Int} {Cn : String} (hd : decode m.2.1 pc = .ok (.aaload, 1)) (ho : Obj h.1 a (103 + c) len) (hc : (tysA w)[3 + c]? = some (wA w (3 + c), .object Cn)) (h0 : 0 ≤ i) (h1 : i < (len : Int)) (hr : rf h.1 a i.toNat = some b) (kk : Rn w m d G Q (pc + 1) ls (vr b :: st) h) : Rn w m d G Q pc ls (vi i :: vr a :: st) h := by
  intro C H L locs cells slots hR hL hl hs
  have oi : inI i := okh hs
  have kk := kk C H L locs cells slots hR hL hl (okc (show okV (vr _) from trivial) (oke (oke hs)))
  refine va_aldq C.1 C.2.1 C.2.2.2.2.2.2.2.2.1.1 (hR.1.P1 ho.1 (cellE_R ho.2)) 0 (3 + c) rfl hc (i32_in oi h0 h1) hd ?_
  rw [i32_clamp oi, hr]
  exact kk
theorem r_alen {a c len : Nat} {x : Int} (hd : decode m.2.1 pc = .ok (.arraylength, 1)) (ho : Obj h.1 a (100 + c) len) (hc : c < 2) (hx : x = (len : Int)) (hlen : inI x) (kk : Rn w m d G Q (pc + 1) ls (vi x :: st) h) : Rn w m d G Q pc ls (vr a :: st) h := by
  intro C H L locs cells slots hR hL hl hs
  subst hx
  have kk := kk C H L locs cells slots hR hL hl (okc (show okV (vi _) from hlen) (oke hs))
  have e : Int32.ofNat len = Int32.ofInt (len : Int) := rfl
  match c, hc, ho with
  | 0, _, ho => exact va_alen C.1 C.2.1 C.2.2.2.2.2.2.2.2.1.1 (hR.1.P1 ho.1 (cellE_I ho.2)) 0 0 rfl rfl e hd kk
  | 1, _, ho => exact va_alen C.1 C.2.1 C.2.2.2.2.2.2.2.2.1.1 (hR.1.P1 ho.1 (cellE_J ho.2)) 0 1 rfl rfl e hd kk
theorem updI_eq {n : NM} {a : Nat} {i x : Int} (oi : inI i) (h0 : 0 ≤ i) : upd (fun j : Nat => Int32.ofInt (n a (j : Int))) (Int32.ofInt i).toNatClampNeg (Int32.ofInt x) = (fun j : Nat => Int32.ofInt (upn n a i x a (j : Int))) := by
  funext j
  rw [i32_clamp oi]
  unfold upd upn
  by_cases c : j = i.toNat
  · have : (j : Int) = i := by rw [c]; exact toN h0
    rw [if_pos c, if_pos ⟨rfl, this⟩]
  · have : ¬ (j : Int) = i := by omega
    rw [if_neg c, if_neg (fun q => this q.2)]
theorem r_iast {a len : Nat} {i x : Int} {h' : Hp} (hd : decode m.2.1 pc = .ok (.iastore, 1)) (ho : Obj h.1 a 100 len) (h0 : 0 ≤ i) (h1 : i < (len : Int)) (hh : h' = (h.1, upn h.2 a i x)) (kk : Rn w m d G Q (pc + 1) ls st h') : Rn w m d G Q pc ls (vi x :: vi i :: vr a :: st) h := by
  intro C H L locs cells slots hR hL hl hs
  subst hh
  have ox : inI x := okh hs
  have oi : inI i := okh (oke hs)
  have hin := i32_in oi h0 h1
  have hK := C.2.2.2.2.2.2.2.2.1.1
  have hP := hR.1.P1 ho.1 (cellE_I (w := w) ho.2)
  have hcell : H[w0 w + a]? = some (vp_cell (wA w 0) (len, .inl (fun j : Nat => Int32.ofInt (h.2 a (j : Int))))) := hP 0 _ rfl
  refine W.iast C.1 C.2.1 hcell ((hK.2 0 _ rfl).1 len (fun j => .int (Int32.ofInt (h.2 a (j : Int))))) (fun q => by cases q) (by show ¬ (Int32.ofInt i < 0 ∨ (arrV _ _ _).slots.size ≤ _); rw [arrV_size]; exact hin) rfl rfl hd fun H1 e z oq => ?_
  refine kk C H1 L _ cells slots (Rep.wr (h' := (h.1, upn h.2 a i x)) (a := a) hR rfl (cellE_I ho.2) ?_ (fun b hb => cellE_up hb) ?_ z oq ?_) hL hl (oke (oke (oke hs)))
  · show H1[w0 w + a]? = some (vp_cell _ _)
    rw [e, vp_cell_i, vp_cell_i, arrV_store]
    congr 2
    funext q
    have e2 := congrFun (updI_eq (n := h.2) (a := a) (x := x) oi h0) q
    show updV (fun j : Nat => Value.int (Int32.ofInt (h.2 a (j : Int)))) _ _ q = Value.int (Int32.ofInt (upn h.2 a i x a (q : Int)))
    rw [← e2]
    by_cases hq : q = (Int32.ofInt i).toNatClampNeg
    · subst hq
      simp [updV, upd]
    · simp [updV, upd, hq]
  · have := okH_up (a := a) (k := i.toNat) (x := x) hR.1.2.2.2.1 (by rw [show slT h.1 a i.toNat = .int by simp [slT, ho.2]]; exact ox)
    rw [toN h0] at this
    exact this
  · intro q hq
    rcases List.mem_append.mp hq with hq | hq
    · exact hR.2.1 q hq
    · rw [List.mem_singleton.mp hq]
      exact Nat.le_add_right _ _
theorem r_last {a len : Nat} {i x : Int} {h' : Hp} (hd : decode m.2.1 pc = .ok (.lastore, 1)) (ho : Obj h.1 a 101 len) (h0 : 0 ≤ i) (h1 : i < (len : Int)) (hh : h' = (h.1, upn h.2 a i x)) (kk : Rn w m d G Q (pc + 1) ls st h') : Rn w m d G Q pc ls (vl x :: vi i :: vr a :: st) h := by
  intro C H L locs cells slots hR hL hl hs
  subst hh
  have ox : inJ x := okh hs
  have oi : inI i := okh (oke hs)
  have hin := i32_in oi h0 h1
  have hK := C.2.2.2.2.2.2.2.2.1.1
  have hP := hR.1.P1 ho.1 (cellE_J (w := w) ho.2)
  have hcell : H[w0 w + a]? = some (vp_cell (wA w 1) (len, .inr (.inl (fun j : Nat => Int64.ofInt (h.2 a (j : Int)))))) := hP 0 _ rfl
  refine W.last C.1 C.2.1 hcell ((hK.2 1 _ rfl).1 len (fun j => .long (Int64.ofInt (h.2 a (j : Int))))) (fun q => by cases q) (by show ¬ (Int32.ofInt i < 0 ∨ (arrV _ _ _).slots.size ≤ _); rw [arrV_size]; exact hin) rfl rfl hd fun H1 e z oq => ?_
  refine kk C H1 L _ cells slots (Rep.wr (h' := (h.1, upn h.2 a i x)) (a := a) hR rfl (cellE_J ho.2) ?_ (fun b hb => cellE_up hb) ?_ z oq ?_) hL hl (oke (oke (oke hs)))
  · show H1[w0 w + a]? = some (vp_cell _ _)
    rw [e, vp_cell_l, vp_cell_l, arrV_store]
    congr 2
    funext q
    show updV (fun j : Nat => Value.long (Int64.ofInt (h.2 a (j : Int)))) _ _ q = Value.long (Int64.ofInt (upn h.2 a i x a (q : Int)))
    rw [i32_clamp oi]
    unfold updV upn
    by_cases c : q = i.toNat
    · have : (q : Int) = i := by rw [c]; exact toN h0
      rw [if_pos c, if_pos ⟨rfl, this⟩]
    · have : ¬ (q : Int) = i := by omega
      rw [if_neg c, if_neg (fun z => this z.2)]
  · have := okH_up (a := a) (k := i.toNat) (x := x) hR.1.2.2.2.1 (by rw [show slT h.1 a i.toNat = .long by simp [slT, ho.2]]; exact ox)
    rw [toN h0] at this
    exact this
  · intro q hq
    rcases List.mem_append.mp hq with hq | hq
    · exact hR.2.1 q hq
    · rw [List.mem_singleton.mp hq]
      exact Nat.le_add_right _ _
theorem r_zast {a len : Nat} {i x : Int} {h' : Hp} (hd : decode m.2.1 pc = .ok (.bastore, 1)) (ho : Obj h.1 a 102 len) (h0 : 0 ≤ i) (h1 : i < (len : Int)) (hx : x = 0 ∨ x = 1) (hh : h' = (h.1, upn h.2 a i x)) (kk : Rn w m d G Q (pc + 1) ls st h') : Rn w m d G Q pc ls (vi x :: vi i :: vr a :: st) h := by
  intro C H L locs cells slots hR hL hl hs
  subst hh
  have oi : inI i := okh (oke hs)
  have hin := i32_in oi h0 h1
  have hK := C.2.2.2.2.2.2.2.2.1.1
  have hP := hR.1.P1 ho.1 (cellE_Z (w := w) ho.2)
  have hcell : H[w0 w + a]? = some (vp_cell (wA w 2) (len, .inl (fun j : Nat => Int32.ofInt (h.2 a (j : Int))))) := hP 0 _ rfl
  have hnar : narrow .boolean (.int (Int32.ofInt x)) = .int (Int32.ofInt x) := by rcases hx with rfl | rfl <;> decide +kernel
  refine W.zast C.1 C.2.1 hcell ((hK.2 2 _ rfl).1 len (fun j => .int (Int32.ofInt (h.2 a (j : Int))))) (fun q => by cases q) (by show ¬ (Int32.ofInt i < 0 ∨ (arrV _ _ _).slots.size ≤ _); rw [arrV_size]; exact hin) rfl rfl hd fun H1 e z oq => ?_
  rw [hnar] at e
  refine kk C H1 L _ cells slots (Rep.wr (h' := (h.1, upn h.2 a i x)) (a := a) hR rfl (cellE_Z ho.2) ?_ (fun b hb => cellE_up hb) ?_ z oq ?_) hL hl (oke (oke (oke hs)))
  · show H1[w0 w + a]? = some (vp_cell _ _)
    rw [e, vp_cell_i, vp_cell_i, arrV_store]
    congr 2
    funext q
    have e2 := congrFun (updI_eq (n := h.2) (a := a) (x := x) oi h0) q
    show updV (fun j : Nat => Value.int (Int32.ofInt (h.2 a (j : Int)))) _ _ q = Value.int (Int32.ofInt (upn h.2 a i x a (q : Int)))
    rw [← e2]
    by_cases hq : q = (Int32.ofInt i).toNatClampNeg
    · subst hq
      simp [updV, upd]
    · simp [updV, upd, hq]
  · have := okH_up (a := a) (k := i.toNat) (x := x) hR.1.2.2.2.1 (by rw [show slT h.1 a i.toNat = .boolean by simp [slT, ho.2]]; exact hx)
    rw [toN h0] at this
    exact this
  · intro q hq
    rcases List.mem_append.mp hq with hq | hq
    · exact hR.2.1 q hq
    · rw [List.mem_singleton.mp hq]
      exact Nat.le_add_right _ _
end RULES4
