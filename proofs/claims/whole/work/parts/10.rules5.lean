def MathOk (own : String) (idx : Nat) (y : MethodName) (b : ByteArray) (ml : Nat) : Prop :=
  Cond.methodLink own idx y ∈ gT ∧ Cond.static y ∈ gT ∧ Cond.initialized "java/lang/Math" ∈ gT ∧ Cond.code y b ml (some .int) ∈ gT
def CopyOk (own : String) (idx : Nat) : Prop :=
  Cond.methodLink own idx arraycopyName ∈ gT ∧ Cond.native arraycopyName ∈ gT ∧ Cond.static arraycopyName ∈ gT ∧ Cond.initialized "java/lang/System" ∈ gT
def cpn (n : NM) (a0 a : Nat) (len : Int) : NM := fun b j => if b = a ∧ 0 ≤ j ∧ j < len then n a0 j else n b j
section RULES5
variable {w : WD} {m : MI} {d : Nat} {G : GM} {Q : Option AV → Hp → Prop} {pc : Nat} {ls : List (Nat × AV)} {st : List AV} {h : Hp}
theorem r_mmax {idx : Nat} {x y : Int} (hd : decode m.2.1 pc = .ok (.invokestatic idx, 3)) (hl : MathOk m.1.cls idx Lib.Math.max.name Lib.Math.max.code 2) (hcat : catS st ≤ 8) (k : Rn w m (d + 1) G Q (pc + 3) ls (vi (max x y) :: st) h) : Rn w m (d + 1) G Q pc ls (vi y :: vi x :: st) h := by
  intro C H L locs cells slots hR hL hlo hs
  have hts := C.2.2.2.2.2.2.2.1
  obtain ⟨l1, l2, l3, l4⟩ := hl
  have hroom := C.2.2.2.2.2.2.2.2.2.1
  have hcaps := C.2.2.2.2.2.2.2.2.2.2.2.1
  have c1 := hR.2.2.1
  have c2 := hR.2.2.2.1
  have c3 := hR.2.2.2.2.1
  have c4 := hR.2.2.2.2.2
  have ox : inI x := okh (oke hs)
  have oy : inI y := okh hs
  have ho2 : okV (vi (max x y)) := by
    show inI _
    omega
  have e : (if Int32.ofInt x < Int32.ofInt y then Int32.ofInt y else Int32.ofInt x) = Int32.ofInt (max x y) := by
    by_cases c : x < y
    · rw [if_pos ((i32_lt ox oy).mpr c)]
      congr 1
      omega
    · rw [if_neg (fun q => c ((i32_lt ox oy).mp q))]
      congr 1
      omega
  refine va_mmax C.1 C.2.1 (by rw [C.2.2.1]; exact hL.1.symm) C.2.2.2.2.2.2.1 (hts _ l1) (hts _ l2) (hts _ l3) (hts _ l4) (by omega) (by rw [catS_enc w C.wF]; omega) (by omega) (by omega) hd ?_
  rw [e]
  exact k C H L locs cells slots hR hL hlo (okc ho2 (oke (oke hs)))
theorem r_mmin {idx : Nat} {x y : Int} (hd : decode m.2.1 pc = .ok (.invokestatic idx, 3)) (hl : MathOk m.1.cls idx Lib.Math.min.name Lib.Math.min.code 2) (hcat : catS st ≤ 8) (k : Rn w m (d + 1) G Q (pc + 3) ls (vi (min x y) :: st) h) : Rn w m (d + 1) G Q pc ls (vi y :: vi x :: st) h := by
  intro C H L locs cells slots hR hL hlo hs
  have hts := C.2.2.2.2.2.2.2.1
  obtain ⟨l1, l2, l3, l4⟩ := hl
  have hroom := C.2.2.2.2.2.2.2.2.2.1
  have hcaps := C.2.2.2.2.2.2.2.2.2.2.2.1
  have c1 := hR.2.2.1
  have c2 := hR.2.2.2.1
  have c3 := hR.2.2.2.2.1
  have c4 := hR.2.2.2.2.2
  have ox : inI x := okh (oke hs)
  have oy : inI y := okh hs
  have ho2 : okV (vi (min x y)) := by
    show inI _
    omega
  have e : (if Int32.ofInt y < Int32.ofInt x then Int32.ofInt y else Int32.ofInt x) = Int32.ofInt (min x y) := by
    by_cases c : y < x
    · rw [if_pos ((i32_lt oy ox).mpr c)]
      congr 1
      omega
    · rw [if_neg (fun q => c ((i32_lt oy ox).mp q))]
      congr 1
      omega
  refine va_mmin C.1 C.2.1 (by rw [C.2.2.1]; exact hL.1.symm) C.2.2.2.2.2.2.1 (hts _ l1) (hts _ l2) (hts _ l3) (hts _ l4) (by omega) (by rw [catS_enc w C.wF]; omega) (by omega) (by omega) hd ?_
  rw [e]
  exact k C H L locs cells slots hR hL hlo (okc ho2 (oke (oke hs)))
theorem r_mabs {idx : Nat} {x : Int} (hd : decode m.2.1 pc = .ok (.invokestatic idx, 3)) (hl : MathOk m.1.cls idx Lib.Math.abs.name Lib.Math.abs.code 1) (hcat : catS st ≤ 8) (ho : -2147483647 ≤ x) (k : Rn w m (d + 1) G Q (pc + 3) ls (vi (if 0 ≤ x then x else -x) :: st) h) : Rn w m (d + 1) G Q pc ls (vi x :: st) h := by
  intro C H L locs cells slots hR hL hlo hs
  have hts := C.2.2.2.2.2.2.2.1
  obtain ⟨l1, l2, l3, l4⟩ := hl
  have hroom := C.2.2.2.2.2.2.2.2.2.1
  have hcaps := C.2.2.2.2.2.2.2.2.2.2.2.1
  have c1 := hR.2.2.1
  have c2 := hR.2.2.2.1
  have c3 := hR.2.2.2.2.1
  have c4 := hR.2.2.2.2.2
  have ox : inI x := okh hs
  have ho2 : okV (vi (if 0 ≤ x then x else -x)) := by
    show inI _
    by_cases c : 0 ≤ x
    · rw [if_pos c]
      exact ox
    · rw [if_neg c]
      omega
  have e : (if 0 ≤ Int32.ofInt x then Int32.ofInt x else 0 - Int32.ofInt x) = Int32.ofInt (if 0 ≤ x then x else -x) := by
    have z : (0 : Int32) = Int32.ofInt 0 := rfl
    by_cases c : 0 ≤ x
    · rw [if_pos c, z, if_pos ((i32_le (by omega) ox).mpr c)]
    · rw [if_neg c, z, if_neg (fun q => c ((i32_le (by omega) ox).mp q)), ← Int32.ofInt_sub]
      congr 1
      omega
  refine va_mabs C.1 C.2.1 (by rw [C.2.2.1]; exact hL.1.symm) C.2.2.2.2.2.2.1 (hts _ l1) (hts _ l2) (hts _ l3) (hts _ l4) (by omega) (by rw [catS_enc w C.wF]; omega) (by omega) (by omega) hd ?_
  rw [e]
  exact k C H L locs cells slots hR hL hlo (okc ho2 (oke hs))
theorem r_copyI {idx a0 a n0 n1 : Nat} {len : Int} {h' : Hp} (hd : decode m.2.1 pc = .ok (.invokestatic idx, 3)) (hl : CopyOk m.1.cls idx) (hcat : catS st ≤ 8) (ho0 : Obj h.1 a0 100 n0) (ho1 : Obj h.1 a 100 n1) (h3 : 0 ≤ len) (h4 : len ≤ (n0 : Int)) (h5 : len ≤ (n1 : Int)) (hh : h' = (h.1, cpn h.2 a0 a len)) (k : Rn w m (d + 1) G Q (pc + 3) ls st h') : Rn w m (d + 1) G Q pc ls (vi len :: vi 0 :: vr a :: vi 0 :: vr a0 :: st) h := by
  intro C H L locs cells slots hR hL hlo hs
  subst hh
  have hts := C.2.2.2.2.2.2.2.1
  obtain ⟨l1, l2, l3, l4⟩ := hl
  have hroom := C.2.2.2.2.2.2.2.2.2.1
  have hK := C.2.2.2.2.2.2.2.2.1.1
  have ol : inI len := okh hs
  have hsr := oke (oke (oke (oke (oke hs))))
  have hP0 := hR.1.P1 ho0.1 (cellE_I (w := w) ho0.2)
  have hP1 := hR.1.P1 ho1.1 (cellE_I (w := w) ho1.2)
  have hc0 : H[w0 w + a0]? = some (vp_cell (wA w 0) (n0, .inl (fun j : Nat => Int32.ofInt (h.2 a0 (j : Int))))) := hP0 0 _ rfl
  have hc1 : H[w0 w + a]? = some (vp_cell (wA w 0) (n1, .inl (fun j : Nat => Int32.ofInt (h.2 a (j : Int))))) := hP1 0 _ rfl
  have hcl : (Int32.ofInt len).toNatClampNeg = len.toNat := i32_clamp ol
  have hli : (Int32.ofInt len).toInt = len := i32_int ol
  obtain ⟨-, k0, hk0, cm0, hkk0⟩ := (hK.2 0 _ rfl).1 n0 (fun j => Value.int ((fun j : Nat => Int32.ofInt (h.2 a0 (j : Int))) j))
  obtain ⟨-, k1, hk1, cm1, hkk1⟩ := (hK.2 0 _ rfl).1 n1 (fun j => Value.int ((fun j : Nat => Int32.ofInt (h.2 a (j : Int))) j))
  intro T hT X
  obtain ⟨vm', X', step⟩ := X.arraycopy C.1 C.2.2.2.2.2.2.1 (hts _ l1) (hts _ l2) (hts _ l3) (hts _ l4) (src := w0 w + a0) (dst := w0 w + a) (cs := vp_cell (wA w 0) (n0, .inl (fun j : Nat => Int32.ofInt (h.2 a0 (j : Int))))) (cd := vp_cell (wA w 0) (n1, .inl (fun j : Nat => Int32.ofInt (h.2 a (j : Int))))) (srcPos := Int32.ofInt 0) (destPos := Int32.ofInt 0) (n := Int32.ofInt len) (by rw [hT]; exact hc0) (by rw [hT]; exact hc1)
    (fun _ h => by cases h) (fun _ h => by cases h) (fun h => by cases h) (fun h => by cases h) hk0 hk1 hkk0 hkk1 (by rfl) (by decide) (by decide) (fun q => by have := (i32_lt ol (show inI 0 from ⟨by decide, by decide⟩)).mp q; omega)
    (by rw [hli]; show ¬ (0 : Int) + len > ((arrV _ n0 (fun j => Value.int ((fun j : Nat => Int32.ofInt (h.2 a0 (j : Int))) j))).slots.size : Int); rw [arrV_size]; omega)
    (by rw [hli]; show ¬ (0 : Int) + len > ((arrV _ n1 (fun j => Value.int ((fun j : Nat => Int32.ofInt (h.2 a (j : Int))) j))).slots.size : Int); rw [arrV_size]; omega)
    (fun vm₁ _ i hi => by
      rw [hcl] at hi
      have e : (vp_cell (wA w 0) (n0, .inl (fun j : Nat => Int32.ofInt (h.2 a0 (j : Int))))).slots.getD ((Int32.ofInt 0).toNatClampNeg + i) .null = Value.int ((fun j : Nat => Int32.ofInt (h.2 a0 (j : Int))) i) := by
        show (arrV _ n0 (fun j => Value.int ((fun j : Nat => Int32.ofInt (h.2 a0 (j : Int))) j))).slots.getD (0 + i) _ = _
        rw [Nat.zero_add, Array.getD_eq_getD_getElem?, arrV_read _ _ (by omega)]
        rfl
      refine ⟨?_, ?_⟩
      · rw [e]
        rfl
      · rw [e]
        exact trivial)
    (g := F0 (gm G) pc L (Value.int (Int32.ofInt len) :: .int (Int32.ofInt 0) :: .ref (w0 w + a) :: .int (Int32.ofInt 0) :: .ref (w0 w + a0) :: st.map (enc w))) rfl (by rw [C.2.2.1]; exact hL.1) (rest := st.map (enc w)) rfl (by rw [C.2.1]; exact hd) (by omega) (by
      have e := catS_enc w C.wF st
      show 2 * 0 + _ + (_ + 11) ≤ _
      rw [e, show nativeFrameWords "java/lang/System" "arraycopy" 5 = 7 by decide +kernel]
      omega)
  have e1 : copied (vp_cell (wA w 0) (n0, .inl (fun j : Nat => Int32.ofInt (h.2 a0 (j : Int))))) (vp_cell (wA w 0) (n1, .inl (fun j : Nat => Int32.ofInt (h.2 a (j : Int))))) (Int32.ofInt 0) (Int32.ofInt 0) (Int32.ofInt len) = vp_cell (wA w 0) (n1, .inl (va_cpy (fun j : Nat => Int32.ofInt (h.2 a0 (j : Int))) (fun j : Nat => Int32.ofInt (h.2 a (j : Int))) (Int32.ofInt 0).toNatClampNeg (Int32.ofInt 0).toNatClampNeg (Int32.ofInt len).toNatClampNeg)) := va_copied (fun z => Value.int z) _ _ (fun j : Nat => Int32.ofInt (h.2 a0 (j : Int))) (fun j : Nat => Int32.ofInt (h.2 a (j : Int))) (by rw [hcl]; show 0 + _ ≤ _; omega)
  have e2 : (va_cpy (fun j : Nat => Int32.ofInt (h.2 a0 (j : Int))) (fun j : Nat => Int32.ofInt (h.2 a (j : Int))) (Int32.ofInt 0).toNatClampNeg (Int32.ofInt 0).toNatClampNeg (Int32.ofInt len).toNatClampNeg) = (fun j : Nat => Int32.ofInt (cpn h.2 a0 a len a (j : Int))) := by
    funext j
    rw [hcl]
    show (if 0 ≤ j ∧ j < 0 + len.toNat then (fun j : Nat => Int32.ofInt (h.2 a0 (j : Int))) (0 + (j - 0)) else (fun j : Nat => Int32.ofInt (h.2 a (j : Int))) j) = _
    unfold cpn
    by_cases c : j < len.toNat
    · rw [if_pos ⟨Nat.zero_le _, by omega⟩, if_pos ⟨rfl, by omega, by omega⟩]
      simp
    · rw [if_neg (by omega), if_neg (by omega)]
  rw [e2] at e1
  rw [e1] at X' step
  have hlt : w0 w + a < H.size := (Array.getElem?_eq_some_iff.mp hc1).1
  have hheap : ((T.setVm vm').setCell (w0 w + a) (vp_cell (wA w 0) (n1, .inl (fun j : Nat => Int32.ofInt (cpn h.2 a0 a len a (j : Int)))))).heap = H.setIfInBounds (w0 w + a) (vp_cell (wA w 0) (n1, .inl (fun j : Nat => Int32.ofInt (cpn h.2 a0 a len a (j : Int))))) := by rw [← hT]; rfl
  have hu2 : ∀ b, b ≠ a → cpn h.2 a0 a len b = h.2 b := fun b hb => by
    funext j
    simp [cpn, hb]
  obtain ⟨t, a1, b1⟩ := k C _ L _ cells slots (Rep.wr (h' := (h.1, cpn h.2 a0 a len)) (a := a) hR rfl (cellE_I ho1.2) (show (H.setIfInBounds (w0 w + a) _)[w0 w + a]? = some _ by simp only [Array.getElem?_setIfInBounds, hlt, if_true]) (fun b hb => cellE_same (hu2 b hb)) (fun b i => by
      show okT _ (cpn h.2 a0 a len b (i : Int))
      unfold cpn
      by_cases c : b = a ∧ 0 ≤ (i : Int) ∧ (i : Int) < len
      · rw [if_pos c]
        have h9 := hR.1.2.2.2.1 a0 i
        rw [show slT h.1 a0 i = .int by simp [slT, ho0.2]] at h9
        rw [c.1, show slT h.1 a i = .int by simp [slT, ho1.2]]
        exact h9
      · rw [if_neg c]
        exact hR.1.2.2.2.1 b i) (by simp) (fun q hq => by simp [Array.getElem?_setIfInBounds, Ne.symm hq]) (fun q hq => by
      rcases List.mem_append.mp hq with hq | hq
      · exact hR.2.1 q hq
      · obtain ⟨z, -, hz⟩ := List.mem_map.mp hq
        rw [← hz]
        exact Nat.le_add_right _ _)) hL hlo hsr _ hheap X'
  exact ⟨t, step t a1, b1⟩
theorem r_copyJ {idx a0 a n0 n1 : Nat} {len : Int} {h' : Hp} (hd : decode m.2.1 pc = .ok (.invokestatic idx, 3)) (hl : CopyOk m.1.cls idx) (hcat : catS st ≤ 8) (ho0 : Obj h.1 a0 101 n0) (ho1 : Obj h.1 a 101 n1) (h3 : 0 ≤ len) (h4 : len ≤ (n0 : Int)) (h5 : len ≤ (n1 : Int)) (hh : h' = (h.1, cpn h.2 a0 a len)) (k : Rn w m (d + 1) G Q (pc + 3) ls st h') : Rn w m (d + 1) G Q pc ls (vi len :: vi 0 :: vr a :: vi 0 :: vr a0 :: st) h := by
  intro C H L locs cells slots hR hL hlo hs
  subst hh
  have hts := C.2.2.2.2.2.2.2.1
  obtain ⟨l1, l2, l3, l4⟩ := hl
  have hroom := C.2.2.2.2.2.2.2.2.2.1
  have hK := C.2.2.2.2.2.2.2.2.1.1
  have ol : inI len := okh hs
  have hsr := oke (oke (oke (oke (oke hs))))
  have hP0 := hR.1.P1 ho0.1 (cellE_J (w := w) ho0.2)
  have hP1 := hR.1.P1 ho1.1 (cellE_J (w := w) ho1.2)
  have hc0 : H[w0 w + a0]? = some (vp_cell (wA w 1) (n0, .inr (.inl (fun j : Nat => Int64.ofInt (h.2 a0 (j : Int)))))) := hP0 0 _ rfl
  have hc1 : H[w0 w + a]? = some (vp_cell (wA w 1) (n1, .inr (.inl (fun j : Nat => Int64.ofInt (h.2 a (j : Int)))))) := hP1 0 _ rfl
  have hcl : (Int32.ofInt len).toNatClampNeg = len.toNat := i32_clamp ol
  have hli : (Int32.ofInt len).toInt = len := i32_int ol
  obtain ⟨-, k0, hk0, cm0, hkk0⟩ := (hK.2 1 _ rfl).1 n0 (fun j => Value.long ((fun j : Nat => Int64.ofInt (h.2 a0 (j : Int))) j))
  obtain ⟨-, k1, hk1, cm1, hkk1⟩ := (hK.2 1 _ rfl).1 n1 (fun j => Value.long ((fun j : Nat => Int64.ofInt (h.2 a (j : Int))) j))
  intro T hT X
  obtain ⟨vm', X', step⟩ := X.arraycopy C.1 C.2.2.2.2.2.2.1 (hts _ l1) (hts _ l2) (hts _ l3) (hts _ l4) (src := w0 w + a0) (dst := w0 w + a) (cs := vp_cell (wA w 1) (n0, .inr (.inl (fun j : Nat => Int64.ofInt (h.2 a0 (j : Int)))))) (cd := vp_cell (wA w 1) (n1, .inr (.inl (fun j : Nat => Int64.ofInt (h.2 a (j : Int)))))) (srcPos := Int32.ofInt 0) (destPos := Int32.ofInt 0) (n := Int32.ofInt len) (by rw [hT]; exact hc0) (by rw [hT]; exact hc1)
    (fun _ h => by cases h) (fun _ h => by cases h) (fun h => by cases h) (fun h => by cases h) hk0 hk1 hkk0 hkk1 (by rfl) (by decide) (by decide) (fun q => by have := (i32_lt ol (show inI 0 from ⟨by decide, by decide⟩)).mp q; omega)
    (by rw [hli]; show ¬ (0 : Int) + len > ((arrV _ n0 (fun j => Value.long ((fun j : Nat => Int64.ofInt (h.2 a0 (j : Int))) j))).slots.size : Int); rw [arrV_size]; omega)
    (by rw [hli]; show ¬ (0 : Int) + len > ((arrV _ n1 (fun j => Value.long ((fun j : Nat => Int64.ofInt (h.2 a (j : Int))) j))).slots.size : Int); rw [arrV_size]; omega)
    (fun vm₁ _ i hi => by
      rw [hcl] at hi
      have e : (vp_cell (wA w 1) (n0, .inr (.inl (fun j : Nat => Int64.ofInt (h.2 a0 (j : Int)))))).slots.getD ((Int32.ofInt 0).toNatClampNeg + i) .null = Value.long ((fun j : Nat => Int64.ofInt (h.2 a0 (j : Int))) i) := by
        show (arrV _ n0 (fun j => Value.long ((fun j : Nat => Int64.ofInt (h.2 a0 (j : Int))) j))).slots.getD (0 + i) _ = _
        rw [Nat.zero_add, Array.getD_eq_getD_getElem?, arrV_read _ _ (by omega)]
        rfl
      refine ⟨?_, ?_⟩
      · rw [e]
        rfl
      · rw [e]
        exact trivial)
    (g := F0 (gm G) pc L (Value.int (Int32.ofInt len) :: .int (Int32.ofInt 0) :: .ref (w0 w + a) :: .int (Int32.ofInt 0) :: .ref (w0 w + a0) :: st.map (enc w))) rfl (by rw [C.2.2.1]; exact hL.1) (rest := st.map (enc w)) rfl (by rw [C.2.1]; exact hd) (by omega) (by
      have e := catS_enc w C.wF st
      show 2 * 0 + _ + (_ + 11) ≤ _
      rw [e, show nativeFrameWords "java/lang/System" "arraycopy" 5 = 7 by decide +kernel]
      omega)
  have e1 : copied (vp_cell (wA w 1) (n0, .inr (.inl (fun j : Nat => Int64.ofInt (h.2 a0 (j : Int)))))) (vp_cell (wA w 1) (n1, .inr (.inl (fun j : Nat => Int64.ofInt (h.2 a (j : Int)))))) (Int32.ofInt 0) (Int32.ofInt 0) (Int32.ofInt len) = vp_cell (wA w 1) (n1, .inr (.inl (va_cpy (fun j : Nat => Int64.ofInt (h.2 a0 (j : Int))) (fun j : Nat => Int64.ofInt (h.2 a (j : Int))) (Int32.ofInt 0).toNatClampNeg (Int32.ofInt 0).toNatClampNeg (Int32.ofInt len).toNatClampNeg))) := va_copied (fun z => Value.long z) _ _ (fun j : Nat => Int64.ofInt (h.2 a0 (j : Int))) (fun j : Nat => Int64.ofInt (h.2 a (j : Int))) (by rw [hcl]; show 0 + _ ≤ _; omega)
  have e2 : (va_cpy (fun j : Nat => Int64.ofInt (h.2 a0 (j : Int))) (fun j : Nat => Int64.ofInt (h.2 a (j : Int))) (Int32.ofInt 0).toNatClampNeg (Int32.ofInt 0).toNatClampNeg (Int32.ofInt len).toNatClampNeg) = (fun j : Nat => Int64.ofInt (cpn h.2 a0 a len a (j : Int))) := by
    funext j
    rw [hcl]
    show (if 0 ≤ j ∧ j < 0 + len.toNat then (fun j : Nat => Int64.ofInt (h.2 a0 (j : Int))) (0 + (j - 0)) else (fun j : Nat => Int64.ofInt (h.2 a (j : Int))) j) = _
    unfold cpn
    by_cases c : j < len.toNat
    · rw [if_pos ⟨Nat.zero_le _, by omega⟩, if_pos ⟨rfl, by omega, by omega⟩]
      simp
    · rw [if_neg (by omega), if_neg (by omega)]
  rw [e2] at e1
  rw [e1] at X' step
  have hlt : w0 w + a < H.size := (Array.getElem?_eq_some_iff.mp hc1).1
  have hheap : ((T.setVm vm').setCell (w0 w + a) (vp_cell (wA w 1) (n1, .inr (.inl (fun j : Nat => Int64.ofInt (cpn h.2 a0 a len a (j : Int))))))).heap = H.setIfInBounds (w0 w + a) (vp_cell (wA w 1) (n1, .inr (.inl (fun j : Nat => Int64.ofInt (cpn h.2 a0 a len a (j : Int)))))) := by rw [← hT]; rfl
  have hu2 : ∀ b, b ≠ a → cpn h.2 a0 a len b = h.2 b := fun b hb => by
    funext j
    simp [cpn, hb]
  obtain ⟨t, a1, b1⟩ := k C _ L _ cells slots (Rep.wr (h' := (h.1, cpn h.2 a0 a len)) (a := a) hR rfl (cellE_J ho1.2) (show (H.setIfInBounds (w0 w + a) _)[w0 w + a]? = some _ by simp only [Array.getElem?_setIfInBounds, hlt, if_true]) (fun b hb => cellE_same (hu2 b hb)) (fun b i => by
      show okT _ (cpn h.2 a0 a len b (i : Int))
      unfold cpn
      by_cases c : b = a ∧ 0 ≤ (i : Int) ∧ (i : Int) < len
      · rw [if_pos c]
        have h9 := hR.1.2.2.2.1 a0 i
        rw [show slT h.1 a0 i = .long by simp [slT, ho0.2]] at h9
        rw [c.1, show slT h.1 a i = .long by simp [slT, ho1.2]]
        exact h9
      · rw [if_neg c]
        exact hR.1.2.2.2.1 b i) (by simp) (fun q hq => by simp [Array.getElem?_setIfInBounds, Ne.symm hq]) (fun q hq => by
      rcases List.mem_append.mp hq with hq | hq
      · exact hR.2.1 q hq
      · obtain ⟨z, -, hz⟩ := List.mem_map.mp hq
        rw [← hz]
        exact Nat.le_add_right _ _)) hL hlo hsr _ hheap X'
  exact ⟨t, step t a1, b1⟩
end RULES5
