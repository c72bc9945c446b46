/-! The base: numbers are Int, a heap is a base (kinds, references) and numbers; a judgement Rn over them. -/
abbrev AV : Type := Int ⊕ Int ⊕ Nat ⊕ Nat
abbrev vi (x : Int) : AV := Sum.inl x
abbrev vl (x : Int) : AV := Sum.inr (Sum.inl x)
abbrev vr (a : Nat) : AV := Sum.inr (Sum.inr (Sum.inl a))
abbrev vx (k : Nat) : AV := Sum.inr (Sum.inr (Sum.inr k))
abbrev HK : Type := Nat × Nat
abbrev HB : Type := Nat × Nat × (Nat → HK) × (Nat → Nat → Option Nat)
abbrev NM : Type := Nat → Int → Int
abbrev Hp : Type := HB × NM
abbrev hz (B : HB) : Nat := B.1
abbrev hu (B : HB) : Nat := B.2.1
abbrev kd (B : HB) (a : Nat) : HK := B.2.2.1 a
abbrev rf (B : HB) (a f : Nat) : Option Nat := B.2.2.2 a f
def upn (n : NM) (a : Nat) (i v : Int) : NM := fun b j => if b = a ∧ j = i then v else n b j
abbrev inI (x : Int) : Prop := -2147483648 ≤ x ∧ x ≤ 2147483647
abbrev inJ (x : Int) : Prop := -9223372036854775808 ≤ x ∧ x ≤ 9223372036854775807
/-- launch, class ids, slots, array class ids, the heap at the start, the text's address, its row's, the formatter, the script's address, its length, the script -/
abbrev WD : Type := Launch × (Nat → ClassId) × (Nat → Nat → Nat) × (Nat → ClassId) × Heap × Nat × Nat × Value × Nat × Nat × (Nat → Int32)
abbrev wL (w : WD) : Launch := w.1
abbrev wC (w : WD) : Nat → ClassId := w.2.1
abbrev wI (w : WD) : Nat → Nat → Nat := w.2.2.1
abbrev wA (w : WD) : Nat → ClassId := w.2.2.2.1
abbrev wH (w : WD) : Heap := w.2.2.2.2.1
abbrev wS (w : WD) : Nat := w.2.2.2.2.2.1
abbrev wV (w : WD) : Nat := w.2.2.2.2.2.2.1
abbrev wF (w : WD) : Value := w.2.2.2.2.2.2.2.1
abbrev wB (w : WD) : Nat := w.2.2.2.2.2.2.2.2.1
abbrev wN (w : WD) : Nat := w.2.2.2.2.2.2.2.2.2.1
abbrev wX (w : WD) : Nat → Int32 := w.2.2.2.2.2.2.2.2.2.2
abbrev w0 (w : WD) : Nat := (wH w).size
def ftA : Nat → Nat → FieldType := fun c => match c with
  | 0 => tyX0
  | 1 => tyX1
  | 2 => tyX2
  | 3 => tyX3
  | 4 => tyX4
  | 5 => tyX5
  | 6 => tyX6
  | 7 => tyX7
  | 8 => tyX8
  | 9 => tyX9
  | 10 => tyX10
  | 11 => tyX11
  | _ => tyX12
def okT (t : FieldType) (x : Int) : Prop := match t with
  | .int => inI x
  | .boolean => x = 0 ∨ x = 1
  | .long => inJ x
  | _ => True
def slT (B : HB) (a i : Nat) : FieldType :=
  if (kd B a).1 < 100 then ftA (kd B a).1 i else if (kd B a).1 = 100 then .int else if (kd B a).1 = 101 then .long else if (kd B a).1 = 102 then .boolean else .object ""
def okH (B : HB) (n : NM) : Prop := ∀ a i : Nat, okT (slT B a i) (n a (i : Int))
def okV : AV → Prop
  | .inl x => inI x
  | .inr (.inl x) => inJ x
  | _ => True
def enc (w : WD) : AV → Value
  | .inl x => .int (Int32.ofInt x)
  | .inr (.inl x) => .long (Int64.ofInt x)
  | .inr (.inr (.inl a)) => .ref (w0 w + a)
  | .inr (.inr (.inr 0)) => .null
  | .inr (.inr (.inr 1)) => .ref (wS w)
  | .inr (.inr (.inr 2)) => .ref (wV w)
  | .inr (.inr (.inr 3)) => wF w
  | .inr (.inr (.inr _)) => .ref (wB w)
def fval (w : WD) (B : HB) (n : NM) (t : FieldType) (a f : Nat) : Value := match t with
  | .int => .int (Int32.ofInt (n a (f : Int)))
  | .boolean => .int (Int32.ofInt (n a (f : Int)))
  | .long => .long (Int64.ofInt (n a (f : Int)))
  | _ => va_rf ((rf B a f).map (fun b => w0 w + b))
def cellE (w : WD) (h : Hp) (a : Nat) : va_E :=
  if (kd h.1 a).1 < 100 then .inr ((kd h.1 a).1, (List.range (kd h.1 a).2).map (fun f => fval w h.1 h.2 (ftA (kd h.1 a).1 f) a f))
  else if (kd h.1 a).1 = 100 then .inl (wA w 0, (kd h.1 a).2, .inl (fun i => Int32.ofInt (h.2 a (i : Int))))
  else if (kd h.1 a).1 = 101 then .inl (wA w 1, (kd h.1 a).2, .inr (.inl (fun i => Int64.ofInt (h.2 a (i : Int)))))
  else if (kd h.1 a).1 = 102 then .inl (wA w 2, (kd h.1 a).2, .inl (fun i => Int32.ofInt (h.2 a (i : Int))))
  else .inl (wA w ((kd h.1 a).1 - 100), (kd h.1 a).2, .inr (.inr (.inr (.inr (fun i => (rf h.1 a i).map (fun b => w0 w + b))))))
/-- every object is of its class, with all its fields -/
def okB (B : HB) : Prop := ∀ a : Nat, a < hz B → (kd B a).1 < 100 → ∃ r : vw_C, vwCl[(kd B a).1]? = some r ∧ r.2.2 = (kd B a).2
def RepH (w : WD) (h : Hp) (H : Heap) : Prop :=
  H.size = w0 w + hz h.1 ∧ (∀ q : Nat, q < w0 w → H[q]? = (wH w)[q]?) ∧ (∀ a : Nat, a < hz h.1 → va_at (wC w, wI w) vwCl (w0 w + a, cellE w h a) H) ∧ okH h.1 h.2 ∧ okB h.1
def tysA (w : WD) : List (ClassId × FieldType) := [(wA w 0, .int), (wA w 1, .long), (wA w 2, .boolean), (wA w 3, .object "LakeWatch$Lake"), (wA w 4, .object "LakeWatch$Natural")]
def wl (w : WD) (h : Hp) : va_W := (List.range (hz h.1)).map (fun a => (w0 w + a, cellE w h a))
theorem wl_at {w : WD} {h : Hp} {a : Nat} (ha : a < hz h.1) : (wl w h)[a]? = some (w0 w + a, cellE w h a) := by
  simp [wl, ha]
theorem RepH.P {w : WD} {h : Hp} {H : Heap} (R : RepH w h H) : va_P (wC w, wI w) vwCl (wl w h) H := by
  intro k q hq
  have hk : k < hz h.1 := by
    have := (List.getElem?_eq_some_iff.mp hq).1
    simpa [wl] using this
  rw [wl_at hk] at hq
  cases hq
  exact R.2.2.1 k hk
theorem wl_D {w : WD} {h : Hp} : va_D (fun q => w0 w ≤ q) (wl w h) := by
  refine ⟨fun i j p q hp hq he => ?_, fun k q hq => ?_⟩
  · have hi : i < hz h.1 := by
      have := (List.getElem?_eq_some_iff.mp hp).1
      simpa [wl] using this
    have hj : j < hz h.1 := by
      have := (List.getElem?_eq_some_iff.mp hq).1
      simpa [wl] using this
    rw [wl_at hi] at hp
    rw [wl_at hj] at hq
    cases hp
    cases hq
    simp at he
    exact he
  · have hk : k < hz h.1 := by
      have := (List.getElem?_eq_some_iff.mp hq).1
      simpa [wl] using this
    rw [wl_at hk] at hq
    cases hq
    simp
/-- a write at a: the list of cells with that one changed -/
theorem wl_set {w : WD} {h h' : Hp} {a : Nat} {e : va_E} (hz' : hz h'.1 = hz h.1) (ha : a < hz h.1) (he : cellE w h' a = e) (ho : ∀ b, b ≠ a → cellE w h' b = cellE w h b) : (wl w h).set a (w0 w + a, e) = wl w h' := by
  apply List.ext_getElem?
  intro k
  rw [List.getElem?_set]
  by_cases hk : k < hz h.1
  · by_cases hak : a = k
    · subst hak
      rw [if_pos rfl, if_pos (by simpa [wl] using ha), wl_at (by rw [hz']; exact ha), he]
    · rw [if_neg hak, wl_at hk, wl_at (by rw [hz']; exact hk), ho k (fun q => hak q.symm)]
  · have h1 : (wl w h)[k]? = none := by
      apply List.getElem?_eq_none
      simp [wl]
      omega
    have h2 : (wl w h')[k]? = none := by
      apply List.getElem?_eq_none
      simp only [wl, List.length_map, List.length_range]
      omega
    have : a ≠ k := by omega
    rw [if_neg this, h1, h2]
/-- the heap behind a write of the kit is what the abstract heap says -/
theorem RepH.of {w : WD} {h : Hp} {H H0 H1 : Heap} {locs : List Loc} (R : RepH w h H) {h' : Hp} (hz' : h'.1 = h.1) (hok : okH h'.1 h'.2) (hP : va_P (wC w, wI w) vwCl (wl w h') H1) (hsz : H1.size = H.size) (hold : ∀ q : Nat, q < w0 w → H1[q]? = H[q]?) : RepH w h' H1 := by
  refine ⟨by rw [hsz, R.1, hz'], fun q hq => (hold q hq).trans (R.2.1 q hq), fun a ha => hP a _ (wl_at ha), hok, by rw [hz']; exact R.2.2.2.2⟩
theorem i32_lt {a b : Int} (ha : inI a) (hb : inI b) : Int32.ofInt a < Int32.ofInt b ↔ a < b := by
  have e1 : (Int32.ofInt a).toInt = a := Int32.toInt_ofInt_of_le (by omega) (by omega)
  have e2 : (Int32.ofInt b).toInt = b := Int32.toInt_ofInt_of_le (by omega) (by omega)
  rw [Int32.lt_iff_toInt_lt, e1, e2]
theorem i32_le {a b : Int} (ha : inI a) (hb : inI b) : Int32.ofInt a ≤ Int32.ofInt b ↔ a ≤ b := by
  have e1 : (Int32.ofInt a).toInt = a := Int32.toInt_ofInt_of_le (by omega) (by omega)
  have e2 : (Int32.ofInt b).toInt = b := Int32.toInt_ofInt_of_le (by omega) (by omega)
  rw [Int32.le_iff_toInt_le, e1, e2]
theorem i32_eq {a b : Int} (ha : inI a) (hb : inI b) : Int32.ofInt a = Int32.ofInt b ↔ a = b := by
  have e1 : (Int32.ofInt a).toInt = a := Int32.toInt_ofInt_of_le (by omega) (by omega)
  have e2 : (Int32.ofInt b).toInt = b := Int32.toInt_ofInt_of_le (by omega) (by omega)
  rw [← Int32.toInt_inj, e1, e2]
theorem i64_lt {a b : Int} (ha : inJ a) (hb : inJ b) : Int64.ofInt a < Int64.ofInt b ↔ a < b := by
  have e1 : (Int64.ofInt a).toInt = a := Int64.toInt_ofInt_of_le (by omega) (by omega)
  have e2 : (Int64.ofInt b).toInt = b := Int64.toInt_ofInt_of_le (by omega) (by omega)
  rw [Int64.lt_iff_toInt_lt, e1, e2]
theorem i64_eq {a b : Int} (ha : inJ a) (hb : inJ b) : Int64.ofInt a = Int64.ofInt b ↔ a = b := by
  have e1 : (Int64.ofInt a).toInt = a := Int64.toInt_ofInt_of_le (by omega) (by omega)
  have e2 : (Int64.ofInt b).toInt = b := Int64.toInt_ofInt_of_le (by omega) (by omega)
  rw [← Int64.toInt_inj, e1, e2]
theorem i32_int {a : Int} (ha : inI a) : (Int32.ofInt a).toInt = a := Int32.toInt_ofInt_of_le (by omega) (by omega)
theorem i64_int {a : Int} (ha : inJ a) : (Int64.ofInt a).toInt = a := Int64.toInt_ofInt_of_le (by omega) (by omega)
theorem i32_clamp {a : Int} (ha : inI a) : (Int32.ofInt a).toNatClampNeg = a.toNat := Int32.toNatClampNeg_ofInt_of_le (by omega) (by omega)
theorem i32_in {a : Int} {n : Nat} (ha : inI a) (h0 : 0 ≤ a) (h1 : a < (n : Int)) : vp_in (Int32.ofInt a) n := by
  intro h
  rcases h with h | h
  · have : Int32.ofInt a < Int32.ofInt 0 := h
    rw [i32_lt ha (by omega)] at this
    omega
  · rw [i32_clamp ha] at h
    omega
