section TOKS
variable {w : WD} {d : Nat} {n : NM}
/-- a byte's kind -/
def kb (c : Int) : Int := if 97 ≤ c ∧ c ≤ 122 then 1 else if 48 ≤ c ∧ c ≤ 57 then 2 else 3
def skp (T : Int → Int) (L : Int) : Nat → Int → Int
  | 0, p => p
  | f + 1, p => if p < L ∧ T p = 32 then skp T L f (p + 1) else p
/-- behind the blanks from p on -/
def tSK (T : Int → Int) (L p : Int) : Int := skp T L (L - p).toNat p
def rnp (T : Int → Int) (L k : Int) : Nat → Int → Int
  | 0, p => p
  | f + 1, p => if p < L ∧ kb (T p) = k then rnp T L k f (p + 1) else p
/-- behind the bytes of kind k from p on -/
def tRN (T : Int → Int) (L k p : Int) : Int := rnp T L k (L - p).toNat p
theorem tSK_eq {T : Int → Int} {L p : Int} : tSK T L p = if p < L ∧ T p = 32 then tSK T L (p + 1) else p := by
  unfold tSK
  by_cases c : p < L
  · rw [show (L - p).toNat = (L - (p + 1)).toNat + 1 by omega]
    rfl
  · rw [show (L - p).toNat = 0 by omega, if_neg (fun z => c z.1)]
    rfl
theorem tRN_eq {T : Int → Int} {L k p : Int} : tRN T L k p = if p < L ∧ kb (T p) = k then tRN T L k (p + 1) else p := by
  unfold tRN
  by_cases c : p < L
  · rw [show (L - p).toNat = (L - (p + 1)).toNat + 1 by omega]
    rfl
  · rw [show (L - p).toNat = 0 by omega, if_neg (fun z => c z.1)]
    rfl
theorem tSK_le {T : Int → Int} {L : Int} : ∀ (m : Nat) (p : Int), (L - p).toNat ≤ m → p ≤ L → p ≤ tSK T L p ∧ tSK T L p ≤ L ∧ (tSK T L p < L → T (tSK T L p) ≠ 32)
  | 0, p, hm, hp => by
    rw [tSK_eq, if_neg (by omega)]
    exact ⟨Int.le_refl _, hp, fun h => by omega⟩
  | m + 1, p, hm, hp => by
    rw [tSK_eq]
    by_cases c : p < L ∧ T p = 32
    · rw [if_pos c]
      have ih := tSK_le (T := T) (L := L) m (p + 1) (by omega) (by omega)
      exact ⟨by omega, ih.2.1, ih.2.2⟩
    · rw [if_neg c]
      exact ⟨Int.le_refl _, hp, fun h z => c ⟨h, z⟩⟩
theorem tRN_le {T : Int → Int} {L k : Int} : ∀ (m : Nat) (p : Int), (L - p).toNat ≤ m → p ≤ L → p ≤ tRN T L k p ∧ tRN T L k p ≤ L ∧ (tRN T L k p < L → kb (T (tRN T L k p)) ≠ k) ∧ ∀ i, p ≤ i → i < tRN T L k p → kb (T i) = k
  | 0, p, hm, hp => by
    rw [tRN_eq, if_neg (by omega)]
    exact ⟨Int.le_refl _, hp, fun h => by omega, fun i i0 i1 => by omega⟩
  | m + 1, p, hm, hp => by
    rw [tRN_eq]
    by_cases c : p < L ∧ kb (T p) = k
    · rw [if_pos c]
      have ih := tRN_le (T := T) (L := L) (k := k) m (p + 1) (by omega) (by omega)
      refine ⟨by omega, ih.2.1, ih.2.2.1, fun i i0 i1 => ?_⟩
      by_cases q : i = p
      · rw [q]
        exact c.2
      · exact ih.2.2.2 i (by omega) i1
    · rw [if_neg c]
      exact ⟨Int.le_refl _, hp, fun h z => c ⟨h, z⟩, fun i i0 i1 => by omega⟩
/-- where a token from s on ends -/
def tkE (T : Int → Int) (L s : Int) : Int := if s < L then (if kb (T s) = 3 then s + 1 else tRN T L (kb (T s)) (s + 1)) else s
/-- where token i begins (behind the last one: L) -/
def tkS (T : Int → Int) (L : Int) : Nat → Int
  | 0 => tSK T L 0
  | i + 1 => tSK T L (tkE T L (tkS T L i))
def tkK (T : Int → Int) (L s : Int) : Int := if s < L then kb (T s) else 0
theorem kb_le (c : Int) : 1 ≤ kb c ∧ kb c ≤ 3 := by
  unfold kb
  split
  · decide
  · split <;> decide
theorem tkE_le {T : Int → Int} {L s : Int} (h : s ≤ L) : s ≤ tkE T L s ∧ tkE T L s ≤ L ∧ (s < L → s + 1 ≤ tkE T L s) := by
  unfold tkE
  by_cases c : s < L
  · rw [if_pos c]
    split
    · omega
    · have := tRN_le (T := T) (L := L) (k := kb (T s)) _ (s + 1) (Nat.le_refl _) (by omega)
      omega
  · rw [if_neg c]
    omega
theorem tkS_le {T : Int → Int} {L : Int} (h : 0 ≤ L) : ∀ i : Nat, (tkS T L i ≤ L ∧ (tkS T L i < L → T (tkS T L i) ≠ 32)) ∧ (tkS T L i < L → (i : Int) ≤ tkS T L i) ∧ 0 ≤ tkS T L i
  | 0 => by
    have := tSK_le (T := T) (L := L) _ 0 (Nat.le_refl _) h
    exact ⟨⟨this.2.1, this.2.2⟩, fun _ => by show (0 : Int) ≤ tSK T L 0; omega, by show (0 : Int) ≤ tSK T L 0; omega⟩
  | i + 1 => by
    have ih := tkS_le (T := T) (L := L) h i
    have e := tkE_le (T := T) (L := L) (s := tkS T L i) ih.1.1
    have q := tSK_le (T := T) (L := L) _ (tkE T L (tkS T L i)) (Nat.le_refl _) e.2.1
    refine ⟨⟨q.2.1, q.2.2⟩, fun hl => ?_, ?_⟩
    · have hl2 : tSK T L (tkE T L (tkS T L i)) < L := hl
      have : tkS T L i < L := by omega
      show ((i + 1 : Nat) : Int) ≤ tSK T L (tkE T L (tkS T L i))
      omega
    · show 0 ≤ tSK T L (tkE T L (tkS T L i))
      omega
/-- behind the last token there is none -/
theorem tkS_end {T : Int → Int} {L : Int} {i : Nat} (h : tkS T L i = L) : ∀ m : Nat, tkS T L (i + m) = L
  | 0 => h
  | m + 1 => by
    have ih := tkS_end h m
    show tSK T L (tkE T L (tkS T L (i + m))) = L
    rw [ih]
    unfold tkE
    rw [if_neg (by omega), tSK_eq, if_neg (by omega)]
/-- a number's digits, cut at 100001 -/
def nvF (T : Int → Int) (s : Int) : Nat → Int
  | 0 => 0
  | k + 1 => min (nvF T s k * 10 + T (s + k) - 48) 100001
def wnF (T : Int → Int) (s : Int) : Nat → Int
  | 0 => 0
  | k + 1 => if wnF T s k ≤ 1000000 then wnF T s k * 10 + T (s + k) - 48 else wnF T s k
theorem nv_wn {T : Int → Int} {s : Int} : ∀ k : Nat, (∀ i : Int, 0 ≤ i → i < (k : Int) → 48 ≤ T (s + i) ∧ T (s + i) ≤ 57) → (0 ≤ wnF T s k ∧ wnF T s k ≤ 10000009) ∧ ((nvF T s k = wnF T s k ∧ wnF T s k ≤ 100000) ∨ (nvF T s k = 100001 ∧ 100000 < wnF T s k))
  | 0, _ => ⟨⟨Int.le_refl _, by show (0 : Int) ≤ 10000009; decide⟩, Or.inl ⟨rfl, by show (0 : Int) ≤ 100000; decide⟩⟩
  | k + 1, h => by
    have ih := nv_wn (T := T) (s := s) k (fun i i0 i1 => h i i0 (by omega))
    have q := h k (by omega) (by omega)
    show (0 ≤ (if wnF T s k ≤ 1000000 then wnF T s k * 10 + T (s + k) - 48 else wnF T s k) ∧ (if wnF T s k ≤ 1000000 then wnF T s k * 10 + T (s + k) - 48 else wnF T s k) ≤ 10000009) ∧ ((min (nvF T s k * 10 + T (s + k) - 48) 100001 = (if wnF T s k ≤ 1000000 then wnF T s k * 10 + T (s + k) - 48 else wnF T s k) ∧ (if wnF T s k ≤ 1000000 then wnF T s k * 10 + T (s + k) - 48 else wnF T s k) ≤ 100000) ∨ (min (nvF T s k * 10 + T (s + k) - 48) 100001 = 100001 ∧ 100000 < (if wnF T s k ≤ 1000000 then wnF T s k * 10 + T (s + k) - 48 else wnF T s k)))
    by_cases c : wnF T s k ≤ 1000000
    · rw [if_pos c]
      omega
    · rw [if_neg c]
      omega
/-- a word's letters as one number -/
def hwF (T : Int → Int) (s : Int) : Nat → Int
  | 0 => 0
  | k + 1 => if 10 ≤ (k : Int) then -1 else hwF T s k * 32 + T (s + k) - 96
def hsF (f : Nat → Int) : Nat → Int
  | 0 => 0
  | k + 1 => hsF f k * 32 + f k
theorem hs_pos {f : Nat → Int} : ∀ k : Nat, (∀ i : Nat, i < k → 1 ≤ f i ∧ f i ≤ 26) → 0 ≤ hsF f k ∧ (0 < k → 1 ≤ hsF f k)
  | 0, _ => ⟨Int.le_refl _, fun h => by omega⟩
  | k + 1, h => by
    have ih := hs_pos (f := f) k (fun i hi => h i (by omega))
    have q := h k (by omega)
    show 0 ≤ hsF f k * 32 + f k ∧ (0 < k + 1 → 1 ≤ hsF f k * 32 + f k)
    omega
theorem hs_inj {f g : Nat → Int} : ∀ (m k : Nat), (∀ i : Nat, i < m → 1 ≤ f i ∧ f i ≤ 26) → (∀ i : Nat, i < k → 1 ≤ g i ∧ g i ≤ 26) → hsF f m = hsF g k → m = k ∧ ∀ i : Nat, i < m → f i = g i
  | 0, 0, _, _, _ => ⟨rfl, fun i hi => by omega⟩
  | 0, k + 1, _, hg, h => by
    have := (hs_pos (f := g) (k + 1) hg).2 (by omega)
    have h0 : hsF f 0 = 0 := rfl
    omega
  | m + 1, 0, hf, _, h => by
    have := (hs_pos (f := f) (m + 1) hf).2 (by omega)
    have h0 : hsF g 0 = 0 := rfl
    omega
  | m + 1, k + 1, hf, hg, h => by
    have q1 := hf m (by omega)
    have q2 := hg k (by omega)
    have e : hsF f m * 32 + f m = hsF g k * 32 + g k := h
    have ih := hs_inj (f := f) (g := g) m k (fun i hi => hf i (by omega)) (fun i hi => hg i (by omega)) (by omega)
    have em := ih.1
    subst em
    refine ⟨rfl, fun i hi => ?_⟩
    by_cases c : i = m
    · rw [c]
      omega
    · exact ih.2 i (by omega)
theorem hs_congr {f g : Nat → Int} : ∀ k : Nat, (∀ i : Nat, i < k → f i = g i) → hsF f k = hsF g k
  | 0, _ => rfl
  | k + 1, h => by
    show hsF f k * 32 + f k = hsF g k * 32 + g k
    rw [hs_congr k (fun i hi => h i (by omega)), h k (by omega)]
theorem hw_hs {T : Int → Int} {s : Int} : ∀ k : Nat, (k ≤ 10 → hwF T s k = hsF (fun i => T (s + (i : Int)) - 96) k) ∧ (10 < k → hwF T s k = -1)
  | 0 => ⟨fun _ => rfl, fun h => by omega⟩
  | k + 1 => by
    have ih := hw_hs (T := T) (s := s) k
    refine ⟨fun h => ?_, fun h => ?_⟩
    · show (if 10 ≤ (k : Int) then -1 else hwF T s k * 32 + T (s + k) - 96) = hsF _ k * 32 + (T (s + k) - 96)
      rw [if_neg (by omega), ih.1 (by omega)]
      omega
    · show (if 10 ≤ (k : Int) then -1 else hwF T s k * 32 + T (s + k) - 96) = -1
      rw [if_pos (by omega)]
/-- the words: where they begin and end in the list of words -/
def wdB : List Nat := [0, 5, 11, 15, 20, 25, 30, 36, 43, 48, 53, 58, 63, 69, 76, 81, 84, 87, 91]
def wdE : List Nat := [4, 10, 14, 19, 24, 29, 35, 42, 47, 52, 57, 62, 68, 75, 80, 83, 86, 90, 94]
def wdH : List Int := [755045, 2262644, 12775, 71124, 427141, 248311, 9090579, 408362632, 763332, 71108, 464627, 245189, 17171557, 446125701, 394885, 294, 498, 1476, 14836]
abbrev wgB (p : Nat) : Nat := wdB.getD p 0
abbrev wgE (p : Nat) : Nat := wdE.getD p 0
abbrev wgH (p : Nat) : Int := wdH.getD p 0
theorem w_tab : ∀ p : Nat, p < 19 → wgB p < wgE p ∧ wgE p - wgB p ≤ 6 ∧ wgE p ≤ 94 ∧ (p < 18 → wgB (p + 1) = wgE p + 1 ∧ wgE p < 94) ∧ (p = 18 → wgE p = 94) := by decide +kernel
theorem w_let : ∀ p : Nat, p < 19 → ∀ i : Nat, i < wgE p - wgB p → 97 ≤ strC ((wgB p + i : Nat) : Int) ∧ strC ((wgB p + i : Nat) : Int) ≤ 122 := by decide +kernel
theorem w_sp : ∀ p : Nat, p < 18 → strC ((wgE p : Nat) : Int) = 32 := by decide +kernel
theorem w_hash : ∀ p : Nat, p < 19 → hsF (fun i => strC ((wgB p + i : Nat) : Int) - 96) (wgE p - wgB p) = wgH p := by decide +kernel
theorem w_inj : ∀ p : Nat, p < 19 → ∀ q : Nat, q < 19 → wgH p = wgH q → p = q := by decide +kernel
/-- the word from s on, so long, is the p-th one -/
def eqWd (T : Int → Int) (s : Int) (len : Nat) (p : Nat) : Prop := len = wgE p - wgB p ∧ ∀ i : Nat, i < len → T (s + (i : Int)) = strC ((wgB p + i : Nat) : Int)
theorem eqWd_h {T : Int → Int} {s : Int} {len p : Nat} (hp : p < 19) (hl : ∀ i : Nat, i < len → 97 ≤ T (s + (i : Int)) ∧ T (s + (i : Int)) ≤ 122) : eqWd T s len p ↔ hwF T s len = wgH p := by
  have t := w_tab p hp
  have hh := w_hash p hp
  have hq := hw_hs (T := T) (s := s) len
  refine ⟨fun h => ?_, fun h => ?_⟩
  · rw [hq.1 (by have := h.1; omega), ← hh, ← h.1]
    exact hs_congr len (fun i hi => by
      show T (s + (i : Int)) - 96 = strC ((wgB p + i : Nat) : Int) - 96
      rw [h.2 i hi])
  · have pos := (hs_pos (f := fun i => strC ((wgB p + i : Nat) : Int) - 96) (wgE p - wgB p) (fun i hi => by
      have := w_let p hp i hi
      omega)).1
    by_cases c : len ≤ 10
    · rw [hq.1 c, ← hh] at h
      have ij := hs_inj len (wgE p - wgB p) (fun i hi => by
        have := hl i hi
        omega) (fun i hi => by
        have := w_let p hp i hi
        omega) h
      exact ⟨ij.1, fun i hi => by
        have := ij.2 i hi
        omega⟩
    · rw [hq.2 (by omega), ← hh] at h
      omega
/-- what a token's values are: the class's, the reference's -/
def wdV (T : Int → Int) (s : Int) (len : Nat) : Nat → Int
  | 0 => -1
  | p + 1 => if hwF T s len = wgH (18 - p) then ((18 - p : Nat) : Int) else wdV T s len p
def tkV (T : Int → Int) (L s : Int) : Int := if s < L then (if kb (T s) = 1 then wdV T s (tkE T L s - s).toNat 19 else if kb (T s) = 2 then nvF T s (tkE T L s - s).toNat else T s) else -1
def tkW (T : Int → Int) (L s : Int) : Int := if s < L then (if kb (T s) = 1 then hwF T s (tkE T L s - s).toNat else if kb (T s) = 2 then wnF T s (tkE T L s - s).toNat else T s) else 0
end TOKS
