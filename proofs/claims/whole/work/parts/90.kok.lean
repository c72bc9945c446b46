section KOKS
noncomputable def flP : List Cond := flatC (Jvm.Cond.and given_1 narrow_1)
set_option maxRecDepth 100000 in
theorem flP_elem : ∀ j : Nat, j < 94 → flP[39 + j]? = some (Cond.eq (.elem (.field (.string RX9 64) "java/lang/String" "value" "[B") (.int (Int32.ofNat j))) (.int (strB.getD j 0))) := by decide +kernel
theorem law_str {s : State} {b : Nat} (hts : ∀ x ∈ lw_tbl, x.before #[Value.ref b] s = true) (hgv : (Jvm.Cond.and given_1 narrow_1).before #[Value.ref b] s = true) : ∃ (sS sV : Nat) (sF : Value), vk_R RX9 64 strT sS s ∧ vk_S 1 [94] [strB] (fun _ => sS) (fun _ => sV) (fun q => s.heap.size ≤ q) s s.heap ∧ va_Z "java/lang/String" "COMPACT_STRINGS" "Z" (.int 1) (fun q => s.heap.size ≤ q) s s.heap ∧
    va_Z "jdk/internal/util/Preconditions" "SIOOBE_FORMATTER" "Ljava/util/function/BiFunction;" sF (fun q => s.heap.size ≤ q) s s.heap ∧ (sF = .null ∨ ∃ t : Nat, sF = .ref t) := by
  have fl : ∀ (i : Nat) (c : Cond), flP[i]? = some c → c.before #[Value.ref b] s = true := fun i c h => flat_of_before _ hgv c (List.mem_of_getElem? h)
  have hA : ∀ a : Nat, a < s.heap.size → ¬ (s.heap.size ≤ a) := fun a h => Nat.not_le.mpr h
  have z : ∀ i : Nat, i < 1 → i = 0 := fun i h => by omega
  obtain ⟨aK, aV, h1, h2⟩ := vk_Sof (args := #[Value.ref b]) (s := s) (N := 1) (tm := fun _ => Term.string RX9 64) (len := [94]) (byt := [strB]) (A := fun q => s.heap.size ≤ q)
    (fun i hi => by rw [z i hi]; decide)
    (fun i _ => fl 35 (Cond.exactly (.string RX9 64) "java/lang/String") (by decide +kernel))
    (fun i _ => fl 36 (Cond.eq (.field (.string RX9 64) "java/lang/String" "coder" "B") (.int 0)) (by decide +kernel))
    (fun i _ => fl 37 (Cond.arrayOf (.field (.string RX9 64) "java/lang/String" "value" "[B") .byte) (by decide +kernel))
    (fun i hi => by rw [z i hi]; exact fl 38 (Cond.eq (.length (.field (.string RX9 64) "java/lang/String" "value" "[B")) (.int 94)) (by decide +kernel))
    (fun i hi j hj => by rw [z i hi] at hj ⊢; exact fl (39 + j) _ (flP_elem j hj))
    (fun i j hi hj hij => absurd ((z i hi).trans (z j hj).symm) hij) hA
  have hF := va_Zqof (args := #[Value.ref b]) (s := s) (C := "jdk/internal/util/Preconditions") (n := "SIOOBE_FORMATTER") (d := "Ljava/util/function/BiFunction;") (A := fun q => s.heap.size ≤ q) (hts (.laysStatic "jdk/internal/util/Preconditions" "SIOOBE_FORMATTER" "Ljava/util/function/BiFunction;") (by decide +kernel)) (hts (.initialized "jdk/internal/util/Preconditions") (by decide +kernel)) (fl 5 (Cond.isRef (.static "jdk/internal/util/Preconditions" "SIOOBE_FORMATTER" "Ljava/util/function/BiFunction;")) (by decide +kernel)) hA
  have k1 : vk_R RX9 64 strT (aK 0) s := vk_R.of (A := #[Value.ref b]) (hts (.stringRef RX9 64 strT) (by decide +kernel)) (h2 0 (by decide))
  have k2 : vk_S 1 [94] [strB] (fun _ => aK 0) (fun _ => aV 0) (fun q => s.heap.size ≤ q) s s.heap := ⟨fun i hi => by rw [z i hi]; exact h1.1 0 (by decide), fun i j hi hj _ => (z i hi).trans (z j hj).symm⟩
  have k3 : va_Z "java/lang/String" "COMPACT_STRINGS" "Z" (.int 1) (fun q => s.heap.size ≤ q) s s.heap := va_Zof (args := #[Value.ref b]) (hts (.laysStatic "java/lang/String" "COMPACT_STRINGS" "Z") (by decide +kernel)) (hts (.initialized "java/lang/String") (by decide +kernel)) (va_eqt (fl 4 (Cond.eq (.static "java/lang/String" "COMPACT_STRINGS" "Z") (.int 1)) (by decide +kernel))) hA
  rcases hF with hF | ⟨t, hF⟩
  · exact ⟨aK 0, aV 0, .null, k1, k2, k3, hF, Or.inl rfl⟩
  · exact ⟨aK 0, aV 0, .ref t, k1, k2, k3, hF, Or.inr ⟨t, rfl⟩⟩
theorem law_K {s : State} {b : Nat} (hts : ∀ x ∈ lw_tbl, x.before #[Value.ref b] s = true) : ∃ (dC : Nat → ClassId) (dI : Nat → Nat → Nat) (dA : Nat → ClassId), va_K (dC, dI) vwCl [(dA 0, .int), (dA 1, .long), (dA 2, .boolean), (dA 3, .object "LakeWatch$Lake"), (dA 4, .object "LakeWatch$Natural")] s := by
  have hg : ∀ x ∈ gT, x.before #[Value.ref b] s = true := fun x hx => hts x (gT_sub hx)
  have kn : ∀ (ci : Nat) (C : String) (T : u_T) (N : Nat), ClsOk ci C T N → Cond.instantiable C N ∈ lw_tbl → ∃ (cC : ClassId) (iS : Nat → Nat), u_Kn s C T N cC iS := fun ci C T N h hi => u_known hg h.2.1 (hts _ hi)
  have h2 : ∀ k : Nat, ∃ p : ClassId × (Nat → Nat), ∀ q : vw_C, vwCl[k]? = some q → u_Kn s q.1 q.2.1 q.2.2 p.1 p.2 := by
    intro k
    match k with
    | 0 =>
      obtain ⟨c, i, g⟩ := kn 0 RX0 TX0 6 clk_0 (by decide +kernel)
      exact ⟨(c, i), fun q hq => by rw [clk_0.1] at hq; cases hq; exact g⟩
    | 1 =>
      obtain ⟨c, i, g⟩ := kn 1 RX1 TX1 14 clk_1 (by decide +kernel)
      exact ⟨(c, i), fun q hq => by rw [clk_1.1] at hq; cases hq; exact g⟩
    | 2 =>
      obtain ⟨c, i, g⟩ := kn 2 RX2 TX2 4 clk_2 (by decide +kernel)
      exact ⟨(c, i), fun q hq => by rw [clk_2.1] at hq; cases hq; exact g⟩
    | 3 =>
      obtain ⟨c, i, g⟩ := kn 3 RX3 TX3 5 clk_3 (by decide +kernel)
      exact ⟨(c, i), fun q hq => by rw [clk_3.1] at hq; cases hq; exact g⟩
    | 4 =>
      obtain ⟨c, i, g⟩ := kn 4 RX4 TX4 2 clk_4 (by decide +kernel)
      exact ⟨(c, i), fun q hq => by rw [clk_4.1] at hq; cases hq; exact g⟩
    | 5 =>
      obtain ⟨c, i, g⟩ := kn 5 RX5 TX5 3 clk_5 (by decide +kernel)
      exact ⟨(c, i), fun q hq => by rw [clk_5.1] at hq; cases hq; exact g⟩
    | 6 =>
      obtain ⟨c, i, g⟩ := kn 6 RX6 TX6 5 clk_6 (by decide +kernel)
      exact ⟨(c, i), fun q hq => by rw [clk_6.1] at hq; cases hq; exact g⟩
    | 7 =>
      obtain ⟨c, i, g⟩ := kn 7 RX7 TX7 4 clk_7 (by decide +kernel)
      exact ⟨(c, i), fun q hq => by rw [clk_7.1] at hq; cases hq; exact g⟩
    | 8 =>
      obtain ⟨c, i, g⟩ := kn 8 RX8 TX8 2 clk_8 (by decide +kernel)
      exact ⟨(c, i), fun q hq => by rw [clk_8.1] at hq; cases hq; exact g⟩
    | 9 =>
      obtain ⟨c, i, g⟩ := kn 9 RX9 TX9 4 clk_9 (by decide +kernel)
      exact ⟨(c, i), fun q hq => by rw [clk_9.1] at hq; cases hq; exact g⟩
    | 10 =>
      obtain ⟨c, i, g⟩ := kn 10 RX10 TX10 3 clk_10 (by decide +kernel)
      exact ⟨(c, i), fun q hq => by rw [clk_10.1] at hq; cases hq; exact g⟩
    | 11 =>
      obtain ⟨c, i, g⟩ := kn 11 RX11 TX11 13 clk_11 (by decide +kernel)
      exact ⟨(c, i), fun q hq => by rw [clk_11.1] at hq; cases hq; exact g⟩
    | 12 =>
      obtain ⟨c, i, g⟩ := kn 12 RX12 TX12 39 clk_12 (by decide +kernel)
      exact ⟨(c, i), fun q hq => by rw [clk_12.1] at hq; cases hq; exact g⟩
    | k + 13 =>
      exact ⟨(0, fun _ => 0), fun q hq => by rw [List.getElem?_eq_none (by show 13 ≤ k + 13; omega)] at hq; cases hq⟩
  obtain ⟨F, hF⟩ := Classical.axiomOfChoice h2
  obtain ⟨cI, kI, pI, a1, a2, a3⟩ := Cond.arrayClass_spec (hts (.arrayClass .int) (by decide +kernel))
  obtain ⟨cJ, kJ, pJ, b1, b2, b3⟩ := Cond.arrayClass_spec (hts (.arrayClass .long) (by decide +kernel))
  obtain ⟨cZ, kZ, pZ, c1, c2, c3⟩ := Cond.arrayClass_spec (hts (.arrayClass .boolean) (by decide +kernel))
  obtain ⟨pL, cL, kL, d1, -, d3, d4, d5⟩ := Cond.arrayOver_spec (hts (.arrayOver (.object "LakeWatch$Lake")) (by decide +kernel))
  obtain ⟨pN, cN, kN, e1, -, e3, e4, e5⟩ := Cond.arrayOver_spec (hts (.arrayOver (.object "LakeWatch$Natural")) (by decide +kernel))
  refine ⟨fun k => (F k).1, fun k => (F k).2, fun k => if k = 0 then cI else if k = 1 then cJ else if k = 2 then cZ else if k = 3 then cL else cN, fun k q hq => hF k q hq, fun k q hq => ?_⟩
  match k, hq with
  | 0, hq => cases hq; exact ⟨fun n z => ⟨fun k h => (by cases h), kI, a2, pI, a3⟩, a1⟩
  | 1, hq => cases hq; exact ⟨fun n z => ⟨fun k h => (by cases h), kJ, b2, pJ, b3⟩, b1⟩
  | 2, hq => cases hq; exact ⟨fun n z => ⟨fun k h => (by cases h), kZ, c2, pZ, c3⟩, c1⟩
  | 3, hq => cases hq; exact ⟨fun n z => ⟨fun k h => (by cases h), kL, d3, pL, d4⟩, ⟨kL, pL, d3, d4, d1, d5⟩⟩
  | 4, hq => cases hq; exact ⟨fun n z => ⟨fun k h => (by cases h), kN, e3, pN, e4⟩, ⟨kN, pN, e3, e4, e1, e5⟩⟩
  | k + 5, hq => exact absurd hq (by simp)
theorem nestW_tab : ∀ x ∈ nestW, x.onTables = true := by decide +kernel
theorem law_kok {l : Launch} {s : State} {b L : Nat} {xs : Nat → Int32} (hts : ∀ x ∈ lw_tbl, x.before #[Value.ref b] s = true) (hX : va_X b L xs s s.heap) (hgv : (Jvm.Cond.and given_1 narrow_1).before #[Value.ref b] s = true) : ∃ (dC : Nat → ClassId) (dI : Nat → Nat → Nat) (dA : Nat → ClassId) (sS sV : Nat) (sF : Value), KOk ((l, dC, dI, dA, s.heap, sS, sV, sF, b, L, xs) : WD) s := by
  obtain ⟨dC, dI, dA, hK⟩ := law_K hts
  obtain ⟨sS, sV, sF, g1, g2, g3, g4, g5⟩ := law_str hts hgv
  exact ⟨dC, dI, dA, sS, sV, sF, hK, fun x hx => va_Nw.of (nestW_tab x hx) (hts x (nestW_in x hx)), ⟨va_AO.of (hts (.arrayOver (.object "LakeWatch$Lake")) (by decide +kernel)), va_AO.of (hts (.arrayOver (.object "LakeWatch$Natural")) (by decide +kernel))⟩, ⟨g1, g2, g3, g4, g5⟩, hX⟩
end KOKS
