section RUN4
variable {w : WD} {d : Nat} {n : NM} {G : GM}
theorem s_runL {x : Int} {T : Nat} {z : RS} (hL : LakeRel n 1 (n 147)) (hr : RowOk (n 147)) (hn : NumsOk (n 147)) (hT : TW n 78 3 12) (hN : n 78 3 = n 147 3) (x0 : 0 ≤ x) (x1 : x < n 147 7) (hT2 : T ≤ 60) (hz : InvR 0 0 z) :
    ∀ (m D : Nat), D + m = T → Rn w mX10_make (d + 4) G (fun r h' => r = some (vi (runR (n 147) x T z).1) ∧ h' = (B0, csR n (runR (n 147) x T z))) 32 [(0, vr 77), (1, vr 1), (2, vi x), (3, vi (T : Int)), (5, vi (runR (n 147) x D z).1), (6, vi (D : Int))] [] (B0, csR n (runR (n 147) x D z))
  | 0, D, hD => by
    have eD : D = T := by omega
    subst eD
    exact gX10_make_32 ⟨fun _ => ⟨rfl, rfl⟩, fun c => absurd c (by omega)⟩
  | m + 1, D, hD => by
    have nxt := s_runL hL hr hn hT hN x0 x1 hT2 hz m (D + 1) (by omega)
    have iv := runR_inv (r := n 147) (x := x) (by have := hn.2.2.2.1; omega) hz D
    exact gX10_make_32 ⟨fun c => absurd c (by omega), fun _ => s_dayL (z := runR (n 147) x D z) hL hr hn hT hN x0 x1 (by omega) iv nxt (n 147 3).toNat 0 (by have := hn.2.2.2.1; omega)⟩
def csB (n : NM) : NM := upn (upn n 78 3 (n 147 3)) 77 1 1
theorem inv0 {seed : Int} (s : 0 ≤ seed ∧ seed ≤ 1000000) : InvR 0 0 (0, seed, fun _ => 0) :=
  ⟨⟨s.1, by show seed ≤ 1000002; omega⟩, ⟨Int.le_refl _, by show (0 : Int) ≤ _; omega⟩, fun i i0 i1 => ⟨Int.le_refl _, by show (0 : Int) ≤ _; split <;> omega⟩⟩
theorem s_make {x days seed : Int} (hL : LakeRel n 1 (n 147)) (hr : RowOk (n 147)) (hn : NumsOk (n 147)) (hT : TW n 78 3 12) (x0 : 0 ≤ x) (x1 : x < n 147 7) (y : 1 ≤ days ∧ days ≤ 60) (s : 0 ≤ seed ∧ seed ≤ 1000000) : EI w (d + 4) mX10_make [vr 77, vr 1, vi x, vi days, vi seed] B0 n (runR (n 147) x days.toNat (0, seed, fun _ => 0)).1 (csR (csB n) (runR (n 147) x days.toNat (0, seed, fun _ => 0))) := by
  have h3 := hn.2.2.2.1
  have hs : n 10 3 = n 147 3 := hL.2.2.2.2.1.2.1
  have eC : ∀ t : Nat, t ≠ 77 → t ≠ 78 → csB n t = n t := fun t a b => by
    unfold csB
    rw [upn_ne a, upn_ne b]
  have e147 : csB n 147 = n 147 := eC _ (by decide) (by decide)
  have eN : csB n 78 3 = n 147 3 := by
    unfold csB
    rw [upn_a (by decide), upn_self]
  have hTB : TW (csB n) 78 3 12 := by
    refine ⟨?_, ?_, by rw [eN]; exact h3.1, by rw [eN]; exact h3.2⟩
    · unfold csB
      rw [upn_a (by decide), upn_i (by decide)]
      exact hT.1
    · unfold csB
      rw [upn_a (by decide), upn_i (by decide)]
      exact hT.2.1
  have rl := fun G : GM => s_runL (w := w) (d := d) (G := G) (n := csB n) (x := x) (T := days.toNat) (z := (0, seed, fun _ => 0)) (by rw [e147]; exact hL.congr (fun t a b => eC t (by omega) (by omega)) (fun _ _ _ => rfl)) (by rw [e147]; exact hr) (by rw [e147]; exact hn) hTB (by rw [eN, e147]) x0 (by rw [e147]; exact x1) (by omega) (inv0 s) days.toNat 0 (by omega)
  rw [e147, show ((days.toNat : Nat) : Int) = days by omega] at rl
  have fa : EV w (d + 2) mJ7_fill_53178 [vr 79, vi 0] B0 (upn n 78 3 (n 147 3)) (wrow (upn n 78 3 (n 147 3)) 79 0 36 (fun _ => 0)) := by
    refine EV.of (by decide +kernel) (Nat.le_of_ble_eq_true rfl) rfl (fun _ G => gJ7_fill_53178_0 ob_79 ⟨⟨by decide, by decide⟩, ?_⟩)
    have := s_fillL (w := w) (d := d + 2) (G := G) (n := upn n 78 3 (n 147 3)) (x := 0) ob_79 (by decide) 36 0 rfl
    rw [show wrow (upn n 78 3 (n 147 3)) 79 0 ((0 : Nat) : Int) (fun _ => 0) = upn n 78 3 (n 147 3) from wrow_0] at this
    exact this
  have fb : EV w (d + 3) mX7_fill [vr 78, vi (n 147 3), vi 0] B0 n (wrow (upn n 78 3 (n 147 3)) 79 0 36 (fun _ => 0)) := by
    refine EV.of (by decide +kernel) (Nat.le_of_ble_eq_true rfl) rfl (fun _ G => gX7_fill_0 ob_78 (c := 79) rfl ob_79 ?_)
    rw [show max 0 (min (n 147 3) (n 78 2)) = n 147 3 by have := hT.2.1; omega]
    exact EV.use fa ⟨rfl, rfl⟩
  have e : upn (upn (wrow (upn n 78 3 (n 147 3)) 79 0 36 (fun _ => 0)) 77 1 1) 77 2 seed = csR (csB n) (0, seed, fun _ => 0) := by
    unfold csR csB
    congr 1
    funext a b
    by_cases c : a = 79
    · subst c
      rw [upn_a (by decide)]
      by_cases c2 : 0 ≤ b ∧ b < 36
      · rw [wrow_in (by omega) (by omega), wrow_in (by omega) (by omega)]
      · rw [wrow_out (by omega), wrow_out (by omega), upn_a (by decide), upn_a (by decide), upn_a (by decide)]
    · rw [wrow_a c, upn_ap, upn_ap, wrow_a c]
  refine EI.of (by decide +kernel) (Nat.le_of_ble_eq_true rfl) rfl (fun _ G => gX10_make_0 (EI.use (s_size ob_10 (c := 11) rfl ob_11) ?_))
  rw [hs]
  refine EV.use fb ?_
  rw [e]
  exact rl G
end RUN4
