section COPY
variable {w : WD} {d : Nat} {B : HB} {n : NM}
/-- the table t (cells t + 1) behind a copy from u (cells u + 1) -/
def tcp (n : NM) (t u : Nat) (L : Int) : NM := upn (cpn n (u + 1) (t + 1) L) t 3 (n u 3)
theorem cpn_ne {a0 a b : Nat} {len : Int} (h : b ≠ a) : cpn n a0 a len b = n b := by
  funext j
  unfold cpn
  rw [if_neg (fun z => h z.1)]
theorem s_copyTable {t u L : Nat} {W R : Int} (ot : Obj B t 7 4) (rt : rf B t 0 = some (t + 1)) (oc : Obj B (t + 1) 100 L) (ou : Obj B u 7 4) (ru : rf B u 0 = some (u + 1)) (oe : Obj B (u + 1) 100 L) (h1 : t ≠ u + 1) (h2 : u ≠ t + 1) (hT : TW n t W R) (hU : TW n u W R) (hL2 : (L : Int) ≤ 100000) : EV w (d + 1) mX7_copyFrom [vr t, vr u] B n (tcp n t u (L : Int)) := by
  refine EV.of (by decide +kernel) (Nat.le_of_ble_eq_true rfl) rfl (fun _ G => gX7_copyFrom_0 ot rt oc ou ru oe ⟨⟨by omega, by omega⟩, ⟨by omega, by omega⟩, by omega, by omega, by omega, rfl, ?_⟩)
  rw [show min (L : Int) (L : Int) = L by omega, cpn_ne h2, cpn_ne (show t ≠ t + 1 by omega), hT.2.1, show min (n u 3) R = n u 3 by have := hU.2.2.2; omega]
  rfl
theorem tcp_ne {t u q : Nat} {L : Int} (h : q ≠ t) (h2 : q ≠ t + 1) : tcp n t u L q = n q := by
  unfold tcp
  rw [upn_ne h, cpn_ne h2]
theorem tcp_t {t u : Nat} {L j : Int} : tcp n t u L t j = if j = 3 then n u 3 else n t j := by
  unfold tcp
  by_cases c : j = 3
  · rw [if_pos c, c, upn_self]
  · rw [if_neg c, upn_i c, cpn_ne (by omega)]
theorem tcp_c {t u : Nat} {L j : Int} (j0 : 0 ≤ j) (j1 : j < L) : tcp n t u L (t + 1) j = n (u + 1) j := by
  unfold tcp
  rw [upn_ne (by omega)]
  exact if_pos ⟨rfl, j0, j1⟩
theorem TR.copy {n3 : NM} {t u : Nat} {L W R cnt base : Int} {r : Int → Int} (hU : TR n u W R cnt base r) (hT : TW n t W R) (hW : 0 ≤ W) (hL : R * W = L) (e1 : n3 t = tcp n t u L t) (e2 : n3 (t + 1) = tcp n t u L (t + 1)) : TR n3 t W R cnt base r := by
  obtain ⟨h1, h2, h3⟩ := hU
  have hm : r cnt * W ≤ R * W := Int.mul_le_mul_of_nonneg_right (by have := h1.2.2.2; omega) hW
  refine ⟨⟨?_, ?_, ?_, ?_⟩, ?_, fun k k0 k1 => ?_⟩
  · rw [e1, tcp_t, if_neg (by decide)]
    exact hT.1
  · rw [e1, tcp_t, if_neg (by decide)]
    exact hT.2.1
  · rw [e1, tcp_t, if_pos rfl]
    exact h1.2.2.1
  · rw [e1, tcp_t, if_pos rfl]
    exact h1.2.2.2
  · rw [e1, tcp_t, if_pos rfl]
    exact h2
  · rw [e2, tcp_c k0 (by omega)]
    exact h3 k k0 k1
theorem FR.copy {n3 : NM} {t u : Nat} {L W R base : Int} {r : Int → Int} (hU : FR n u W R base r) (hT : TW n t W R) (hL : R * W = L) (e1 : n3 t = tcp n t u L t) (e2 : n3 (t + 1) = tcp n t u L (t + 1)) : FR n3 t W R base r := by
  obtain ⟨h1, h2, h3⟩ := hU
  refine ⟨⟨?_, ?_, ?_, ?_⟩, ?_, fun k k0 k1 => ?_⟩
  · rw [e1, tcp_t, if_neg (by decide)]
    exact hT.1
  · rw [e1, tcp_t, if_neg (by decide)]
    exact hT.2.1
  · rw [e1, tcp_t, if_pos rfl]
    exact h1.2.2.1
  · rw [e1, tcp_t, if_pos rfl]
    exact h1.2.2.2
  · rw [e1, tcp_t, if_pos rfl]
    exact h2
  · rw [e2, tcp_c k0 (by omega)]
    exact h3 k k0 k1
end COPY
