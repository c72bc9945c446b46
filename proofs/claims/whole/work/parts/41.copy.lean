section COPY
variable {w : WD} {d : Nat} {B : HB} {n : NM}
/-- the table t (cells t + 1) behind a copy from u (cells u + 1) -/
def tcp (n : NM) (t u : Nat) (L : Int) : NM := upn (cpn n (u + 1) (t + 1) L) t 3 (n u 3)
theorem cpn_ne {a0 a b : Nat} {len : Int} (h : b ≠ a) : cpn n a0 a len b = n b := by
  funext j
  unfold cpn
  rw [if_neg (fun z => h z.1)]
theorem s_copyTable {t u L : Nat} {W R : Int} (ot : Obj B t 7 4) (rt : rf B t 0 = some (t + 1)) (oc : Obj B (t + 1) 100 L) (ou : Obj B u 7 4) (ru : rf B u 0 = some (u + 1)) (oe : Obj B (u + 1) 100 L) (h1 : t ≠ u + 1) (h2 : u ≠ t + 1) (hT : TW n t W R) (hU : TW n u W R) (hL2 : (L : Int) ≤ 100000) : EV w (d + 1) mX7_copyFrom [vr t, vr u] B n (tcp n t u (L : Int)) := by
  refine EV.of (by decide +kernel) (Nat.le_of_ble_eq_true rfl) rfl (fun _ G => gX7_copyFrom_0 ot rt oc ou ru oe ⟨⟨by omega, by omega⟩, ⟨by omega, by omega⟩, by omega, by omega, by omega, rfl, ?_⟩)
  rw [show min (L : Int) (L : Int) = L by omega, cpn_ne h2, cpn_ne (show t ≠ t + 1 by omega), hT.2.1, show min (n u 3) R = n u 3 by have := hU.2.2.2; omega]
  rfl
end COPY
