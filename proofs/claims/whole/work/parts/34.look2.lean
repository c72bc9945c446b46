section LOOK2
variable {w : WD} {d : Nat} {n : NM}
theorem upn_upn {a : Nat} {i u v : Int} : upn (upn n a i u) a i v = upn n a i v := by
  funext x y
  simp only [upn]
  by_cases q : x = a ∧ y = i
  · rw [if_pos q, if_pos q]
  · rw [if_neg q, if_neg q, if_neg q]
/-- what the watcher sees -/
def lookQ (r : Int → Int) (x day s : Int) : Int := if r (700 + 3 * x + 1) * r (700 + 3 * x + 2) ≤ drS s % 1000 then (if boatF r day (r 0).toNat = 0 then 2 else if drS (drS s) % 10 ≤ r (20 + 3 * day) then 2 else 1) else 0
def lookS (r : Int → Int) (x day s : Int) : Int := if r (700 + 3 * x + 1) * r (700 + 3 * x + 2) ≤ drS s % 1000 then (if boatF r day (r 0).toNat = 0 then drS s else drS (drS s)) else drS s
theorem lookS_le {r : Int → Int} {x day s : Int} : 0 ≤ lookS r x day s ∧ lookS r x day s ≤ 1000002 := by
  unfold lookS
  split
  · split
    · exact drS_le
    · exact drS_le
  · exact drS_le
theorem lookQ_le {r : Int → Int} {x day s : Int} : 0 ≤ lookQ r x day s ∧ lookQ r x day s ≤ 2 := by
  unfold lookQ
  split
  · split
    · omega
    · split <;> omega
  · omega
theorem story_le {r : Int → Int} (hr : RowOk r) {x : Int} (x0 : 0 ≤ x) (x1 : x < r 7) : 0 ≤ r (700 + 3 * x + 1) * r (700 + 3 * x + 2) ∧ r (700 + 3 * x + 1) * r (700 + 3 * x + 2) ≤ 1200 := by
  have sr := hr.2.2.2.2.2.2.1 x x0 x1
  exact mulb (A := 20) (B := 60) sr.2.1.1 sr.2.1.2 (by omega) (by omega)
theorem s_look {x day : Int} (hL : LakeRel n 1 (n 147)) (hr : RowOk (n 147)) (x0 : 0 ≤ x) (x1 : x < n 147 7) (y0 : 0 ≤ day) (y1 : day ≤ 59) (h0 : 0 ≤ n 77 2) (h1 : n 77 2 ≤ 1000002) : EI w (d + 3) mX10_look [vr 77, vr 1, vi x, vi day] B0 n (lookQ (n 147) x day (n 77 2)) (upn n 77 2 (lookS (n 147) x day (n 77 2))) := by
  have eu : ∀ v : Int, (upn n 77 2 v) 147 = n 147 := fun v => upn_ne (by decide)
  have hL2 : ∀ v : Int, LakeRel (upn n 77 2 v) 1 ((upn n 77 2 v) 147) := fun v => by
    rw [eu]
    exact hL.congr (fun t a b => upn_ne (by omega)) (fun _ _ _ => rfl)
  have hS : ∀ v : Int, TR (upn n 77 2 v) 21 3 6 7 700 ((upn n 77 2 v) 147) := fun v => (hL2 v).2.2.2.2.2.2.2.2.1
  have hD : ∀ v : Int, FR (upn n 77 2 v) 2 3 60 20 ((upn n 77 2 v) 147) := fun v => (hL2 v).1
  have sl := story_le hr x0 x1
  have dl := drS_le (s := n 77 2)
  have d2 := s_draw (w := w) (d := d + 2) (n := upn n 77 2 (drS (n 77 2))) (m := 10) (by rw [upn_self]; exact dl.1) (by rw [upn_self]; exact dl.2) (by decide)
  rw [upn_self, upn_upn] at d2
  have g1 := s_tr (w := w) (d := d + 1) (n := upn n 77 2 (drS (n 77 2))) (p := 700 + 3 * x + 1) ob_21 rfl ob_22 (hS _) rfl (by decide) x0 (by rw [eu]; exact x1) (by decide) (by decide) rfl
  have g2 := s_tr (w := w) (d := d + 1) (n := upn n 77 2 (drS (n 77 2))) (p := 700 + 3 * x + 2) ob_21 rfl ob_22 (hS _) rfl (by decide) x0 (by rw [eu]; exact x1) (by decide) (by decide) rfl
  have g3 := s_fr (w := w) (d := d + 1) (n := upn n 77 2 (drS (drS (n 77 2)))) (p := 20 + 3 * day) ob_2 rfl ob_3 (hD _) rfl (by decide) y0 (by omega) (j := 0) (by decide) (by decide) (by omega)
  have gb := s_hasBoat (w := w) (d := d) (n := upn n 77 2 (drS (n 77 2))) (x := day) (hL2 _)
  rw [eu] at g1 g2 g3 gb
  refine EI.of (by decide +kernel) (Nat.le_of_ble_eq_true rfl) rfl (fun _ G => gX10_look_0 (EI.use (s_draw (m := 1000) h0 h1 (by decide)) (EI.use g1 (EI.use g2 ⟨⟨by omega, by omega⟩, fun c => EI.use gb ⟨fun c2 => ⟨?_, ?_⟩, fun c2 => EI.use d2 (EI.use g3 ⟨fun c3 => ⟨?_, ?_⟩, fun c3 => ⟨?_, ?_⟩⟩)⟩, fun c => ⟨?_, ?_⟩⟩))))
  · unfold lookQ
    rw [if_pos c, if_pos c2]
  · unfold lookS
    rw [if_pos c, if_pos c2]
  · unfold lookQ
    rw [if_pos c, if_neg c2, if_pos c3]
  · unfold lookS
    rw [if_pos c, if_neg c2]
  · unfold lookQ
    rw [if_pos c, if_neg c2, if_neg (by omega)]
  · unfold lookS
    rw [if_pos c, if_neg c2]
  · unfold lookQ
    rw [if_neg (by omega)]
  · unfold lookS
    rw [if_neg (by omega)]
theorem m_look {x day : Int} (hr : RowOk (n 147)) (hn : NumsOk (n 147)) (x0 : 0 ≤ x) (x1 : x < n 147 7) (y0 : 0 ≤ day) (y1 : day ≤ 59) (h0 : 0 ≤ n 145 36) (h1 : n 145 36 ≤ 1000002) : EI w (d + 3) mX12_looks [vr 145, vi x, vi day] B0 n (lookQ (n 147) x day (n 145 36)) (upn n 145 36 (lookS (n 147) x day (n 145 36))) := by
  have eu : ∀ v : Int, (upn n 145 36 v) 147 = n 147 := fun v => upn_ne (by decide)
  have sl := story_le hr x0 x1
  have dl := drS_le (s := n 145 36)
  have h7 := hn.2.2.2.2.2.2.1
  have d2 := m_draw (w := w) (d := d + 2) (n := upn n 145 36 (drS (n 145 36))) (m := 10) (by rw [upn_self]; exact dl.1) (by rw [upn_self]; exact dl.2) (by decide) (by decide)
  rw [upn_self, upn_upn] at d2
  have gb := m_hasBoat (w := w) (d := d + 2) (n := upn n 145 36 (drS (n 145 36))) (x := day) (by rw [eu]; exact hn.1.1) (by rw [eu]; exact hn.1.2)
  rw [eu] at gb
  refine EI.of (by decide +kernel) (Nat.le_of_ble_eq_true rfl) rfl (fun _ G => gX12_looks_0 (EI.use (m_draw (m := 1000) h0 h1 (by decide) (by decide)) ?_))
  rw [eu]
  refine ⟨⟨by omega, by omega⟩, ⟨by omega, by omega⟩, ⟨by omega, by omega⟩, by omega, by omega, ⟨by omega, by omega⟩, ⟨by omega, by omega⟩, ⟨by omega, by omega⟩, by omega, by omega, ⟨by omega, by omega⟩, fun c => EI.use gb ⟨fun c2 => ⟨?_, ?_⟩, fun c2 => EI.use d2 ?_⟩, fun c => ⟨?_, ?_⟩⟩
  · unfold lookQ
    rw [if_pos c, if_pos c2]
  · unfold lookS
    rw [if_pos c, if_pos c2]
  · rw [eu]
    refine ⟨⟨by omega, by omega⟩, ⟨by omega, by omega⟩, by omega, by omega, fun c3 => ⟨?_, ?_⟩, fun c3 => ⟨?_, ?_⟩⟩
    · unfold lookQ
      rw [if_pos c, if_neg c2, if_pos c3]
    · unfold lookS
      rw [if_pos c, if_neg c2]
    · unfold lookQ
      rw [if_pos c, if_neg c2, if_neg (by omega)]
    · unfold lookS
      rw [if_pos c, if_neg c2]
  · unfold lookQ
    rw [if_neg (by omega)]
  · unfold lookS
    rw [if_neg (by omega)]
end LOOK2
