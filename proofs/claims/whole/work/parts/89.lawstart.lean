section LAWSTART
variable {w : WD} {d : Nat} {G : GM} {Q : Option AV → Hp → Prop}
theorem tyf11 : ∀ k, k < 13 → ftA 11 k = .int ∨ ftA 11 k = .boolean ∨ ftA 11 k = .long ∨ (∃ n, ftA 11 k = .object n) ∨ ∃ t, ftA 11 k = .array t
  | 0, _ => Or.inr (Or.inr (Or.inr (Or.inl ⟨_, rfl⟩)))
  | 1, _ => Or.inr (Or.inr (Or.inr (Or.inr ⟨_, rfl⟩)))
  | 2, _ => Or.inr (Or.inr (Or.inr (Or.inr ⟨_, rfl⟩)))
  | 3, _ => Or.inr (Or.inr (Or.inr (Or.inl ⟨_, rfl⟩)))
  | 4, _ => Or.inr (Or.inr (Or.inr (Or.inl ⟨_, rfl⟩)))
  | 5, _ => Or.inr (Or.inr (Or.inr (Or.inl ⟨_, rfl⟩)))
  | 6, _ => Or.inr (Or.inr (Or.inr (Or.inl ⟨_, rfl⟩)))
  | 7, _ => Or.inr (Or.inr (Or.inr (Or.inl ⟨_, rfl⟩)))
  | 8, _ => Or.inr (Or.inr (Or.inr (Or.inl ⟨_, rfl⟩)))
  | 9, _ => Or.inr (Or.inr (Or.inr (Or.inr ⟨_, rfl⟩)))
  | 10, _ => Or.inl rfl
  | 11, _ => Or.inl rfl
  | 12, _ => Or.inl rfl
  | k + 13, h => by omega
theorem tyf12 : ∀ k, k < 39 → ftA 12 k = .int ∨ ftA 12 k = .boolean ∨ ftA 12 k = .long ∨ (∃ n, ftA 12 k = .object n) ∨ ∃ t, ftA 12 k = .array t
  | 0, _ => Or.inl rfl
  | 1, _ => Or.inl rfl
  | 2, _ => Or.inr (Or.inr (Or.inr (Or.inr ⟨_, rfl⟩)))
  | 3, _ => Or.inr (Or.inr (Or.inr (Or.inr ⟨_, rfl⟩)))
  | 4, _ => Or.inr (Or.inr (Or.inr (Or.inr ⟨_, rfl⟩)))
  | 5, _ => Or.inr (Or.inr (Or.inr (Or.inr ⟨_, rfl⟩)))
  | 6, _ => Or.inl rfl
  | 7, _ => Or.inr (Or.inr (Or.inr (Or.inr ⟨_, rfl⟩)))
  | 8, _ => Or.inl rfl
  | 9, _ => Or.inl rfl
  | 10, _ => Or.inl rfl
  | 11, _ => Or.inl rfl
  | 12, _ => Or.inr (Or.inr (Or.inl rfl))
  | 13, _ => Or.inl rfl
  | 14, _ => Or.inr (Or.inl rfl)
  | 15, _ => Or.inl rfl
  | 16, _ => Or.inr (Or.inr (Or.inr (Or.inr ⟨_, rfl⟩)))
  | 17, _ => Or.inl rfl
  | 18, _ => Or.inr (Or.inr (Or.inr (Or.inr ⟨_, rfl⟩)))
  | 19, _ => Or.inr (Or.inr (Or.inr (Or.inr ⟨_, rfl⟩)))
  | 20, _ => Or.inl rfl
  | 21, _ => Or.inr (Or.inr (Or.inr (Or.inr ⟨_, rfl⟩)))
  | 22, _ => Or.inr (Or.inr (Or.inr (Or.inr ⟨_, rfl⟩)))
  | 23, _ => Or.inl rfl
  | 24, _ => Or.inl rfl
  | 25, _ => Or.inr (Or.inr (Or.inr (Or.inr ⟨_, rfl⟩)))
  | 26, _ => Or.inr (Or.inr (Or.inr (Or.inr ⟨_, rfl⟩)))
  | 27, _ => Or.inr (Or.inl rfl)
  | 28, _ => Or.inr (Or.inr (Or.inl rfl))
  | 29, _ => Or.inr (Or.inr (Or.inl rfl))
  | 30, _ => Or.inr (Or.inr (Or.inr (Or.inr ⟨_, rfl⟩)))
  | 31, _ => Or.inr (Or.inr (Or.inr (Or.inr ⟨_, rfl⟩)))
  | 32, _ => Or.inr (Or.inr (Or.inr (Or.inr ⟨_, rfl⟩)))
  | 33, _ => Or.inr (Or.inr (Or.inr (Or.inr ⟨_, rfl⟩)))
  | 34, _ => Or.inr (Or.inr (Or.inr (Or.inr ⟨_, rfl⟩)))
  | 35, _ => Or.inr (Or.inr (Or.inr (Or.inr ⟨_, rfl⟩)))
  | 36, _ => Or.inr (Or.inr (Or.inl rfl))
  | 37, _ => Or.inl rfl
  | 38, _ => Or.inr (Or.inr (Or.inr (Or.inr ⟨_, rfl⟩)))
  | k + 39, h => by omega
theorem nwRL_7 : NewAt RL 7 11 := ⟨_, _, _, clk_11, gT_in (by decide +kernel) (by decide +kernel), gT_in (by decide +kernel) (by decide +kernel), gT_in (by decide +kernel) (by decide +kernel)⟩
theorem nwRL_10 : NewAt RL 10 12 := ⟨_, _, _, clk_12, gT_in (by decide +kernel) (by decide +kernel), gT_in (by decide +kernel) (by decide +kernel), gT_in (by decide +kernel) (by decide +kernel)⟩
set_option maxRecDepth 20000 in
theorem law_start (hN : wN w ≤ 4096) (hq : ∀ h : Hp, Q (some (vi 1)) h) (hcz : gcz G = 165) (hcu : gcu G = 20250) : Rn w mL_law (d + 86) G Q 0 [(0, vx 4)] [] (BK 0 0, NK 0) := by
  refine r_new (ci := 11) (nf := 13) dL_law_0 nwRL_7 ⟨_, rfl, rfl⟩ tyf11 (NK_zero (i := 0) (a := 0) (by decide +kernel)) (by rw [hcz]; exact Nat.le_of_ble_eq_true rfl) (by rw [hcu]; exact (show hu (BK 0 0) + 13 ≤ 20250 by decide +kernel)) ?_
  dsimp only
  rw [newB_BK (k := 0) (j := 0) (x := (11, 13)) rfl (by decide +kernel)]
  refine r_dup dL_law_3 rfl ?_
  refine r_callI (mc := 144) (ms := 11641) (a := 0) (args := []) (st := [vr 0]) dL_law_4 kL_9 rfl rfl (Nat.le_of_ble_eq_true rfl) (fun _ _ => ⟨by rw [hcz]; exact Nat.le_of_ble_eq_true rfl, by rw [hcu]; exact (show hu (BK 1 0) + 11641 ≤ 20250 by decide +kernel)⟩) ?_
  refine Ev.mono (Ev.deep (by omega) (in_X11_init_0 (d := d))) (fun r h' y => ?_)
  obtain ⟨y1, y2⟩ := y
  subst y1 y2
  refine r_astore_n (ls' := [(0, vx 4), (1, vr 0)]) dL_law_7 rfl (Nat.le_of_ble_eq_true rfl) rfl ?_
  refine r_new (ci := 12) (nf := 39) dL_law_8 nwRL_10 ⟨_, rfl, rfl⟩ tyf12 (NK_zero (i := 192) (a := 145) (by decide +kernel)) (by rw [hcz]; exact Nat.le_of_ble_eq_true rfl) (by rw [hcu]; exact (show hu (BK 145 144) + 39 ≤ 20250 by decide +kernel)) ?_
  dsimp only
  rw [newB_BK (k := 145) (j := 144) (x := (12, 39)) rfl (by decide +kernel)]
  refine r_dup dL_law_11 rfl ?_
  refine r_callI (mc := 19) (ms := 8557) (a := 145) (args := []) (st := [vr 145]) dL_law_12 kL_12 rfl rfl (Nat.le_of_ble_eq_true rfl) (fun _ _ => ⟨by rw [hcz]; exact Nat.le_of_ble_eq_true rfl, by rw [hcu]; exact (show hu (BK 146 144) + 8557 ≤ 20250 by decide +kernel)⟩) ?_
  refine Ev.mono (Ev.deep (by omega) (in_X12_init_145 (d := d))) (fun r h' y => ?_)
  obtain ⟨y1, y2⟩ := y
  subst y1 y2
  refine r_astore_n (ls' := [(0, vx 4), (1, vr 0), (2, vr 145)]) dL_law_15 rfl (Nat.le_of_ble_eq_true rfl) rfl ?_
  refine r_iconst (x := 0) dL_law_16 rfl (by decide) ?_
  refine r_istore_n (ls' := [(0, vx 4), (1, vr 0), (2, vr 145), (3, vi 0)]) dL_law_17 rfl (Nat.le_of_ble_eq_true rfl) rfl ?_
  rw [BK_all]
  exact law_loop hN hq 512 0 0 (NK 217) (by decide) (by decide) (by omega) rel0
end LAWSTART
