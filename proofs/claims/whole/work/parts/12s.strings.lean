def strC (i : Int) : Int := ((strB.getD i.toNat 0) &&& 255).toInt
section STR
variable {w : WD} {m : MI} {d : Nat} {G : GM} {Q : Option AV → Hp → Prop} {pc : Nat} {ls : List (Nat × AV)} {st : List AV} {h : Hp}
theorem str_S (C : Ctx w m d G Q) {H : Heap} {locs : List Loc} {cells slots : Nat} (hR : Rep w G h H locs cells slots) : va_S (fun q => w0 w ≤ q) (gs G).heap H locs := by
  have h1 := C.2.2.2.2.2.2.2.2.2.2.1
  refine ⟨?_, fun q hq hn => ?_, hR.2.1⟩
  · rw [h1.1, hR.1.1]
    have := hR.2.2.1
    omega
  · have : q < w0 w := Nat.not_le.mp hn
    rw [hR.1.2.1 q this, h1.2 q this]
theorem str_K (C : Ctx w m d G Q) : ∀ a : Nat, a < (wH w).size → ¬ (w0 w ≤ a) → (gs G).heap[a]? = (wH w)[a]? := fun a h1 _ => C.2.2.2.2.2.2.2.2.2.2.1.2 a h1
theorem str_E (C : Ctx w m d G Q) : vk_S 1 [94] [strB] (fun _ => wS w) (fun _ => wV w) (fun q => w0 w ≤ q) (gs G) (gs G).heap := C.2.2.2.2.2.2.2.2.1.2.2.2.1.2.1.kept (str_K C)
theorem r_ldcS (hm : m.1.cls = RX9) (hd : decode m.2.1 pc = .ok (.ldc 64, 2)) (k : Rn w m d G Q (pc + 2) ls (vx 1 :: st) h) : Rn w m d G Q pc ls st h := by
  intro C H L locs cells slots hR hL hl hs
  have k := k C H L locs cells slots hR hL hl (okc (show okV (vx 1) from trivial) hs)
  exact va_ldcS C.1 C.2.1 (own := RX9) (by rw [← hm]; exact C.2.2.2.2.2.2.1) C.2.2.2.2.2.2.2.2.1.2.2.2.1.1 hd k
theorem r_aload_nX {k : Fin 4} {i j : Nat} (hd : decode m.2.1 pc = .ok (.aload_n k, 1)) (hi : (k : Nat) = i) (hv : lk ls i = some (vx j)) (hj : j = 1 ∨ j = 2 ∨ j = 4) (kk : Rn w m d G Q (pc + 1) ls (vx j :: st) h) : Rn w m d G Q pc ls st h := by
  intro C H L locs cells slots hR hL hl hs
  have kk := kk C H L locs cells slots hR hL hl (okc (show okV (vx j) from trivial) hs)
  have hh := lv_atE hL hv
  rcases hj with rfl | rfl | rfl
  · exact lv_aload_n C.1 C.2.1 hd hi hh kk
  · exact lv_aload_n C.1 C.2.1 hd hi hh kk
  · exact lv_aload_n C.1 C.2.1 hd hi hh kk
theorem r_getsC (hd : decode m.2.1 pc = .ok (.getstatic 38, 3)) (hl : Cond.fieldLink m.1.cls 38 "java/lang/String" "COMPACT_STRINGS" "Z" ∈ gT) (k : Rn w m d G Q (pc + 3) ls (vi 1 :: st) h) : Rn w m d G Q pc ls st h := by
  intro C H L locs cells slots hR hL hlo hs
  have k := k C H L locs cells slots hR hL hlo (okc (show okV (vi 1) from ⟨by decide, by decide⟩) hs)
  exact va_gets C.1 C.2.1 (C.2.2.2.2.2.2.2.2.1.2.2.2.1.2.2.1.kept (str_K C)) (str_S C hR) C.2.2.2.2.2.2.1 (C.2.2.2.2.2.2.2.1 _ hl) (fun _ h => h) hd k
theorem r_getsF (hd : decode m.2.1 pc = .ok (.getstatic 1053, 3)) (hl : Cond.fieldLink m.1.cls 1053 "jdk/internal/util/Preconditions" "SIOOBE_FORMATTER" "Ljava/util/function/BiFunction;" ∈ gT) (k : Rn w m d G Q (pc + 3) ls (vx 3 :: st) h) : Rn w m d G Q pc ls st h := by
  intro C H L locs cells slots hR hL hlo hs
  have k := k C H L locs cells slots hR hL hlo (okc (show okV (vx 3) from trivial) hs)
  exact va_gets C.1 C.2.1 (C.2.2.2.2.2.2.2.2.1.2.2.2.1.2.2.2.1.kept (str_K C)) (str_S C hR) C.2.2.2.2.2.2.1 (C.2.2.2.2.2.2.2.1 _ hl) (fun _ h => h) hd k
theorem r_strVal {idx : Nat} (hd : decode m.2.1 pc = .ok (.getfield idx, 3)) (hl : Cond.fieldLink m.1.cls idx "java/lang/String" "value" "[B" ∈ gT) (k : Rn w m d G Q (pc + 3) ls (vx 2 :: st) h) : Rn w m d G Q pc ls (vx 1 :: st) h := by
  intro C H L locs cells slots hR hL hlo hs
  have k := k C H L locs cells slots hR hL hlo (okc (show okV (vx 2) from trivial) (oke hs))
  exact vk_getf C.1 C.2.1 ((str_E C).1 0 (by decide)).2.2.1 (str_S C hR) C.2.2.2.2.2.2.1 (C.2.2.2.2.2.2.2.1 _ hl) (fun _ h => h) hd k
theorem r_strCod {idx : Nat} (hd : decode m.2.1 pc = .ok (.getfield idx, 3)) (hl : Cond.fieldLink m.1.cls idx "java/lang/String" "coder" "B" ∈ gT) (k : Rn w m d G Q (pc + 3) ls (vi 0 :: st) h) : Rn w m d G Q pc ls (vx 1 :: st) h := by
  intro C H L locs cells slots hR hL hlo hs
  have k := k C H L locs cells slots hR hL hlo (okc (show okV (vi 0) from ⟨by decide, by decide⟩) (oke hs))
  exact vk_getf C.1 C.2.1 ((str_E C).1 0 (by decide)).2.1 (str_S C hR) C.2.2.2.2.2.2.1 (C.2.2.2.2.2.2.2.1 _ hl) (fun _ h => h) hd k
theorem r_bytLen (hd : decode m.2.1 pc = .ok (.arraylength, 1)) (k : Rn w m d G Q (pc + 1) ls (vi 94 :: st) h) : Rn w m d G Q pc ls (vx 2 :: st) h := by
  intro C H L locs cells slots hR hL hlo hs
  have k := k C H L locs cells slots hR hL hlo (okc (show okV (vi 94) from ⟨by decide, by decide⟩) (oke hs))
  exact va_tlen C.1 C.2.1 ((str_E C).1 0 (by decide)).2.2.2 (str_S C hR) rfl hd k
theorem r_bytAt {i : Int} (hd : decode m.2.1 pc = .ok (.baload, 1)) (h0 : 0 ≤ i) (h1 : i < 94) (k : Rn w m d G Q (pc + 1) ls (vi (strB.getD i.toNat 0).toInt :: st) h) : Rn w m d G Q pc ls (vi i :: vx 2 :: st) h := by
  intro C H L locs cells slots hR hL hlo hs
  have oi : inI i := okh hs
  have k := k C H L locs cells slots hR hL hlo (okc (show okV (vi _) from ⟨by have := Int32.le_toInt (strB.getD i.toNat 0); omega, by have := Int32.toInt_lt (strB.getD i.toNat 0); omega⟩) (oke (oke hs)))
  refine va_tb C.1 C.2.1 ((str_E C).1 0 (by decide)).2.2.2 (str_S C hR) (i32_in oi h0 h1) (v := .int (Int32.ofInt (strB.getD i.toNat 0).toInt)) ?_ hd k
  rw [i32_clamp oi, Int32.ofInt_toInt]
  rfl
theorem i32_c16 : ∀ x : Nat, x < 256 → ((Int32.ofInt (x : Int)).toUInt32 % 65536).toInt32 = Int32.ofInt (x : Int) := by decide +kernel
theorem r_i2c {x : Int} (hd : decode m.2.1 pc = .ok (.i2c, 1)) (h0 : 0 ≤ x) (h1 : x < 256) (k : Rn w m d G Q (pc + 1) ls (vi x :: st) h) : Rn w m d G Q pc ls (vi x :: st) h := by
  intro C H L locs cells slots hR hL hlo hs
  have k := k C H L locs cells slots hR hL hlo hs
  have e := i32_c16 x.toNat (by omega)
  rw [toN h0] at e
  exact lv_i2c C.1 C.2.1 hd e k
theorem nar_c : ∀ x : Nat, x < 256 → narrow .char (.int (Int32.ofInt (x : Int))) = .int (Int32.ofInt (x : Int)) := by decide +kernel
theorem r_cret {x : Int} (hd : decode m.2.1 pc = .ok (.ireturn, 1)) (hrt : m.2.2.2 = some .char) (h0 : 0 ≤ x) (h1 : x < 256) (hq : Q (some (vi x)) h) : Rn w m d G Q pc ls [vi x] h := by
  intro C H L locs cells slots hR hL hl hs
  have e := nar_c x.toNat (by omega)
  rw [toN h0] at e
  exact (C.2.2.2.2.2.2.2.2.2.2.2.2 h H locs cells slots pc L hR).1 x .char hq (okh hs) hrt e hd
theorem r_bret0 (hd : decode m.2.1 pc = .ok (.ireturn, 1)) (hrt : m.2.2.2 = some .byte) (hq : Q (some (vi 0)) h) : Rn w m d G Q pc ls [vi 0] h := by
  intro C H L locs cells slots hR hL hl hs
  exact (C.2.2.2.2.2.2.2.2.2.2.2.2 h H locs cells slots pc L hR).1 0 .byte hq (okh hs) hrt (by decide +kernel) hd
theorem r_callVS {idx n : Nat} {q : MI} {args stk : List AV} (hd : decode m.2.1 pc = .ok (.invokevirtual idx, 3)) (hl : LinkV m.1.cls idx q n) (hcl : q.1.cls = "java/lang/String") (hn : args.length = n) (hstk : stk = args.reverse ++ vx 1 :: st) (hcat : catS st ≤ 8)
    (E : Ev w d 0 0 q (vx 1 :: args) h (fun r h' => Rn w m (d + 1) G Q (pc + 3) ls (r.toList ++ st) h')) : Rn w m (d + 1) G Q pc ls stk h := by
  intro C H L locs cells slots hR hL hlo hs
  subst hstk
  have hts := C.2.2.2.2.2.2.2.1
  obtain ⟨⟨l1, l2, l3, l4, l5, l6⟩, l7, l8⟩ := hl
  have hroom := C.2.2.2.2.2.2.2.2.2.1
  have hcaps := C.2.2.2.2.2.2.2.2.2.2.2.1
  have hK := C.2.2.2.2.2.2.2.2.1
  have hsr : ∀ x ∈ st, okV x := fun x hx => hs x (by simp [hx])
  have hsa : ∀ x ∈ vx 1 :: args, okV x := okc trivial (fun x hx => hs x (by simp [hx]))
  refine after_call (mc := 0) (ms := 0) (args' := (Value.ref (wS w) :: args.map (enc w)).toArray) C hR hL hlo hsr ⟨hR.2.2.2.2.1, hR.2.2.2.2.2⟩ ?_
  refine va_runV (Ts := gT) (own := m.1.cls) (As := args.map (enc w)) (ws := wsM q) (n := n) (nL := m.2.2.1) ⟨C.1, C.2.1, C.2.2.1, C.2.2.2.2.2.2.1, hts⟩ E (cwV n hts ?_ rfl rfl rfl ⟨rfl, l4.1, l4.2, l5⟩ ⟨?_, ?_⟩) ⟨PC_blind w _ h, ?_, fun U hU hW => ⟨by simp [enc], by rw [hU]; exact hR.1, KOk.warm hW hK, hsa⟩⟩ rfl (by rw [List.length_map, hn]) hL.1 (by simp [enc]) (lv_room (by rw [catS_enc w C.wF]; exact hcat)) hd ?_
  · intro x hx
    rcases List.mem_append.mp hx with hx | hx
    rotate_left
    · exact goodIn_wsM l3 x hx
    simp only [List.mem_cons, List.not_mem_nil, or_false] at hx
    rcases hx with rfl | rfl | rfl | rfl
    · exact ⟨l1, good_of_word (gT_good l1)⟩
    · exact ⟨l7, good_of_word (gT_good l7)⟩
    · exact ⟨l8, good_of_word (gT_good l8)⟩
    · exact ⟨l2, good_of_word (gT_good l2)⟩
  · show d + 1 ≤ _
    exact hroom.1
  · show 8 + (q.2.2.1 + 11) + 64 * d ≤ _
    have := hroom.2
    omega
  · rw [hcl]
    exact vk_recv (i := 0) (str_E C) (by decide) (str_S C hR)
  · have := hR.2.2.1
    have := hR.2.2.2.1
    have := hR.2.2.2.2.1
    have := hR.2.2.2.2.2
    exact ⟨by omega, by omega⟩
end STR
theorem sw_v : Cond.fieldLink RJ0 9 "java/lang/String" "value" "[B" ∈ gT := gT_in (by decide +kernel) rfl
theorem sw_c : Cond.fieldLink RJ0 15 "java/lang/String" "coder" "B" ∈ gT := gT_in (by decide +kernel) rfl
theorem sw_s : Cond.fieldLink RJ0 38 "java/lang/String" "COMPACT_STRINGS" "Z" ∈ gT := gT_in (by decide +kernel) rfl
theorem sw_f : Cond.fieldLink RJ0 1053 "jdk/internal/util/Preconditions" "SIOOBE_FORMATTER" "Ljava/util/function/BiFunction;" ∈ gT := gT_in (by decide +kernel) rfl
section STREV
variable {w : WD} {d : Nat} {h : Hp}
abbrev EvC (w : WD) (d : Nat) (q : MI) (args : List AV) (h : Hp) (x : Int) : Prop := Ev w d 0 0 q args h (fun r h' => r = some (vi x) ∧ h' = h)
theorem ev_coder : EvC w d mJ0_coder_7d493 [vx 1] h 0 := by
  refine Ev.of (by decide +kernel) (Nat.le_of_ble_eq_true rfl) rfl (fun _ G _ _ => ?_)
  refine r_getsC dJ0_coder_7d493_0 sw_s ?_
  refine r_zeq (tgt := 13) dJ0_coder_7d493_3 (by decide) (fun c => absurd c (by decide)) (fun _ => ?_)
  refine r_aload_nX dJ0_coder_7d493_6 rfl rfl (by decide) ?_
  refine r_strCod dJ0_coder_7d493_7 sw_c ?_
  refine r_goto (tgt := 14) dJ0_coder_7d493_10 (by decide) ?_
  exact r_bret0 dJ0_coder_7d493_14 rfl ⟨⟨rfl, rfl⟩, rfl, rfl⟩
theorem ev_isLatin : EvC w d mJ0_isLatin1_aae02 [vx 1] h 1 := by
  refine Ev.of (by decide +kernel) (Nat.le_of_ble_eq_true rfl) rfl (fun _ G _ _ => ?_)
  refine r_getsC dJ0_isLatin1_aae02_0 sw_s ?_
  refine r_zeq (tgt := 17) dJ0_isLatin1_aae02_3 (by decide) (fun c => absurd c (by decide)) (fun _ => ?_)
  refine r_aload_nX dJ0_isLatin1_aae02_6 rfl rfl (by decide) ?_
  refine r_strCod dJ0_isLatin1_aae02_7 sw_c ?_
  refine r_zne (tgt := 17) dJ0_isLatin1_aae02_10 (by decide) (fun c => absurd rfl c) (fun _ => ?_)
  refine r_iconst (x := 1) dJ0_isLatin1_aae02_13 rfl (by decide) ?_
  refine r_goto (tgt := 18) dJ0_isLatin1_aae02_14 (by decide) ?_
  exact r_zret dJ0_isLatin1_aae02_18 rfl (by decide) ⟨⟨rfl, rfl⟩, rfl, rfl⟩
theorem ev_len : EvC w (d + 1) mJ0_length_8abf5 [vx 1] h 94 := by
  refine Ev.of (by decide +kernel) (Nat.le_of_ble_eq_true rfl) rfl (fun _ G _ _ => ?_)
  refine r_aload_nX dJ0_length_8abf5_0 rfl rfl (by decide) ?_
  refine r_strVal dJ0_length_8abf5_1 sw_v ?_
  refine r_bytLen dJ0_length_8abf5_4 ?_
  refine r_aload_nX dJ0_length_8abf5_5 rfl rfl (by decide) ?_
  refine r_callVS (args := []) (q := mJ0_coder_7d493) dJ0_length_8abf5_6 kJ0_335 rfl rfl rfl (Nat.le_of_ble_eq_true rfl) (Ev.mono ev_coder ?_)
  rintro r h' ⟨rfl, rfl⟩
  show Rn w mJ0_length_8abf5 (d + 1) G _ 9 [(0, vx 1)] [vi 0, vi 94] h'
  refine r_ishr (n := 0) dJ0_length_8abf5_9 rfl (by decide) (fun _ => ?_)
  show Rn w mJ0_length_8abf5 (d + 1) G _ 10 [(0, vx 1)] [vi 94] h'
  exact r_iret dJ0_length_8abf5_10 rfl ⟨⟨rfl, rfl⟩, rfl, rfl⟩
theorem ev_chk {i : Int} (h0 : 0 ≤ i) (h1 : i < 94) : EvC w d mJ3_checkIndex_8e157 [vi i, vi 94, vx 3] h i := by
  refine Ev.of2 (by decide +kernel) (fun hf => by
    show (lg_sl [_, _, wF w]).length ≤ 3
    rcases hf with hf | ⟨t, hf⟩ <;> rw [hf] <;> exact Nat.le_of_ble_eq_true rfl) rfl (fun _ G _ _ => ?_)
  refine r_iload_n dJ3_checkIndex_8e157_0 rfl rfl ?_
  refine r_zlt (tgt := 9) dJ3_checkIndex_8e157_1 (by decide) (fun c => absurd c (by omega)) (fun _ => ?_)
  refine r_iload_n dJ3_checkIndex_8e157_4 rfl rfl ?_
  refine r_iload_n dJ3_checkIndex_8e157_5 rfl rfl ?_
  refine r_jlt (tgt := 16) dJ3_checkIndex_8e157_6 (by decide) (fun _ => ?_) (fun c => absurd c (by omega))
  refine r_iload_n dJ3_checkIndex_8e157_16 rfl rfl ?_
  exact r_iret dJ3_checkIndex_8e157_17 rfl ⟨⟨rfl, rfl⟩, rfl, rfl⟩
theorem ev_chk2 {i : Int} (h0 : 0 ≤ i) (h1 : i < 94) : Ev w (d + 1) 0 0 mJ0_checkIndex_df160 [vi i, vi 94] h (fun r h' => r = none ∧ h' = h) := by
  refine Ev.of (by decide +kernel) (Nat.le_of_ble_eq_true rfl) rfl (fun _ G _ _ => ?_)
  refine r_iload_n dJ0_checkIndex_df160_0 rfl rfl ?_
  refine r_iload_n dJ0_checkIndex_df160_1 rfl rfl ?_
  refine r_getsF dJ0_checkIndex_df160_2 sw_f ?_
  refine r_callS (args := [vi i, vi 94, vx 3]) (q := mJ3_checkIndex_8e157) dJ0_checkIndex_df160_5 kJ0_1059 rfl rfl (Nat.le_of_ble_eq_true rfl) cap0 (Ev.mono (ev_chk h0 h1) ?_)
  rintro r h' ⟨rfl, rfl⟩
  show Rn w mJ0_checkIndex_df160 (d + 1) G _ 8 [(0, vi i), (1, vi 94)] [vi i] h'
  refine r_pop dJ0_checkIndex_df160_8 rfl ?_
  exact r_ret dJ0_checkIndex_df160_9 rfl ⟨⟨rfl, rfl⟩, rfl, rfl⟩
theorem strB_pos : ∀ b ∈ strB, 0 ≤ b.toInt ∧ b.toInt < 128 ∧ (b &&& 255) = b := by decide +kernel
theorem strB_len : strB.length = 94 := by decide +kernel
theorem strC_eq {i : Int} (h0 : 0 ≤ i) (h1 : i < 94) : (strB.getD i.toNat 0).toInt % 256 = strC i ∧ 0 ≤ strC i ∧ strC i < 128 := by
  have hl : i.toNat < strB.length := by rw [strB_len]; omega
  have hm : strB.getD i.toNat 0 ∈ strB := by
    rw [List.getD_eq_getElem?_getD, List.getElem?_eq_getElem hl]
    exact List.getElem_mem hl
  obtain ⟨e1, e2, e3⟩ := strB_pos _ hm
  unfold strC
  rw [e3]
  omega
theorem ev_lat {i : Int} (h0 : 0 ≤ i) (h1 : i < 94) : EvC w (d + 2) mJ1_charAt_3b067 [vx 2, vi i] h (strC i) := by
  obtain ⟨e1, e2, e3⟩ := strC_eq h0 h1
  refine Ev.of (by decide +kernel) (Nat.le_of_ble_eq_true rfl) rfl (fun _ G _ _ => ?_)
  refine r_iload_n dJ1_charAt_3b067_0 rfl rfl ?_
  refine r_aload_nX dJ1_charAt_3b067_1 rfl rfl (by decide) ?_
  refine r_bytLen dJ1_charAt_3b067_2 ?_
  refine r_callS (args := [vi i, vi 94]) (q := mJ0_checkIndex_df160) dJ1_charAt_3b067_3 kJ1_9 rfl rfl (Nat.le_of_ble_eq_true rfl) cap0 (Ev.mono (ev_chk2 h0 h1) ?_)
  rintro r h' ⟨rfl, rfl⟩
  show Rn w mJ1_charAt_3b067 (d + 2) G _ 6 [(0, vx 2), (1, vi i)] [] h'
  refine r_aload_nX dJ1_charAt_3b067_6 rfl rfl (by decide) ?_
  refine r_iload_n dJ1_charAt_3b067_7 rfl rfl ?_
  refine r_bytAt dJ1_charAt_3b067_8 h0 h1 ?_
  refine r_sipush (x := 255) dJ1_charAt_3b067_9 (by decide +kernel) (by decide) ?_
  refine r_iand (n := 8) dJ1_charAt_3b067_12 (by decide) (by decide) ?_
  show Rn w mJ1_charAt_3b067 (d + 2) G _ 13 [(0, vx 2), (1, vi i)] [vi ((strB.getD i.toNat 0).toInt % 256)] h'
  rw [e1]
  refine r_i2c dJ1_charAt_3b067_13 e2 (by omega) ?_
  exact r_cret dJ1_charAt_3b067_14 rfl e2 (by omega) ⟨⟨rfl, rfl⟩, rfl, rfl⟩
theorem ev_chr {i : Int} (h0 : 0 ≤ i) (h1 : i < 94) : EvC w (d + 3) mJ0_charAt_5068e [vx 1, vi i] h (strC i) := by
  obtain ⟨e1, e2, e3⟩ := strC_eq h0 h1
  refine Ev.of (by decide +kernel) (Nat.le_of_ble_eq_true rfl) rfl (fun _ G _ _ => ?_)
  refine r_aload_nX dJ0_charAt_5068e_0 rfl rfl (by decide) ?_
  refine r_callVS (args := []) (q := mJ0_isLatin1_aae02) dJ0_charAt_5068e_1 kJ0_492 rfl rfl rfl (Nat.le_of_ble_eq_true rfl) (Ev.mono ev_isLatin ?_)
  rintro r h' ⟨rfl, rfl⟩
  show Rn w mJ0_charAt_5068e (d + 3) G _ 4 [(0, vx 1), (1, vi i)] [vi 1] h'
  refine r_zeq (tgt := 16) dJ0_charAt_5068e_4 (by decide) (fun c => absurd c (by decide)) (fun _ => ?_)
  refine r_aload_nX dJ0_charAt_5068e_7 rfl rfl (by decide) ?_
  refine r_strVal dJ0_charAt_5068e_8 sw_v ?_
  refine r_iload_n dJ0_charAt_5068e_11 rfl rfl ?_
  refine r_callS (args := [vx 2, vi i]) (q := mJ1_charAt_3b067) dJ0_charAt_5068e_12 kJ0_495 rfl rfl (Nat.le_of_ble_eq_true rfl) cap0 (Ev.mono (ev_lat h0 h1) ?_)
  rintro r h' ⟨rfl, rfl⟩
  show Rn w mJ0_charAt_5068e (d + 3) G _ 15 [(0, vx 1), (1, vi i)] [vi (strC i)] h'
  exact r_cret dJ0_charAt_5068e_15 rfl e2 (by omega) ⟨⟨rfl, rfl⟩, rfl, rfl⟩
end STREV
section STR2
variable {w : WD} {m : MI} {d : Nat} {G : GM} {Q : Option AV → Hp → Prop} {pc : Nat} {ls : List (Nat × AV)} {st : List AV} {h : Hp}
theorem r_strlen {idx : Nat} (hd : decode m.2.1 pc = .ok (.invokevirtual idx, 3)) (hl : LinkV m.1.cls idx mJ0_length_8abf5 0) (hcat : catS st ≤ 8) (k : Rn w m (d + 4) G Q (pc + 3) ls (vi 94 :: st) h) : Rn w m (d + 4) G Q pc ls (vx 1 :: st) h := by
  refine r_callVS (args := []) (q := mJ0_length_8abf5) hd hl rfl rfl rfl hcat (Ev.mono ev_len ?_)
  rintro r h' ⟨rfl, rfl⟩
  exact k
theorem r_charAt {idx : Nat} {i : Int} (hd : decode m.2.1 pc = .ok (.invokevirtual idx, 3)) (hl : LinkV m.1.cls idx mJ0_charAt_5068e 1) (hcat : catS st ≤ 8) (h0 : 0 ≤ i) (h1 : i < 94) (k : Rn w m (d + 4) G Q (pc + 3) ls (vi (strC i) :: st) h) : Rn w m (d + 4) G Q pc ls (vi i :: vx 1 :: st) h := by
  refine r_callVS (args := [vi i]) (q := mJ0_charAt_5068e) hd hl rfl rfl rfl hcat (Ev.mono (ev_chr h0 h1) ?_)
  rintro r h' ⟨rfl, rfl⟩
  exact k
end STR2
