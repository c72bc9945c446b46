section RULES2
variable {w : WD} {m : MI} {d : Nat} {G : GM} {Q : Option AV → Hp → Prop} {pc : Nat} {ls : List (Nat × AV)} {st : List AV} {h : Hp}
theorem r_jeq {x y off : Int} {tgt : Nat} (hd : decode m.2.1 pc = .ok (.if_icmp .eq off, 3)) (ht : (pc : Int) + off = (tgt : Int)) (kt : x = y → Rn w m d G Q tgt ls st h) (kf : x ≠ y → Rn w m d G Q (pc + 3) ls st h) : Rn w m d G Q pc ls (vi y :: vi x :: st) h := by
  intro C H L locs cells slots hR hL hl hs
  have ox : inI x := okh (oke hs)
  have oy : inI y := okh hs
  exact lv_icmp_eq C.1 C.2.1 hd ht (fun c => kt ((i32_eq ox oy).mp c) C H L locs cells slots hR hL hl (oke (oke hs))) (fun c => kf (fun q => c ((i32_eq ox oy).mpr q)) C H L locs cells slots hR hL hl (oke (oke hs)))
theorem r_jne {x y off : Int} {tgt : Nat} (hd : decode m.2.1 pc = .ok (.if_icmp .ne off, 3)) (ht : (pc : Int) + off = (tgt : Int)) (kt : x ≠ y → Rn w m d G Q tgt ls st h) (kf : x = y → Rn w m d G Q (pc + 3) ls st h) : Rn w m d G Q pc ls (vi y :: vi x :: st) h := by
  intro C H L locs cells slots hR hL hl hs
  have ox : inI x := okh (oke hs)
  have oy : inI y := okh hs
  exact lv_icmp_ne C.1 C.2.1 hd ht (fun c => kt (fun q => c ((i32_eq ox oy).mpr q)) C H L locs cells slots hR hL hl (oke (oke hs))) (fun c => kf ((i32_eq ox oy).mp c) C H L locs cells slots hR hL hl (oke (oke hs)))
theorem r_jlt {x y off : Int} {tgt : Nat} (hd : decode m.2.1 pc = .ok (.if_icmp .lt off, 3)) (ht : (pc : Int) + off = (tgt : Int)) (kt : x < y → Rn w m d G Q tgt ls st h) (kf : y ≤ x → Rn w m d G Q (pc + 3) ls st h) : Rn w m d G Q pc ls (vi y :: vi x :: st) h := by
  intro C H L locs cells slots hR hL hl hs
  have ox : inI x := okh (oke hs)
  have oy : inI y := okh hs
  exact lv_icmp_lt C.1 C.2.1 hd ht (fun c => kt ((i32_lt ox oy).mp c) C H L locs cells slots hR hL hl (oke (oke hs))) (fun c => kf (Int.not_lt.mp (fun q => c ((i32_lt ox oy).mpr q))) C H L locs cells slots hR hL hl (oke (oke hs)))
theorem r_jge {x y off : Int} {tgt : Nat} (hd : decode m.2.1 pc = .ok (.if_icmp .ge off, 3)) (ht : (pc : Int) + off = (tgt : Int)) (kt : y ≤ x → Rn w m d G Q tgt ls st h) (kf : x < y → Rn w m d G Q (pc + 3) ls st h) : Rn w m d G Q pc ls (vi y :: vi x :: st) h := by
  intro C H L locs cells slots hR hL hl hs
  have ox : inI x := okh (oke hs)
  have oy : inI y := okh hs
  exact lv_icmp_ge C.1 C.2.1 hd ht (fun c => kt ((i32_le oy ox).mp c) C H L locs cells slots hR hL hl (oke (oke hs))) (fun c => kf (Int.not_le.mp (fun q => c ((i32_le oy ox).mpr q))) C H L locs cells slots hR hL hl (oke (oke hs)))
theorem r_jgt {x y off : Int} {tgt : Nat} (hd : decode m.2.1 pc = .ok (.if_icmp .gt off, 3)) (ht : (pc : Int) + off = (tgt : Int)) (kt : y < x → Rn w m d G Q tgt ls st h) (kf : x ≤ y → Rn w m d G Q (pc + 3) ls st h) : Rn w m d G Q pc ls (vi y :: vi x :: st) h := by
  intro C H L locs cells slots hR hL hl hs
  have ox : inI x := okh (oke hs)
  have oy : inI y := okh hs
  exact lv_icmp_gt C.1 C.2.1 hd ht (fun c => kt ((i32_lt oy ox).mp c) C H L locs cells slots hR hL hl (oke (oke hs))) (fun c => kf (Int.not_lt.mp (fun q => c ((i32_lt oy ox).mpr q))) C H L locs cells slots hR hL hl (oke (oke hs)))
theorem r_jle {x y off : Int} {tgt : Nat} (hd : decode m.2.1 pc = .ok (.if_icmp .le off, 3)) (ht : (pc : Int) + off = (tgt : Int)) (kt : x ≤ y → Rn w m d G Q tgt ls st h) (kf : y < x → Rn w m d G Q (pc + 3) ls st h) : Rn w m d G Q pc ls (vi y :: vi x :: st) h := by
  intro C H L locs cells slots hR hL hl hs
  have ox : inI x := okh (oke hs)
  have oy : inI y := okh hs
  exact lv_icmp_le C.1 C.2.1 hd ht (fun c => kt ((i32_le ox oy).mp c) C H L locs cells slots hR hL hl (oke (oke hs))) (fun c => kf (Int.not_le.mp (fun q => c ((i32_le ox oy).mpr q))) C H L locs cells slots hR hL hl (oke (oke hs)))
theorem r_zeq {x off : Int} {tgt : Nat} (hd : decode m.2.1 pc = .ok (.ifCond .eq off, 3)) (ht : (pc : Int) + off = (tgt : Int)) (kt : x = 0 → Rn w m d G Q tgt ls st h) (kf : x ≠ 0 → Rn w m d G Q (pc + 3) ls st h) : Rn w m d G Q pc ls (vi x :: st) h := by
  intro C H L locs cells slots hR hL hl hs
  have ox : inI x := okh hs
  have oy : inI 0 := ⟨by decide, by decide⟩
  exact lv_if_eq C.1 C.2.1 hd ht (fun c => kt ((i32_eq ox oy).mp c) C H L locs cells slots hR hL hl (oke hs)) (fun c => kf (fun q => c ((i32_eq ox oy).mpr q)) C H L locs cells slots hR hL hl (oke hs))
theorem r_zne {x off : Int} {tgt : Nat} (hd : decode m.2.1 pc = .ok (.ifCond .ne off, 3)) (ht : (pc : Int) + off = (tgt : Int)) (kt : x ≠ 0 → Rn w m d G Q tgt ls st h) (kf : x = 0 → Rn w m d G Q (pc + 3) ls st h) : Rn w m d G Q pc ls (vi x :: st) h := by
  intro C H L locs cells slots hR hL hl hs
  have ox : inI x := okh hs
  have oy : inI 0 := ⟨by decide, by decide⟩
  exact lv_if_ne C.1 C.2.1 hd ht (fun c => kt (fun q => c ((i32_eq ox oy).mpr q)) C H L locs cells slots hR hL hl (oke hs)) (fun c => kf ((i32_eq ox oy).mp c) C H L locs cells slots hR hL hl (oke hs))
theorem r_zlt {x off : Int} {tgt : Nat} (hd : decode m.2.1 pc = .ok (.ifCond .lt off, 3)) (ht : (pc : Int) + off = (tgt : Int)) (kt : x < 0 → Rn w m d G Q tgt ls st h) (kf : 0 ≤ x → Rn w m d G Q (pc + 3) ls st h) : Rn w m d G Q pc ls (vi x :: st) h := by
  intro C H L locs cells slots hR hL hl hs
  have ox : inI x := okh hs
  have oy : inI 0 := ⟨by decide, by decide⟩
  exact lv_if_lt C.1 C.2.1 hd ht (fun c => kt ((i32_lt ox oy).mp c) C H L locs cells slots hR hL hl (oke hs)) (fun c => kf (Int.not_lt.mp (fun q => c ((i32_lt ox oy).mpr q))) C H L locs cells slots hR hL hl (oke hs))
theorem r_zge {x off : Int} {tgt : Nat} (hd : decode m.2.1 pc = .ok (.ifCond .ge off, 3)) (ht : (pc : Int) + off = (tgt : Int)) (kt : 0 ≤ x → Rn w m d G Q tgt ls st h) (kf : x < 0 → Rn w m d G Q (pc + 3) ls st h) : Rn w m d G Q pc ls (vi x :: st) h := by
  intro C H L locs cells slots hR hL hl hs
  have ox : inI x := okh hs
  have oy : inI 0 := ⟨by decide, by decide⟩
  exact lv_if_ge C.1 C.2.1 hd ht (fun c => kt ((i32_le oy ox).mp c) C H L locs cells slots hR hL hl (oke hs)) (fun c => kf (Int.not_le.mp (fun q => c ((i32_le oy ox).mpr q))) C H L locs cells slots hR hL hl (oke hs))
theorem r_zgt {x off : Int} {tgt : Nat} (hd : decode m.2.1 pc = .ok (.ifCond .gt off, 3)) (ht : (pc : Int) + off = (tgt : Int)) (kt : 0 < x → Rn w m d G Q tgt ls st h) (kf : x ≤ 0 → Rn w m d G Q (pc + 3) ls st h) : Rn w m d G Q pc ls (vi x :: st) h := by
  intro C H L locs cells slots hR hL hl hs
  have ox : inI x := okh hs
  have oy : inI 0 := ⟨by decide, by decide⟩
  exact lv_if_gt C.1 C.2.1 hd ht (fun c => kt ((i32_lt oy ox).mp c) C H L locs cells slots hR hL hl (oke hs)) (fun c => kf (Int.not_lt.mp (fun q => c ((i32_lt oy ox).mpr q))) C H L locs cells slots hR hL hl (oke hs))
theorem r_zle {x off : Int} {tgt : Nat} (hd : decode m.2.1 pc = .ok (.ifCond .le off, 3)) (ht : (pc : Int) + off = (tgt : Int)) (kt : x ≤ 0 → Rn w m d G Q tgt ls st h) (kf : 0 < x → Rn w m d G Q (pc + 3) ls st h) : Rn w m d G Q pc ls (vi x :: st) h := by
  intro C H L locs cells slots hR hL hl hs
  have ox : inI x := okh hs
  have oy : inI 0 := ⟨by decide, by decide⟩
  exact lv_if_le C.1 C.2.1 hd ht (fun c => kt ((i32_le ox oy).mp c) C H L locs cells slots hR hL hl (oke hs)) (fun c => kf (Int.not_le.mp (fun q => c ((i32_le ox oy).mpr q))) C H L locs cells slots hR hL hl (oke hs))
theorem lcmp_enc {x y : Int} (ox : inJ x) (oy : inJ y) : lg_cmp (Int64.ofInt x) (Int64.ofInt y) = Int32.ofInt (if y < x then 1 else if x = y then 0 else -1) := by
  unfold lg_cmp
  by_cases c1 : y < x
  · rw [if_pos ((i64_lt oy ox).mpr c1), if_pos c1]
    rfl
  · rw [if_neg (fun q => c1 ((i64_lt oy ox).mp q)), if_neg c1]
    by_cases c2 : x = y
    · rw [if_pos ((i64_eq ox oy).mpr c2), if_pos c2]
      rfl
    · rw [if_neg (fun q => c2 ((i64_eq ox oy).mp q)), if_neg c2]
      rfl
theorem r_lcmp {x y : Int} (hd : decode m.2.1 pc = .ok (.lcmp, 1)) (k : Rn w m d G Q (pc + 1) ls (vi (if y < x then 1 else if x = y then 0 else -1) :: st) h) : Rn w m d G Q pc ls (vl y :: vl x :: st) h := by
  intro C H L locs cells slots hR hL hl hs
  have ox : inJ x := okh (oke hs)
  have oy : inJ y := okh hs
  have hi : inI (if y < x then 1 else if x = y then 0 else -1) := by
    by_cases c1 : y < x
    · rw [if_pos c1]
      exact ⟨by decide, by decide⟩
    · rw [if_neg c1]
      by_cases c2 : x = y
      · rw [if_pos c2]
        exact ⟨by decide, by decide⟩
      · rw [if_neg c2]
        exact ⟨by decide, by decide⟩
  have k := k C H L locs cells slots hR hL hl (okc hi (oke (oke hs)))
  refine W.lcmp C.1 C.2.1 hd ?_
  rw [lcmp_enc ox oy]
  exact k
theorem r_leq {x y off : Int} {tgt pc1 : Nat} (hd : decode m.2.1 pc = .ok (.lcmp, 1)) (hp : pc + 1 = pc1) (hd1 : decode m.2.1 pc1 = .ok (.ifCond .eq off, 3)) (ht : (pc1 : Int) + off = (tgt : Int)) (kt : x = y → Rn w m d G Q tgt ls st h) (kf : x ≠ y → Rn w m d G Q (pc1 + 3) ls st h) : Rn w m d G Q pc ls (vl y :: vl x :: st) h := by
  subst hp
  refine r_lcmp hd (r_zeq hd1 ht (fun c => kt ?_) (fun c => kf ?_))
  all_goals
    by_cases c1 : y < x
    · rw [if_pos c1] at c
      omega
    · rw [if_neg c1] at c
      by_cases c2 : x = y
      · rw [if_pos c2] at c
        omega
      · rw [if_neg c2] at c
        omega
theorem r_lne {x y off : Int} {tgt pc1 : Nat} (hd : decode m.2.1 pc = .ok (.lcmp, 1)) (hp : pc + 1 = pc1) (hd1 : decode m.2.1 pc1 = .ok (.ifCond .ne off, 3)) (ht : (pc1 : Int) + off = (tgt : Int)) (kt : x ≠ y → Rn w m d G Q tgt ls st h) (kf : x = y → Rn w m d G Q (pc1 + 3) ls st h) : Rn w m d G Q pc ls (vl y :: vl x :: st) h := by
  subst hp
  refine r_lcmp hd (r_zne hd1 ht (fun c => kt ?_) (fun c => kf ?_))
  all_goals
    by_cases c1 : y < x
    · rw [if_pos c1] at c
      omega
    · rw [if_neg c1] at c
      by_cases c2 : x = y
      · rw [if_pos c2] at c
        omega
      · rw [if_neg c2] at c
        omega
theorem r_llt {x y off : Int} {tgt pc1 : Nat} (hd : decode m.2.1 pc = .ok (.lcmp, 1)) (hp : pc + 1 = pc1) (hd1 : decode m.2.1 pc1 = .ok (.ifCond .lt off, 3)) (ht : (pc1 : Int) + off = (tgt : Int)) (kt : x < y → Rn w m d G Q tgt ls st h) (kf : y ≤ x → Rn w m d G Q (pc1 + 3) ls st h) : Rn w m d G Q pc ls (vl y :: vl x :: st) h := by
  subst hp
  refine r_lcmp hd (r_zlt hd1 ht (fun c => kt ?_) (fun c => kf ?_))
  all_goals
    by_cases c1 : y < x
    · rw [if_pos c1] at c
      omega
    · rw [if_neg c1] at c
      by_cases c2 : x = y
      · rw [if_pos c2] at c
        omega
      · rw [if_neg c2] at c
        omega
theorem r_lge {x y off : Int} {tgt pc1 : Nat} (hd : decode m.2.1 pc = .ok (.lcmp, 1)) (hp : pc + 1 = pc1) (hd1 : decode m.2.1 pc1 = .ok (.ifCond .ge off, 3)) (ht : (pc1 : Int) + off = (tgt : Int)) (kt : y ≤ x → Rn w m d G Q tgt ls st h) (kf : x < y → Rn w m d G Q (pc1 + 3) ls st h) : Rn w m d G Q pc ls (vl y :: vl x :: st) h := by
  subst hp
  refine r_lcmp hd (r_zge hd1 ht (fun c => kt ?_) (fun c => kf ?_))
  all_goals
    by_cases c1 : y < x
    · rw [if_pos c1] at c
      omega
    · rw [if_neg c1] at c
      by_cases c2 : x = y
      · rw [if_pos c2] at c
        omega
      · rw [if_neg c2] at c
        omega
theorem r_lgt {x y off : Int} {tgt pc1 : Nat} (hd : decode m.2.1 pc = .ok (.lcmp, 1)) (hp : pc + 1 = pc1) (hd1 : decode m.2.1 pc1 = .ok (.ifCond .gt off, 3)) (ht : (pc1 : Int) + off = (tgt : Int)) (kt : y < x → Rn w m d G Q tgt ls st h) (kf : x ≤ y → Rn w m d G Q (pc1 + 3) ls st h) : Rn w m d G Q pc ls (vl y :: vl x :: st) h := by
  subst hp
  refine r_lcmp hd (r_zgt hd1 ht (fun c => kt ?_) (fun c => kf ?_))
  all_goals
    by_cases c1 : y < x
    · rw [if_pos c1] at c
      omega
    · rw [if_neg c1] at c
      by_cases c2 : x = y
      · rw [if_pos c2] at c
        omega
      · rw [if_neg c2] at c
        omega
theorem r_lle {x y off : Int} {tgt pc1 : Nat} (hd : decode m.2.1 pc = .ok (.lcmp, 1)) (hp : pc + 1 = pc1) (hd1 : decode m.2.1 pc1 = .ok (.ifCond .le off, 3)) (ht : (pc1 : Int) + off = (tgt : Int)) (kt : x ≤ y → Rn w m d G Q tgt ls st h) (kf : y < x → Rn w m d G Q (pc1 + 3) ls st h) : Rn w m d G Q pc ls (vl y :: vl x :: st) h := by
  subst hp
  refine r_lcmp hd (r_zle hd1 ht (fun c => kt ?_) (fun c => kf ?_))
  all_goals
    by_cases c1 : y < x
    · rw [if_pos c1] at c
      omega
    · rw [if_neg c1] at c
      by_cases c2 : x = y
      · rw [if_pos c2] at c
        omega
      · rw [if_neg c2] at c
        omega
theorem r_tableIn {dflt lo hi : Int} {offs : Array Int} {len : Nat} {x k : Int} {off : Int} {tgt : Nat} (hd : decode m.2.1 pc = .ok (.tableswitch dflt lo hi offs, len)) (hx : x = k) (h1 : lo ≤ k) (h2 : k ≤ hi) (ho : offs[(k - lo).toNat]? = some off) (ht : (pc : Int) + off = (tgt : Int)) (kk : Rn w m d G Q tgt ls st h) : Rn w m d G Q pc ls (vi x :: st) h := by
  intro C H L locs cells slots hR hL hl hs
  subst hx
  have ox : inI x := okh hs
  exact lv_tableIn C.1 C.2.1 hd (by rw [i32_int ox]; omega) (by rw [i32_int ox]; omega) (by rw [i32_int ox]; exact ho) ht (kk C H L locs cells slots hR hL hl (oke hs))
theorem r_tableOut {dflt lo hi : Int} {offs : Array Int} {len : Nat} {x : Int} {tgt : Nat} (hd : decode m.2.1 pc = .ok (.tableswitch dflt lo hi offs, len)) (hx : x < lo ∨ hi < x) (ht : (pc : Int) + dflt = (tgt : Int)) (kk : Rn w m d G Q tgt ls st h) : Rn w m d G Q pc ls (vi x :: st) h := by
  intro C H L locs cells slots hR hL hl hs
  have ox : inI x := okh hs
  exact lv_tableOut C.1 C.2.1 hd (by rw [i32_int ox]; exact hx) ht (kk C H L locs cells slots hR hL hl (oke hs))
theorem sh_l : ∀ n : Nat, n < 32 → ((Int32.ofInt (n : Int) &&& 31).toBitVec.smod 32).toNat = n := by decide +kernel
theorem sh_p : ∀ n : Nat, n < 32 → (Int32.ofInt ((2 ^ n : Nat) : Int)).toBitVec = BitVec.twoPow 32 n := by decide +kernel
theorem i32_shl (x : Int) (n : Nat) (hn : n < 32) : Int32.ofInt x <<< (Int32.ofInt (n : Int) &&& 31) = Int32.ofInt (x * ((2 ^ n : Nat) : Int)) := by
  rw [Int32.ofInt_mul]
  apply Int32.toBitVec_inj.mp
  rw [Int32.toBitVec_mul, sh_p n hn]
  show (Int32.ofInt x).toBitVec <<< ((Int32.ofInt (n : Int) &&& 31).toBitVec.smod 32) = _
  rw [BitVec.shiftLeft_eq', sh_l n hn, BitVec.shiftLeft_eq_mul_twoPow]
theorem r_ishl {x y : Int} {n : Nat} (hd : decode m.2.1 pc = .ok (.ishl, 1)) (hy : y = (n : Int)) (hn : n < 32) (ho : inI (x * ((2 ^ n : Nat) : Int))) (k : Rn w m d G Q (pc + 1) ls (vi (x * ((2 ^ n : Nat) : Int)) :: st) h) : Rn w m d G Q pc ls (vi y :: vi x :: st) h := by
  intro C H L locs cells slots hR hL hl hs
  subst hy
  have k := k C H L locs cells slots hR hL hl (okc ho (oke (oke hs)))
  refine lv_ishl C.1 C.2.1 hd ?_
  rw [i32_shl x n hn]
  exact k
theorem i32_shr (x : Int) (ox : inI x) (n : Nat) (hn : n < 32) : Int32.ofInt x >>> (Int32.ofInt (n : Int) &&& 31) = Int32.ofInt (x / ((2 ^ n : Nat) : Int)) := by
  have hp : (0 : Int) < ((2 ^ n : Nat) : Int) := by exact_mod_cast Nat.two_pow_pos n
  have hb : inI (x / ((2 ^ n : Nat) : Int)) := by
    have h1 : (1 : Int) ≤ ((2 ^ n : Nat) : Int) := hp
    constructor
    · have : (-2147483648 : Int) * ((2 ^ n : Nat) : Int) ≤ x := by
        have := Int.mul_le_mul_of_nonpos_left (show (-2147483648 : Int) ≤ 0 by decide) h1
        omega
      exact (Int.le_ediv_iff_mul_le hp).mpr this
    · by_cases c : 0 ≤ x
      · have := Int.ediv_le_self ((2 ^ n : Nat) : Int) c
        omega
      · have : x / ((2 ^ n : Nat) : Int) < 0 := Int.ediv_neg_of_neg_of_pos (by omega) hp
        omega
  rw [← Int32.toInt_inj, i32_int hb]
  show ((Int32.ofInt x).toBitVec.sshiftRight' ((Int32.ofInt (n : Int) &&& 31).toBitVec.smod 32)).toInt = _
  rw [BitVec.toInt_sshiftRight', sh_l n hn, Int.shiftRight_eq_div_pow]
  show (Int32.ofInt x).toInt / _ = _
  rw [i32_int ox]
theorem r_ishr {x y : Int} {n : Nat} (hd : decode m.2.1 pc = .ok (.ishr, 1)) (hy : y = (n : Int)) (hn : n < 32) (k : inI (x / ((2 ^ n : Nat) : Int)) → Rn w m d G Q (pc + 1) ls (vi (x / ((2 ^ n : Nat) : Int)) :: st) h) : Rn w m d G Q pc ls (vi y :: vi x :: st) h := by
  intro C H L locs cells slots hR hL hl hs
  subst hy
  have ox : inI x := okh (oke hs)
  have hb : inI (x / ((2 ^ n : Nat) : Int)) := by
    have hp : (0 : Int) < ((2 ^ n : Nat) : Int) := by exact_mod_cast Nat.two_pow_pos n
    have h1 : (1 : Int) ≤ ((2 ^ n : Nat) : Int) := hp
    constructor
    · have : (-2147483648 : Int) * ((2 ^ n : Nat) : Int) ≤ x := by
        have := Int.mul_le_mul_of_nonpos_left (show (-2147483648 : Int) ≤ 0 by decide) h1
        omega
      exact (Int.le_ediv_iff_mul_le hp).mpr this
    · by_cases c : 0 ≤ x
      · have := Int.ediv_le_self ((2 ^ n : Nat) : Int) c
        omega
      · have : x / ((2 ^ n : Nat) : Int) < 0 := Int.ediv_neg_of_neg_of_pos (by omega) hp
        omega
  have k := k hb C H L locs cells slots hR hL hl (okc hb (oke (oke hs)))
  refine lv_ishr C.1 C.2.1 hd ?_
  rw [i32_shr x ox n hn]
  exact k
theorem i32_mask (x : Int) (n : Nat) (M : Int) (hn : n < 31) (hM : M = ((2 ^ n : Nat) : Int) - 1) : Int32.ofInt x &&& Int32.ofInt M = Int32.ofInt (x % ((2 ^ n : Nat) : Int)) := by
  subst hM
  apply Int32.toBitVec_inj.mp
  rw [Int32.toBitVec_and]
  show BitVec.ofInt 32 x &&& BitVec.ofInt 32 _ = BitVec.ofInt 32 _
  apply BitVec.eq_of_toNat_eq
  rw [BitVec.toNat_and, BitVec.toNat_ofInt, BitVec.toNat_ofInt, BitVec.toNat_ofInt]
  have hp : 0 < 2 ^ n := Nat.two_pow_pos n
  have hlt : 2 ^ n ≤ 2 ^ 31 := Nat.pow_le_pow_right (by decide) (by omega)
  have e1 : ((((2 ^ n : Nat) : Int) - 1) % ((2 ^ 32 : Nat) : Int)).toNat = 2 ^ n - 1 := by
    rw [Int.emod_eq_of_lt (by omega) (by omega)]
    omega
  rw [e1, Nat.and_two_pow_sub_one_eq_mod]
  have hdv : (2 ^ n : Nat) ∣ 2 ^ 32 := Nat.pow_dvd_pow 2 (by omega)
  have hz1 : 0 ≤ x % ((2 ^ 32 : Nat) : Int) := Int.emod_nonneg _ (by decide)
  have hz2 : 0 ≤ x % ((2 ^ n : Nat) : Int) := Int.emod_nonneg _ (by omega)
  have hz3 : x % ((2 ^ n : Nat) : Int) < ((2 ^ n : Nat) : Int) := Int.emod_lt_of_pos _ (by omega)
  have e2 : (x % ((2 ^ 32 : Nat) : Int)) % ((2 ^ n : Nat) : Int) = x % ((2 ^ n : Nat) : Int) := Int.emod_emod_of_dvd x (by exact_mod_cast hdv)
  rw [Int.emod_eq_of_lt hz2 (by omega)]
  have e3 : ((x % ((2 ^ 32 : Nat) : Int)).toNat % 2 ^ n : Nat) = ((x % ((2 ^ 32 : Nat) : Int)) % ((2 ^ n : Nat) : Int)).toNat := by
    apply Int.ofNat.inj
    show (((x % ((2 ^ 32 : Nat) : Int)).toNat % 2 ^ n : Nat) : Int) = (((x % ((2 ^ 32 : Nat) : Int)) % ((2 ^ n : Nat) : Int)).toNat : Int)
    rw [Int.natCast_emod, Int.toNat_of_nonneg hz1, Int.toNat_of_nonneg (by rw [e2]; exact hz2)]
  rw [e3, e2]
theorem r_iand {x y : Int} {n : Nat} (hd : decode m.2.1 pc = .ok (.iand, 1)) (hy : y = ((2 ^ n : Nat) : Int) - 1) (hn : n < 31) (k : Rn w m d G Q (pc + 1) ls (vi (x % ((2 ^ n : Nat) : Int)) :: st) h) : Rn w m d G Q pc ls (vi y :: vi x :: st) h := by
  intro C H L locs cells slots hR hL hl hs
  have hp : 0 < 2 ^ n := Nat.two_pow_pos n
  have hlt : 2 ^ n ≤ 2 ^ 31 := Nat.pow_le_pow_right (by decide) (by omega)
  have hz2 : 0 ≤ x % ((2 ^ n : Nat) : Int) := Int.emod_nonneg _ (by omega)
  have hz3 : x % ((2 ^ n : Nat) : Int) < ((2 ^ n : Nat) : Int) := Int.emod_lt_of_pos _ (by omega)
  have k := k C H L locs cells slots hR hL hl (okc (show inI (x % ((2 ^ n : Nat) : Int)) from ⟨by omega, by omega⟩) (oke (oke hs)))
  refine lv_iand C.1 C.2.1 hd ?_
  rw [i32_mask x n y hn hy]
  exact k
def ior (x y : Int) : Int := (Int32.ofInt x ||| Int32.ofInt y).toInt
theorem ior_in (x y : Int) : inI (ior x y) := by
  have h1 := Int32.toInt_lt (Int32.ofInt x ||| Int32.ofInt y)
  have h2 := Int32.le_toInt (Int32.ofInt x ||| Int32.ofInt y)
  exact ⟨by show _ ≤ (Int32.ofInt x ||| Int32.ofInt y).toInt; omega, by show (Int32.ofInt x ||| Int32.ofInt y).toInt ≤ _; omega⟩
theorem r_ior {x y : Int} (hd : decode m.2.1 pc = .ok (.ior, 1)) (k : Rn w m d G Q (pc + 1) ls (vi (ior x y) :: st) h) : Rn w m d G Q pc ls (vi y :: vi x :: st) h := by
  intro C H L locs cells slots hR hL hl hs
  have k := k C H L locs cells slots hR hL hl (okc (ior_in x y) (oke (oke hs)))
  refine lv_ior C.1 C.2.1 hd ?_
  have e : Int32.ofInt x ||| Int32.ofInt y = Int32.ofInt (ior x y) := (Int32.ofInt_toInt _).symm
  rw [e]
  exact k
theorem sh_ll : ∀ n : Nat, n < 32 → (((Int32.ofInt (n : Int)).toInt64 &&& 63).toBitVec.smod 64).toNat = n := by decide +kernel
theorem sh_pl : ∀ n : Nat, n < 32 → (Int64.ofInt ((2 ^ n : Nat) : Int)).toBitVec = BitVec.twoPow 64 n := by decide +kernel
theorem i64_shl (x : Int) (n : Nat) (hn : n < 32) : Int64.ofInt x <<< ((Int32.ofInt (n : Int)).toInt64 &&& 63) = Int64.ofInt (x * ((2 ^ n : Nat) : Int)) := by
  rw [Int64.ofInt_mul]
  apply Int64.toBitVec_inj.mp
  rw [Int64.toBitVec_mul, sh_pl n hn]
  show (Int64.ofInt x).toBitVec <<< (((Int32.ofInt (n : Int)).toInt64 &&& 63).toBitVec.smod 64) = _
  rw [BitVec.shiftLeft_eq', sh_ll n hn, BitVec.shiftLeft_eq_mul_twoPow]
theorem r_lshl {x y : Int} {n : Nat} (hd : decode m.2.1 pc = .ok (.lshl, 1)) (hy : y = (n : Int)) (hn : n < 32) (ho : inJ (x * ((2 ^ n : Nat) : Int))) (k : Rn w m d G Q (pc + 1) ls (vl (x * ((2 ^ n : Nat) : Int)) :: st) h) : Rn w m d G Q pc ls (vi y :: vl x :: st) h := by
  intro C H L locs cells slots hR hL hl hs
  subst hy
  have k := k C H L locs cells slots hR hL hl (okc ho (oke (oke hs)))
  exact lv_lshl C.1 C.2.1 hd (i64_shl x n hn) k
end RULES2
