section LAWLOOP
variable {w : WD} {m : MI} {d : Nat} {G : GM} {Q : Option AV → Hp → Prop} {pc : Nat} {ls : List (Nat × AV)} {st : List AV} {h : Hp}
/-- the script's number at i -/
def sc (w : WD) (i : Int) : Int := (wX w i.toNat).toInt
theorem scr_X (C : Ctx w m d G Q) : va_X (wB w) (wN w) (wX w) (gs G) (gs G).heap ∧ wB w < (gs G).heap.size ∧ ¬ (w0 w ≤ wB w) := by
  have hX := C.2.2.2.2.2.2.2.2.1.2.2.2.2
  have h1 := C.2.2.2.2.2.2.2.2.2.2.1
  have hb : wB w < (wH w).size := by
    obtain ⟨scr, e, -⟩ := hX
    exact (Array.getElem?_eq_some_iff.mp e).1
  refine ⟨hX.kept (h1.2 _ hb), ?_, Nat.not_le.mpr hb⟩
  rw [h1.1]
  exact Nat.lt_of_lt_of_le hb (Nat.le_add_right _ _)
theorem r_slen (hd : decode m.2.1 pc = .ok (.arraylength, 1)) (hN : wN w ≤ 4096) (k : Rn w m d G Q (pc + 1) ls (vi (wN w : Int) :: st) h) : Rn w m d G Q pc ls (vx 4 :: st) h := by
  intro C H L locs cells slots hR hL hl hs
  obtain ⟨hX, hb, hA⟩ := scr_X C
  have k := k C H L locs cells slots hR hL hl (okc (show okV (vi _) from ⟨by omega, by omega⟩) (oke hs))
  exact va_slen C.1 C.2.1 hX hb hA (str_S C hR) hd k
theorem r_sld {i : Int} (hd : decode m.2.1 pc = .ok (.iaload, 1)) (h0 : 0 ≤ i) (h1 : i < (wN w : Int)) (k : Rn w m d G Q (pc + 1) ls (vi (sc w i) :: st) h) : Rn w m d G Q pc ls (vi i :: vx 4 :: st) h := by
  intro C H L locs cells slots hR hL hl hs
  have oi : inI i := okh hs
  obtain ⟨hX, hb, hA⟩ := scr_X C
  have k := k C H L locs cells slots hR hL hl (okc (show okV (vi _) from ⟨by have := Int32.le_toInt (wX w i.toNat); show _ ≤ (wX w i.toNat).toInt; omega, by have := Int32.toInt_lt (wX w i.toNat); show (wX w i.toNat).toInt ≤ _; omega⟩) (oke (oke hs)))
  refine va_sld C.1 C.2.1 hX hb hA (str_S C hR) (i32_in oi h0 h1) hd ?_
  rw [i32_clamp oi]
  have e : Value.int (wX w i.toNat) = enc w (vi (sc w i)) := by
    show _ = Value.int (Int32.ofInt (wX w i.toNat).toInt)
    rw [Int32.ofInt_toInt]
  rw [e]
  exact k
/-- the script's number c behind the local i -/
theorem r_scr {i c : Int} (d0 : decode m.2.1 pc = .ok (.aload_n 0, 1)) (d1 : decode m.2.1 (pc + 1) = .ok (.iload_n 3, 1)) (d2 : decode m.2.1 (pc + 2) = .ok (.iconst c, 1)) (d3 : decode m.2.1 (pc + 3) = .ok (.iadd, 1)) (d4 : decode m.2.1 (pc + 4) = .ok (.iaload, 1)) (hl : ls = [(0, vx 4), (1, vr 0), (2, vr 145), (3, vi i)]) (hN : wN w ≤ 4096) (h0 : 0 ≤ i + c ∧ 0 ≤ c ∧ c ≤ 100) (h1 : i + c < (wN w : Int)) (kk : Rn w m d G Q (pc + 5) ls (vi (sc w (i + c)) :: st) h) : Rn w m d G Q pc ls st h := by
  subst hl
  refine r_aload_nX d0 rfl rfl (by decide) ?_
  refine r_iload_n d1 rfl rfl ?_
  refine r_iconst (x := c) d2 rfl ⟨by omega, by omega⟩ ?_
  refine r_iadd d3 ⟨by omega, by omega⟩ ?_
  exact r_sld d4 h0.1 h1 kk
theorem r_scrB {i c : Int} (d0 : decode m.2.1 pc = .ok (.aload_n 0, 1)) (d1 : decode m.2.1 (pc + 1) = .ok (.iload_n 3, 1)) (d2 : decode m.2.1 (pc + 2) = .ok (.bipush c, 2)) (d3 : decode m.2.1 (pc + 4) = .ok (.iadd, 1)) (d4 : decode m.2.1 (pc + 5) = .ok (.iaload, 1)) (hl : ls = [(0, vx 4), (1, vr 0), (2, vr 145), (3, vi i)]) (hN : wN w ≤ 4096) (h0 : 0 ≤ i + c ∧ 0 ≤ c ∧ c ≤ 100) (hc : (Int8.ofInt c).toInt32 = Int32.ofInt c) (h1 : i + c < (wN w : Int)) (kk : Rn w m d G Q (pc + 6) ls (vi (sc w (i + c)) :: st) h) : Rn w m d G Q pc ls st h := by
  subst hl
  refine r_aload_nX d0 rfl rfl (by decide) ?_
  refine r_iload_n d1 rfl rfl ?_
  refine r_bipush (x := c) d2 hc ⟨by omega, by omega⟩ ?_
  refine r_iadd d3 ⟨by omega, by omega⟩ ?_
  exact r_sld d4 h0.1 h1 kk
theorem LS2.up {k : Int} {mc mm : MI} {ac am : List AV} {d2 : Nat} {n : NM} (hd : d ≤ d2) (h : LS2 w d k n mc ac mm am) : LS2 w d2 k n mc ac mm am := by
  obtain ⟨x, P, h1, h2⟩ := h
  exact ⟨x, P, Ev.deep hd h1, fun n1 p => Ev.deep hd (h2 n1 p)⟩
theorem Rel.later {k : Int} {n : NM} (h : Rel k n) : Rel (k + 1) n := by
  obtain ⟨a1, a2, a3, a4, a5, a6, a7⟩ := h
  refine ⟨a1, a2, a3, a4, a5, ?_, a7⟩
  obtain ⟨b1, b2, b3, b4, b5, b6, b7, b8, b9, b10, b11⟩ := a6
  exact ⟨b1, b2, b3, b4, b5, b6, b7, ⟨b8.1, by omega⟩, ⟨b9.1, by omega⟩, ⟨b10.1, by omega⟩, b11.1, by omega⟩
theorem law_out (hq : ∀ h : Hp, Q (some (vi 1)) h) : Rn w mL_law d G Q 1531 ls [] h := by
  refine r_iconst (x := 1) dL_law_1531 rfl (by decide) ?_
  exact r_zret dL_law_1532 rfl (Or.inr rfl) (hq h)

theorem lw_c0 {n : NM} {i k : Int} (hN : wN w ≤ 4096) (h0 : 0 ≤ i) (h1 : i + 8 ≤ (wN w : Int)) (S : Rel k n) (hk : k ≤ 900) (kk : ∀ n2, Rel (k + 1) n2 → Rn w mL_law (d + 86) G Q 1525 [(0, vx 4), (1, vr 0), (2, vr 145), (3, vi i)] [] (B0, n2)) : Rn w mL_law (d + 86) G Q 204 [(0, vx 4), (1, vr 0), (2, vr 145), (3, vi i)] [] (B0, n) := by
  refine r_aload_n dL_law_204 rfl rfl ?_
  refine r_scr (c := 1) dL_law_205 dL_law_206 dL_law_207 dL_law_208 dL_law_209 rfl hN (by omega) (by omega) ?_
  refine r_scr (c := 2) dL_law_210 dL_law_211 dL_law_212 dL_law_213 dL_law_214 rfl hN (by omega) (by omega) ?_
  refine r_scr (c := 3) dL_law_215 dL_law_216 dL_law_217 dL_law_218 dL_law_219 rfl hN (by omega) (by omega) ?_
  obtain ⟨x, P, E1, E2⟩ := LStp.two (d2 := d + 85) (by omega) (st_day (w := w) (d := d) S hk (sc w (i + 1)) (sc w (i + 2)) (sc w (i + 3)))
  refine r_callV (mc := 0) (ms := 0) (ci := 11) (nf := 13) (a := 0) (args := [vi (sc w (i + 1)), vi (sc w (i + 2)), vi (sc w (i + 3))]) (st := []) dL_law_220 kL_13 ob_0 ⟨_, _, rfl⟩ (by decide) rfl rfl (Nat.le_of_ble_eq_true rfl) (fun a b => ⟨a, b⟩) ?_
  refine Ev.mono E1 (fun r h' y => ?_)
  obtain ⟨x1, n1, y1, y2, y3, y4⟩ := y
  subst y1 y2 y3
  refine r_aload_n dL_law_223 rfl rfl ?_
  refine r_scr (c := 1) dL_law_224 dL_law_225 dL_law_226 dL_law_227 dL_law_228 rfl hN (by omega) (by omega) ?_
  refine r_scr (c := 2) dL_law_229 dL_law_230 dL_law_231 dL_law_232 dL_law_233 rfl hN (by omega) (by omega) ?_
  refine r_scr (c := 3) dL_law_234 dL_law_235 dL_law_236 dL_law_237 dL_law_238 rfl hN (by omega) (by omega) ?_
  refine r_callV (mc := 0) (ms := 0) (ci := 12) (nf := 39) (a := 145) (args := [vi (sc w (i + 1)), vi (sc w (i + 2)), vi (sc w (i + 3))]) (st := [vi x1]) dL_law_239 kL_17 ob_145 ⟨_, _, rfl⟩ (by decide) rfl rfl (Nat.le_of_ble_eq_true rfl) (fun a b => ⟨a, b⟩) ?_
  refine Ev.mono (E2 n1 y4) (fun r h' y => ?_)
  obtain ⟨x2, n2, y1, y2, y3, y5⟩ := y
  subst y1 y2 y3
  refine r_jeq (tgt := 1525) dL_law_242 rfl (fun _ => ?_) (fun c => absurd rfl c)
  exact kk n2 y5
theorem lw_c1 {n : NM} {i k : Int} (hN : wN w ≤ 4096) (h0 : 0 ≤ i) (h1 : i + 8 ≤ (wN w : Int)) (S : Rel k n) (hk : k ≤ 900) (kk : ∀ n2, Rel (k + 1) n2 → Rn w mL_law (d + 86) G Q 1525 [(0, vx 4), (1, vr 0), (2, vr 145), (3, vi i)] [] (B0, n2)) : Rn w mL_law (d + 86) G Q 247 [(0, vx 4), (1, vr 0), (2, vr 145), (3, vi i)] [] (B0, n) := by
  refine r_aload_n dL_law_247 rfl rfl ?_
  refine r_scr (c := 1) dL_law_248 dL_law_249 dL_law_250 dL_law_251 dL_law_252 rfl hN (by omega) (by omega) ?_
  refine r_scr (c := 2) dL_law_253 dL_law_254 dL_law_255 dL_law_256 dL_law_257 rfl hN (by omega) (by omega) ?_
  refine r_scr (c := 3) dL_law_258 dL_law_259 dL_law_260 dL_law_261 dL_law_262 rfl hN (by omega) (by omega) ?_
  refine r_scr (c := 4) dL_law_263 dL_law_264 dL_law_265 dL_law_266 dL_law_267 rfl hN (by omega) (by omega) ?_
  obtain ⟨x, P, E1, E2⟩ := LStp.two (d2 := d + 85) (by omega) (st_boat (w := w) (d := d) S hk (sc w (i + 1)) (sc w (i + 2)) (sc w (i + 3)) (sc w (i + 4)))
  refine r_callV (mc := 0) (ms := 0) (ci := 11) (nf := 13) (a := 0) (args := [vi (sc w (i + 1)), vi (sc w (i + 2)), vi (sc w (i + 3)), vi (sc w (i + 4))]) (st := []) dL_law_268 kL_18 ob_0 ⟨_, _, rfl⟩ (by decide) rfl rfl (Nat.le_of_ble_eq_true rfl) (fun a b => ⟨a, b⟩) ?_
  refine Ev.mono E1 (fun r h' y => ?_)
  obtain ⟨x1, n1, y1, y2, y3, y4⟩ := y
  subst y1 y2 y3
  refine r_aload_n dL_law_271 rfl rfl ?_
  refine r_scr (c := 1) dL_law_272 dL_law_273 dL_law_274 dL_law_275 dL_law_276 rfl hN (by omega) (by omega) ?_
  refine r_scr (c := 2) dL_law_277 dL_law_278 dL_law_279 dL_law_280 dL_law_281 rfl hN (by omega) (by omega) ?_
  refine r_scr (c := 3) dL_law_282 dL_law_283 dL_law_284 dL_law_285 dL_law_286 rfl hN (by omega) (by omega) ?_
  refine r_scr (c := 4) dL_law_287 dL_law_288 dL_law_289 dL_law_290 dL_law_291 rfl hN (by omega) (by omega) ?_
  refine r_callV (mc := 0) (ms := 0) (ci := 12) (nf := 39) (a := 145) (args := [vi (sc w (i + 1)), vi (sc w (i + 2)), vi (sc w (i + 3)), vi (sc w (i + 4))]) (st := [vi x1]) dL_law_292 kL_22 ob_145 ⟨_, _, rfl⟩ (by decide) rfl rfl (Nat.le_of_ble_eq_true rfl) (fun a b => ⟨a, b⟩) ?_
  refine Ev.mono (E2 n1 y4) (fun r h' y => ?_)
  obtain ⟨x2, n2, y1, y2, y3, y5⟩ := y
  subst y1 y2 y3
  refine r_jeq (tgt := 1525) dL_law_295 rfl (fun _ => ?_) (fun c => absurd rfl c)
  exact kk n2 y5
theorem lw_c2 {n : NM} {i k : Int} (hN : wN w ≤ 4096) (h0 : 0 ≤ i) (h1 : i + 8 ≤ (wN w : Int)) (S : Rel k n) (hk : k ≤ 900) (kk : ∀ n2, Rel (k + 1) n2 → Rn w mL_law (d + 86) G Q 1525 [(0, vx 4), (1, vr 0), (2, vr 145), (3, vi i)] [] (B0, n2)) : Rn w mL_law (d + 86) G Q 300 [(0, vx 4), (1, vr 0), (2, vr 145), (3, vi i)] [] (B0, n) := by
  refine r_aload_n dL_law_300 rfl rfl ?_
  refine r_scr (c := 1) dL_law_301 dL_law_302 dL_law_303 dL_law_304 dL_law_305 rfl hN (by omega) (by omega) ?_
  refine r_scr (c := 2) dL_law_306 dL_law_307 dL_law_308 dL_law_309 dL_law_310 rfl hN (by omega) (by omega) ?_
  refine r_scr (c := 3) dL_law_311 dL_law_312 dL_law_313 dL_law_314 dL_law_315 rfl hN (by omega) (by omega) ?_
  refine r_scr (c := 4) dL_law_316 dL_law_317 dL_law_318 dL_law_319 dL_law_320 rfl hN (by omega) (by omega) ?_
  obtain ⟨x, P, E1, E2⟩ := LStp.two (d2 := d + 85) (by omega) (st_beast (w := w) (d := d) S hk (sc w (i + 1)) (sc w (i + 2)) (sc w (i + 3)) (sc w (i + 4)))
  refine r_callV (mc := 0) (ms := 0) (ci := 11) (nf := 13) (a := 0) (args := [vi (sc w (i + 1)), vi (sc w (i + 2)), vi (sc w (i + 3)), vi (sc w (i + 4))]) (st := []) dL_law_321 kL_23 ob_0 ⟨_, _, rfl⟩ (by decide) rfl rfl (Nat.le_of_ble_eq_true rfl) (fun a b => ⟨a, b⟩) ?_
  refine Ev.mono E1 (fun r h' y => ?_)
  obtain ⟨x1, n1, y1, y2, y3, y4⟩ := y
  subst y1 y2 y3
  refine r_aload_n dL_law_324 rfl rfl ?_
  refine r_scr (c := 1) dL_law_325 dL_law_326 dL_law_327 dL_law_328 dL_law_329 rfl hN (by omega) (by omega) ?_
  refine r_scr (c := 2) dL_law_330 dL_law_331 dL_law_332 dL_law_333 dL_law_334 rfl hN (by omega) (by omega) ?_
  refine r_scr (c := 3) dL_law_335 dL_law_336 dL_law_337 dL_law_338 dL_law_339 rfl hN (by omega) (by omega) ?_
  refine r_scr (c := 4) dL_law_340 dL_law_341 dL_law_342 dL_law_343 dL_law_344 rfl hN (by omega) (by omega) ?_
  refine r_callV (mc := 0) (ms := 0) (ci := 12) (nf := 39) (a := 145) (args := [vi (sc w (i + 1)), vi (sc w (i + 2)), vi (sc w (i + 3)), vi (sc w (i + 4))]) (st := [vi x1]) dL_law_345 kL_26 ob_145 ⟨_, _, rfl⟩ (by decide) rfl rfl (Nat.le_of_ble_eq_true rfl) (fun a b => ⟨a, b⟩) ?_
  refine Ev.mono (E2 n1 y4) (fun r h' y => ?_)
  obtain ⟨x2, n2, y1, y2, y3, y5⟩ := y
  subst y1 y2 y3
  refine r_jeq (tgt := 1525) dL_law_348 rfl (fun _ => ?_) (fun c => absurd rfl c)
  exact kk n2 y5
theorem lw_c3 {n : NM} {i k : Int} (hN : wN w ≤ 4096) (h0 : 0 ≤ i) (h1 : i + 8 ≤ (wN w : Int)) (S : Rel k n) (hk : k ≤ 900) (kk : ∀ n2, Rel (k + 1) n2 → Rn w mL_law (d + 86) G Q 1525 [(0, vx 4), (1, vr 0), (2, vr 145), (3, vi i)] [] (B0, n2)) : Rn w mL_law (d + 86) G Q 353 [(0, vx 4), (1, vr 0), (2, vr 145), (3, vi i)] [] (B0, n) := by
  refine r_aload_n dL_law_353 rfl rfl ?_
  refine r_scr (c := 1) dL_law_354 dL_law_355 dL_law_356 dL_law_357 dL_law_358 rfl hN (by omega) (by omega) ?_
  refine r_scr (c := 2) dL_law_359 dL_law_360 dL_law_361 dL_law_362 dL_law_363 rfl hN (by omega) (by omega) ?_
  obtain ⟨x, P, E1, E2⟩ := LStp.two (d2 := d + 85) (by omega) (st_log (w := w) (d := d) S hk (sc w (i + 1)) (sc w (i + 2)))
  refine r_callV (mc := 0) (ms := 0) (ci := 11) (nf := 13) (a := 0) (args := [vi (sc w (i + 1)), vi (sc w (i + 2))]) (st := []) dL_law_364 kL_27 ob_0 ⟨_, _, rfl⟩ (by decide) rfl rfl (Nat.le_of_ble_eq_true rfl) (fun a b => ⟨a, b⟩) ?_
  refine Ev.mono E1 (fun r h' y => ?_)
  obtain ⟨x1, n1, y1, y2, y3, y4⟩ := y
  subst y1 y2 y3
  refine r_aload_n dL_law_367 rfl rfl ?_
  refine r_scr (c := 1) dL_law_368 dL_law_369 dL_law_370 dL_law_371 dL_law_372 rfl hN (by omega) (by omega) ?_
  refine r_scr (c := 2) dL_law_373 dL_law_374 dL_law_375 dL_law_376 dL_law_377 rfl hN (by omega) (by omega) ?_
  refine r_callV (mc := 0) (ms := 0) (ci := 12) (nf := 39) (a := 145) (args := [vi (sc w (i + 1)), vi (sc w (i + 2))]) (st := [vi x1]) dL_law_378 kL_31 ob_145 ⟨_, _, rfl⟩ (by decide) rfl rfl (Nat.le_of_ble_eq_true rfl) (fun a b => ⟨a, b⟩) ?_
  refine Ev.mono (E2 n1 y4) (fun r h' y => ?_)
  obtain ⟨x2, n2, y1, y2, y3, y5⟩ := y
  subst y1 y2 y3
  refine r_jeq (tgt := 1525) dL_law_381 rfl (fun _ => ?_) (fun c => absurd rfl c)
  exact kk n2 y5
theorem lw_c4 {n : NM} {i k : Int} (hN : wN w ≤ 4096) (h0 : 0 ≤ i) (h1 : i + 8 ≤ (wN w : Int)) (S : Rel k n) (hk : k ≤ 900) (kk : ∀ n2, Rel (k + 1) n2 → Rn w mL_law (d + 86) G Q 1525 [(0, vx 4), (1, vr 0), (2, vr 145), (3, vi i)] [] (B0, n2)) : Rn w mL_law (d + 86) G Q 386 [(0, vx 4), (1, vr 0), (2, vr 145), (3, vi i)] [] (B0, n) := by
  refine r_aload_n dL_law_386 rfl rfl ?_
  refine r_scr (c := 1) dL_law_387 dL_law_388 dL_law_389 dL_law_390 dL_law_391 rfl hN (by omega) (by omega) ?_
  obtain ⟨x, P, E1, E2⟩ := LStp.two (d2 := d + 85) (by omega) (st_watcher (w := w) (d := d) S hk (sc w (i + 1)))
  refine r_callV (mc := 0) (ms := 0) (ci := 11) (nf := 13) (a := 0) (args := [vi (sc w (i + 1))]) (st := []) dL_law_392 kL_32 ob_0 ⟨_, _, rfl⟩ (by decide) rfl rfl (Nat.le_of_ble_eq_true rfl) (fun a b => ⟨a, b⟩) ?_
  refine Ev.mono E1 (fun r h' y => ?_)
  obtain ⟨x1, n1, y1, y2, y3, y4⟩ := y
  subst y1 y2 y3
  refine r_aload_n dL_law_395 rfl rfl ?_
  refine r_scr (c := 1) dL_law_396 dL_law_397 dL_law_398 dL_law_399 dL_law_400 rfl hN (by omega) (by omega) ?_
  refine r_callV (mc := 0) (ms := 0) (ci := 12) (nf := 39) (a := 145) (args := [vi (sc w (i + 1))]) (st := [vi x1]) dL_law_401 kL_36 ob_145 ⟨_, _, rfl⟩ (by decide) rfl rfl (Nat.le_of_ble_eq_true rfl) (fun a b => ⟨a, b⟩) ?_
  refine Ev.mono (E2 n1 y4) (fun r h' y => ?_)
  obtain ⟨x2, n2, y1, y2, y3, y5⟩ := y
  subst y1 y2 y3
  refine r_jeq (tgt := 1525) dL_law_404 rfl (fun _ => ?_) (fun c => absurd rfl c)
  exact kk n2 y5
theorem lw_c5 {n : NM} {i k : Int} (hN : wN w ≤ 4096) (h0 : 0 ≤ i) (h1 : i + 8 ≤ (wN w : Int)) (S : Rel k n) (hk : k ≤ 900) (kk : ∀ n2, Rel (k + 1) n2 → Rn w mL_law (d + 86) G Q 1525 [(0, vx 4), (1, vr 0), (2, vr 145), (3, vi i)] [] (B0, n2)) : Rn w mL_law (d + 86) G Q 409 [(0, vx 4), (1, vr 0), (2, vr 145), (3, vi i)] [] (B0, n) := by
  refine r_aload_n dL_law_409 rfl rfl ?_
  refine r_scr (c := 1) dL_law_410 dL_law_411 dL_law_412 dL_law_413 dL_law_414 rfl hN (by omega) (by omega) ?_
  refine r_scr (c := 2) dL_law_415 dL_law_416 dL_law_417 dL_law_418 dL_law_419 rfl hN (by omega) (by omega) ?_
  refine r_scr (c := 3) dL_law_420 dL_law_421 dL_law_422 dL_law_423 dL_law_424 rfl hN (by omega) (by omega) ?_
  obtain ⟨x, P, E1, E2⟩ := LStp.two (d2 := d + 85) (by omega) (st_pole (w := w) (d := d) S hk (sc w (i + 1)) (sc w (i + 2)) (sc w (i + 3)))
  refine r_callV (mc := 0) (ms := 0) (ci := 11) (nf := 13) (a := 0) (args := [vi (sc w (i + 1)), vi (sc w (i + 2)), vi (sc w (i + 3))]) (st := []) dL_law_425 kL_37 ob_0 ⟨_, _, rfl⟩ (by decide) rfl rfl (Nat.le_of_ble_eq_true rfl) (fun a b => ⟨a, b⟩) ?_
  refine Ev.mono E1 (fun r h' y => ?_)
  obtain ⟨x1, n1, y1, y2, y3, y4⟩ := y
  subst y1 y2 y3
  refine r_aload_n dL_law_428 rfl rfl ?_
  refine r_scr (c := 1) dL_law_429 dL_law_430 dL_law_431 dL_law_432 dL_law_433 rfl hN (by omega) (by omega) ?_
  refine r_scr (c := 2) dL_law_434 dL_law_435 dL_law_436 dL_law_437 dL_law_438 rfl hN (by omega) (by omega) ?_
  refine r_scr (c := 3) dL_law_439 dL_law_440 dL_law_441 dL_law_442 dL_law_443 rfl hN (by omega) (by omega) ?_
  refine r_callV (mc := 0) (ms := 0) (ci := 12) (nf := 39) (a := 145) (args := [vi (sc w (i + 1)), vi (sc w (i + 2)), vi (sc w (i + 3))]) (st := [vi x1]) dL_law_444 kL_40 ob_145 ⟨_, _, rfl⟩ (by decide) rfl rfl (Nat.le_of_ble_eq_true rfl) (fun a b => ⟨a, b⟩) ?_
  refine Ev.mono (E2 n1 y4) (fun r h' y => ?_)
  obtain ⟨x2, n2, y1, y2, y3, y5⟩ := y
  subst y1 y2 y3
  refine r_jeq (tgt := 1525) dL_law_447 rfl (fun _ => ?_) (fun c => absurd rfl c)
  exact kk n2 y5
theorem lw_c6 {n : NM} {i k : Int} (hN : wN w ≤ 4096) (h0 : 0 ≤ i) (h1 : i + 8 ≤ (wN w : Int)) (S : Rel k n) (hk : k ≤ 900) (kk : ∀ n2, Rel (k + 1) n2 → Rn w mL_law (d + 86) G Q 1525 [(0, vx 4), (1, vr 0), (2, vr 145), (3, vi i)] [] (B0, n2)) : Rn w mL_law (d + 86) G Q 452 [(0, vx 4), (1, vr 0), (2, vr 145), (3, vi i)] [] (B0, n) := by
  refine r_aload_n dL_law_452 rfl rfl ?_
  refine r_scr (c := 1) dL_law_453 dL_law_454 dL_law_455 dL_law_456 dL_law_457 rfl hN (by omega) (by omega) ?_
  refine r_scr (c := 2) dL_law_458 dL_law_459 dL_law_460 dL_law_461 dL_law_462 rfl hN (by omega) (by omega) ?_
  refine r_scr (c := 3) dL_law_463 dL_law_464 dL_law_465 dL_law_466 dL_law_467 rfl hN (by omega) (by omega) ?_
  refine r_scr (c := 4) dL_law_468 dL_law_469 dL_law_470 dL_law_471 dL_law_472 rfl hN (by omega) (by omega) ?_
  refine r_scr (c := 5) dL_law_473 dL_law_474 dL_law_475 dL_law_476 dL_law_477 rfl hN (by omega) (by omega) ?_
  refine r_scrB (c := 6) dL_law_478 dL_law_479 dL_law_480 dL_law_482 dL_law_483 rfl hN (by omega) (by decide) (by omega) ?_
  refine r_scrB (c := 7) dL_law_484 dL_law_485 dL_law_486 dL_law_488 dL_law_489 rfl hN (by omega) (by decide) (by omega) ?_
  obtain ⟨x, P, E1, E2⟩ := LStp.two (d2 := d + 85) (by omega) (st_sight (w := w) (d := d) S hk (sc w (i + 1)) (sc w (i + 2)) (sc w (i + 3)) (sc w (i + 4)) (sc w (i + 5)) (sc w (i + 6)) (sc w (i + 7)))
  refine r_callV (mc := 0) (ms := 0) (ci := 11) (nf := 13) (a := 0) (args := [vi (sc w (i + 1)), vi (sc w (i + 2)), vi (sc w (i + 3)), vi (sc w (i + 4)), vi (sc w (i + 5)), vi (sc w (i + 6)), vi (sc w (i + 7))]) (st := []) dL_law_490 kL_41 ob_0 ⟨_, _, rfl⟩ (by decide) rfl rfl (Nat.le_of_ble_eq_true rfl) (fun a b => ⟨a, b⟩) ?_
  refine Ev.mono E1 (fun r h' y => ?_)
  obtain ⟨x1, n1, y1, y2, y3, y4⟩ := y
  subst y1 y2 y3
  refine r_aload_n dL_law_493 rfl rfl ?_
  refine r_scr (c := 1) dL_law_494 dL_law_495 dL_law_496 dL_law_497 dL_law_498 rfl hN (by omega) (by omega) ?_
  refine r_scr (c := 2) dL_law_499 dL_law_500 dL_law_501 dL_law_502 dL_law_503 rfl hN (by omega) (by omega) ?_
  refine r_scr (c := 3) dL_law_504 dL_law_505 dL_law_506 dL_law_507 dL_law_508 rfl hN (by omega) (by omega) ?_
  refine r_scr (c := 4) dL_law_509 dL_law_510 dL_law_511 dL_law_512 dL_law_513 rfl hN (by omega) (by omega) ?_
  refine r_scr (c := 5) dL_law_514 dL_law_515 dL_law_516 dL_law_517 dL_law_518 rfl hN (by omega) (by omega) ?_
  refine r_scrB (c := 6) dL_law_519 dL_law_520 dL_law_521 dL_law_523 dL_law_524 rfl hN (by omega) (by decide) (by omega) ?_
  refine r_scrB (c := 7) dL_law_525 dL_law_526 dL_law_527 dL_law_529 dL_law_530 rfl hN (by omega) (by decide) (by omega) ?_
  refine r_callV (mc := 0) (ms := 0) (ci := 12) (nf := 39) (a := 145) (args := [vi (sc w (i + 1)), vi (sc w (i + 2)), vi (sc w (i + 3)), vi (sc w (i + 4)), vi (sc w (i + 5)), vi (sc w (i + 6)), vi (sc w (i + 7))]) (st := [vi x1]) dL_law_531 kL_45 ob_145 ⟨_, _, rfl⟩ (by decide) rfl rfl (Nat.le_of_ble_eq_true rfl) (fun a b => ⟨a, b⟩) ?_
  refine Ev.mono (E2 n1 y4) (fun r h' y => ?_)
  obtain ⟨x2, n2, y1, y2, y3, y5⟩ := y
  subst y1 y2 y3
  refine r_jeq (tgt := 1525) dL_law_534 rfl (fun _ => ?_) (fun c => absurd rfl c)
  exact kk n2 y5
theorem lw_c7 {n : NM} {i k : Int} (hN : wN w ≤ 4096) (h0 : 0 ≤ i) (h1 : i + 8 ≤ (wN w : Int)) (S : Rel k n) (hk : k ≤ 900) (kk : ∀ n2, Rel (k + 1) n2 → Rn w mL_law (d + 86) G Q 1525 [(0, vx 4), (1, vr 0), (2, vr 145), (3, vi i)] [] (B0, n2)) : Rn w mL_law (d + 86) G Q 539 [(0, vx 4), (1, vr 0), (2, vr 145), (3, vi i)] [] (B0, n) := by
  refine r_aload_n dL_law_539 rfl rfl ?_
  refine r_scr (c := 1) dL_law_540 dL_law_541 dL_law_542 dL_law_543 dL_law_544 rfl hN (by omega) (by omega) ?_
  refine r_scr (c := 2) dL_law_545 dL_law_546 dL_law_547 dL_law_548 dL_law_549 rfl hN (by omega) (by omega) ?_
  refine r_scr (c := 3) dL_law_550 dL_law_551 dL_law_552 dL_law_553 dL_law_554 rfl hN (by omega) (by omega) ?_
  refine r_scr (c := 4) dL_law_555 dL_law_556 dL_law_557 dL_law_558 dL_law_559 rfl hN (by omega) (by omega) ?_
  refine r_scr (c := 5) dL_law_560 dL_law_561 dL_law_562 dL_law_563 dL_law_564 rfl hN (by omega) (by omega) ?_
  obtain ⟨x, P, E1, E2⟩ := LStp.two (d2 := d + 85) (by omega) (st_feed (w := w) (d := d) S (sc w (i + 1)) (sc w (i + 2)) (sc w (i + 3)) (sc w (i + 4)) (sc w (i + 5)))
  refine r_callV (mc := 0) (ms := 0) (ci := 11) (nf := 13) (a := 0) (args := [vi (sc w (i + 1)), vi (sc w (i + 2)), vi (sc w (i + 3)), vi (sc w (i + 4)), vi (sc w (i + 5))]) (st := []) dL_law_565 kL_46 ob_0 ⟨_, _, rfl⟩ (by decide) rfl rfl (Nat.le_of_ble_eq_true rfl) (fun a b => ⟨a, b⟩) ?_
  refine Ev.mono E1 (fun r h' y => ?_)
  obtain ⟨x1, n1, y1, y2, y3, y4⟩ := y
  subst y1 y2 y3
  refine r_aload_n dL_law_568 rfl rfl ?_
  refine r_scr (c := 1) dL_law_569 dL_law_570 dL_law_571 dL_law_572 dL_law_573 rfl hN (by omega) (by omega) ?_
  refine r_scr (c := 2) dL_law_574 dL_law_575 dL_law_576 dL_law_577 dL_law_578 rfl hN (by omega) (by omega) ?_
  refine r_scr (c := 3) dL_law_579 dL_law_580 dL_law_581 dL_law_582 dL_law_583 rfl hN (by omega) (by omega) ?_
  refine r_scr (c := 4) dL_law_584 dL_law_585 dL_law_586 dL_law_587 dL_law_588 rfl hN (by omega) (by omega) ?_
  refine r_scr (c := 5) dL_law_589 dL_law_590 dL_law_591 dL_law_592 dL_law_593 rfl hN (by omega) (by omega) ?_
  refine r_callV (mc := 0) (ms := 0) (ci := 12) (nf := 39) (a := 145) (args := [vi (sc w (i + 1)), vi (sc w (i + 2)), vi (sc w (i + 3)), vi (sc w (i + 4)), vi (sc w (i + 5))]) (st := [vi x1]) dL_law_594 kL_50 ob_145 ⟨_, _, rfl⟩ (by decide) rfl rfl (Nat.le_of_ble_eq_true rfl) (fun a b => ⟨a, b⟩) ?_
  refine Ev.mono (E2 n1 y4) (fun r h' y => ?_)
  obtain ⟨x2, n2, y1, y2, y3, y5⟩ := y
  subst y1 y2 y3
  refine r_jeq (tgt := 1525) dL_law_597 rfl (fun _ => ?_) (fun c => absurd rfl c)
  exact kk n2 y5
theorem lw_c8 {n : NM} {i k : Int} (hN : wN w ≤ 4096) (h0 : 0 ≤ i) (h1 : i + 8 ≤ (wN w : Int)) (S : Rel k n) (hk : k ≤ 900) (kk : ∀ n2, Rel (k + 1) n2 → Rn w mL_law (d + 86) G Q 1525 [(0, vx 4), (1, vr 0), (2, vr 145), (3, vi i)] [] (B0, n2)) : Rn w mL_law (d + 86) G Q 602 [(0, vx 4), (1, vr 0), (2, vr 145), (3, vi i)] [] (B0, n) := by
  refine r_aload_n dL_law_602 rfl rfl ?_
  refine r_scr (c := 1) dL_law_603 dL_law_604 dL_law_605 dL_law_606 dL_law_607 rfl hN (by omega) (by omega) ?_
  obtain ⟨x, P, E1, E2⟩ := LStp.two (d2 := d + 85) (by omega) (st_end (w := w) (d := d) S (sc w (i + 1)))
  refine r_callV (mc := 0) (ms := 0) (ci := 11) (nf := 13) (a := 0) (args := [vi (sc w (i + 1))]) (st := []) dL_law_608 kL_51 ob_0 ⟨_, _, rfl⟩ (by decide) rfl rfl (Nat.le_of_ble_eq_true rfl) (fun a b => ⟨a, b⟩) ?_
  refine Ev.mono E1 (fun r h' y => ?_)
  obtain ⟨x1, n1, y1, y2, y3, y4⟩ := y
  subst y1 y2 y3
  refine r_aload_n dL_law_611 rfl rfl ?_
  refine r_scr (c := 1) dL_law_612 dL_law_613 dL_law_614 dL_law_615 dL_law_616 rfl hN (by omega) (by omega) ?_
  refine r_callV (mc := 0) (ms := 0) (ci := 12) (nf := 39) (a := 145) (args := [vi (sc w (i + 1))]) (st := [vi x1]) dL_law_617 kL_54 ob_145 ⟨_, _, rfl⟩ (by decide) rfl rfl (Nat.le_of_ble_eq_true rfl) (fun a b => ⟨a, b⟩) ?_
  refine Ev.mono (E2 n1 y4) (fun r h' y => ?_)
  obtain ⟨x2, n2, y1, y2, y3, y5⟩ := y
  subst y1 y2 y3
  refine r_jeq (tgt := 1525) dL_law_620 rfl (fun _ => ?_) (fun c => absurd rfl c)
  exact kk n2 y5
theorem lw_c9 {n : NM} {i k : Int} (hN : wN w ≤ 4096) (h0 : 0 ≤ i) (h1 : i + 8 ≤ (wN w : Int)) (S : Rel k n) (hk : k ≤ 900) (kk : ∀ n2, Rel (k + 1) n2 → Rn w mL_law (d + 86) G Q 1525 [(0, vx 4), (1, vr 0), (2, vr 145), (3, vi i)] [] (B0, n2)) : Rn w mL_law (d + 86) G Q 625 [(0, vx 4), (1, vr 0), (2, vr 145), (3, vi i)] [] (B0, n) := by
  refine r_aload_n dL_law_625 rfl rfl ?_
  obtain ⟨x, P, E1, E2⟩ := LStp.two (d2 := d + 85) (by omega) (st_row (w := w) (d := d) S hk)
  refine r_callV (mc := 0) (ms := 0) (ci := 11) (nf := 13) (a := 0) (args := []) (st := []) dL_law_626 kL_55 ob_0 ⟨_, _, rfl⟩ (by decide) rfl rfl (Nat.le_of_ble_eq_true rfl) (fun a b => ⟨a, b⟩) ?_
  refine Ev.mono E1 (fun r h' y => ?_)
  obtain ⟨x1, n1, y1, y2, y3, y4⟩ := y
  subst y1 y2 y3
  refine r_aload_n dL_law_629 rfl rfl ?_
  refine r_callV (mc := 0) (ms := 0) (ci := 12) (nf := 39) (a := 145) (args := []) (st := [vi x1]) dL_law_630 kL_59 ob_145 ⟨_, _, rfl⟩ (by decide) rfl rfl (Nat.le_of_ble_eq_true rfl) (fun a b => ⟨a, b⟩) ?_
  refine Ev.mono (E2 n1 y4) (fun r h' y => ?_)
  obtain ⟨x2, n2, y1, y2, y3, y5⟩ := y
  subst y1 y2 y3
  refine r_jeq (tgt := 1525) dL_law_633 rfl (fun _ => ?_) (fun c => absurd rfl c)
  exact kk n2 y5
theorem lw_c10 {n : NM} {i k : Int} (hN : wN w ≤ 4096) (h0 : 0 ≤ i) (h1 : i + 8 ≤ (wN w : Int)) (S : Rel k n) (hk : k ≤ 900) (kk : ∀ n2, Rel (k + 1) n2 → Rn w mL_law (d + 86) G Q 1525 [(0, vx 4), (1, vr 0), (2, vr 145), (3, vi i)] [] (B0, n2)) : Rn w mL_law (d + 86) G Q 638 [(0, vx 4), (1, vr 0), (2, vr 145), (3, vi i)] [] (B0, n) := by
  refine r_aload_n dL_law_638 rfl rfl ?_
  obtain ⟨x, P, E1, E2⟩ := LStp.two (d2 := d + 85) (by omega) (st_cousins (w := w) (d := d) S)
  refine r_callV (mc := 0) (ms := 0) (ci := 11) (nf := 13) (a := 0) (args := []) (st := []) dL_law_639 kL_60 ob_0 ⟨_, _, rfl⟩ (by decide) rfl rfl (Nat.le_of_ble_eq_true rfl) (fun a b => ⟨a, b⟩) ?_
  refine Ev.mono E1 (fun r h' y => ?_)
  obtain ⟨x1, n1, y1, y2, y3, y4⟩ := y
  subst y1 y2 y3
  refine r_aload_n dL_law_642 rfl rfl ?_
  refine r_callV (mc := 0) (ms := 0) (ci := 12) (nf := 39) (a := 145) (args := []) (st := [vi x1]) dL_law_643 kL_63 ob_145 ⟨_, _, rfl⟩ (by decide) rfl rfl (Nat.le_of_ble_eq_true rfl) (fun a b => ⟨a, b⟩) ?_
  refine Ev.mono (E2 n1 y4) (fun r h' y => ?_)
  obtain ⟨x2, n2, y1, y2, y3, y5⟩ := y
  subst y1 y2 y3
  refine r_jeq (tgt := 1525) dL_law_646 rfl (fun _ => ?_) (fun c => absurd rfl c)
  exact kk n2 y5
theorem lw_c11 {n : NM} {i k : Int} (hN : wN w ≤ 4096) (h0 : 0 ≤ i) (h1 : i + 8 ≤ (wN w : Int)) (S : Rel k n) (hk : k ≤ 900) (kk : ∀ n2, Rel (k + 1) n2 → Rn w mL_law (d + 86) G Q 1525 [(0, vx 4), (1, vr 0), (2, vr 145), (3, vi i)] [] (B0, n2)) : Rn w mL_law (d + 86) G Q 651 [(0, vx 4), (1, vr 0), (2, vr 145), (3, vi i)] [] (B0, n) := by
  refine r_aload_n dL_law_651 rfl rfl ?_
  obtain ⟨x, P, E1, E2⟩ := LS2.up (d2 := d + 85) (by omega) (st_law (w := w) (d := d) S hk)
  refine r_callV (mc := 0) (ms := 0) (ci := 11) (nf := 13) (a := 0) (args := []) (st := []) dL_law_652 kL_64 ob_0 ⟨_, _, rfl⟩ (by decide) rfl rfl (Nat.le_of_ble_eq_true rfl) (fun a b => ⟨a, b⟩) ?_
  refine Ev.mono E1 (fun r h' y => ?_)
  obtain ⟨x1, n1, y1, y2, y3, y4⟩ := y
  subst y1 y2 y3
  refine r_aload_n dL_law_655 rfl rfl ?_
  refine r_callV (mc := 0) (ms := 0) (ci := 12) (nf := 39) (a := 145) (args := []) (st := [vi x1]) dL_law_656 kL_67 ob_145 ⟨_, _, rfl⟩ (by decide) rfl rfl (Nat.le_of_ble_eq_true rfl) (fun a b => ⟨a, b⟩) ?_
  refine Ev.mono (E2 n1 y4) (fun r h' y => ?_)
  obtain ⟨x2, n2, y1, y2, y3, y5⟩ := y
  subst y1 y2 y3
  refine r_jeq (tgt := 1525) dL_law_659 rfl (fun _ => ?_) (fun c => absurd rfl c)
  exact kk n2 y5
theorem lw_c12 {n : NM} {i k : Int} (hN : wN w ≤ 4096) (h0 : 0 ≤ i) (h1 : i + 8 ≤ (wN w : Int)) (S : Rel k n) (hk : k ≤ 900) (kk : ∀ n2, Rel (k + 1) n2 → Rn w mL_law (d + 86) G Q 1525 [(0, vx 4), (1, vr 0), (2, vr 145), (3, vi i)] [] (B0, n2)) : Rn w mL_law (d + 86) G Q 664 [(0, vx 4), (1, vr 0), (2, vr 145), (3, vi i)] [] (B0, n) := by
  refine r_aload_n dL_law_664 rfl rfl ?_
  obtain ⟨x, P, E1, E2⟩ := LStp.two (d2 := d + 85) (by omega) (st_fault (w := w) (d := d) S)
  refine r_callV (mc := 0) (ms := 0) (ci := 11) (nf := 13) (a := 0) (args := []) (st := []) dL_law_665 kL_68 ob_0 ⟨_, _, rfl⟩ (by decide) rfl rfl (Nat.le_of_ble_eq_true rfl) (fun a b => ⟨a, b⟩) ?_
  refine Ev.mono E1 (fun r h' y => ?_)
  obtain ⟨x1, n1, y1, y2, y3, y4⟩ := y
  subst y1 y2 y3
  refine r_aload_n dL_law_668 rfl rfl ?_
  refine r_callV (mc := 0) (ms := 0) (ci := 12) (nf := 39) (a := 145) (args := []) (st := [vi x1]) dL_law_669 kL_71 ob_145 ⟨_, _, rfl⟩ (by decide) rfl rfl (Nat.le_of_ble_eq_true rfl) (fun a b => ⟨a, b⟩) ?_
  refine Ev.mono (E2 n1 y4) (fun r h' y => ?_)
  obtain ⟨x2, n2, y1, y2, y3, y5⟩ := y
  subst y1 y2 y3
  refine r_jeq (tgt := 1525) dL_law_672 rfl (fun _ => ?_) (fun c => absurd rfl c)
  exact kk n2 y5
theorem lw_c13 {n : NM} {i k : Int} (hN : wN w ≤ 4096) (h0 : 0 ≤ i) (h1 : i + 8 ≤ (wN w : Int)) (S : Rel k n) (hk : k ≤ 900) (kk : ∀ n2, Rel (k + 1) n2 → Rn w mL_law (d + 86) G Q 1525 [(0, vx 4), (1, vr 0), (2, vr 145), (3, vi i)] [] (B0, n2)) : Rn w mL_law (d + 86) G Q 677 [(0, vx 4), (1, vr 0), (2, vr 145), (3, vi i)] [] (B0, n) := by
  refine r_aload_n dL_law_677 rfl rfl ?_
  refine r_scr (c := 1) dL_law_678 dL_law_679 dL_law_680 dL_law_681 dL_law_682 rfl hN (by omega) (by omega) ?_
  refine r_scr (c := 2) dL_law_683 dL_law_684 dL_law_685 dL_law_686 dL_law_687 rfl hN (by omega) (by omega) ?_
  obtain ⟨x, P, E1, E2⟩ := LS2.up (d2 := d + 85) (by omega) (st_of (w := w) (d := d) S (sc w (i + 1)) (sc w (i + 2)))
  refine r_callV (mc := 0) (ms := 0) (ci := 11) (nf := 13) (a := 0) (args := [vi (sc w (i + 1)), vi (sc w (i + 2))]) (st := []) dL_law_688 kL_72 ob_0 ⟨_, _, rfl⟩ (by decide) rfl rfl (Nat.le_of_ble_eq_true rfl) (fun a b => ⟨a, b⟩) ?_
  refine Ev.mono E1 (fun r h' y => ?_)
  obtain ⟨x1, n1, y1, y2, y3, y4⟩ := y
  subst y1 y2 y3
  refine r_aload_n dL_law_691 rfl rfl ?_
  refine r_scr (c := 1) dL_law_692 dL_law_693 dL_law_694 dL_law_695 dL_law_696 rfl hN (by omega) (by omega) ?_
  refine r_scr (c := 2) dL_law_697 dL_law_698 dL_law_699 dL_law_700 dL_law_701 rfl hN (by omega) (by omega) ?_
  refine r_callV (mc := 0) (ms := 0) (ci := 12) (nf := 39) (a := 145) (args := [vi (sc w (i + 1)), vi (sc w (i + 2))]) (st := [vi x1]) dL_law_702 kL_75 ob_145 ⟨_, _, rfl⟩ (by decide) rfl rfl (Nat.le_of_ble_eq_true rfl) (fun a b => ⟨a, b⟩) ?_
  refine Ev.mono (E2 n1 y4) (fun r h' y => ?_)
  obtain ⟨x2, n2, y1, y2, y3, y5⟩ := y
  subst y1 y2 y3
  refine r_jeq (tgt := 1525) dL_law_705 rfl (fun _ => ?_) (fun c => absurd rfl c)
  exact kk n2 y5
theorem lw_c14 {n : NM} {i k : Int} (hN : wN w ≤ 4096) (h0 : 0 ≤ i) (h1 : i + 8 ≤ (wN w : Int)) (S : Rel k n) (hk : k ≤ 900) (kk : ∀ n2, Rel (k + 1) n2 → Rn w mL_law (d + 86) G Q 1525 [(0, vx 4), (1, vr 0), (2, vr 145), (3, vi i)] [] (B0, n2)) : Rn w mL_law (d + 86) G Q 710 [(0, vx 4), (1, vr 0), (2, vr 145), (3, vi i)] [] (B0, n) := by
  refine r_aload_n dL_law_710 rfl rfl ?_
  refine r_scr (c := 1) dL_law_711 dL_law_712 dL_law_713 dL_law_714 dL_law_715 rfl hN (by omega) (by omega) ?_
  obtain ⟨x, P, E1, E2⟩ := LStp.two (d2 := d + 85) (by omega) (st_there (w := w) (d := d) S (sc w (i + 1)))
  refine r_callV (mc := 0) (ms := 0) (ci := 11) (nf := 13) (a := 0) (args := [vi (sc w (i + 1))]) (st := []) dL_law_716 kL_76 ob_0 ⟨_, _, rfl⟩ (by decide) rfl rfl (Nat.le_of_ble_eq_true rfl) (fun a b => ⟨a, b⟩) ?_
  refine Ev.mono E1 (fun r h' y => ?_)
  obtain ⟨x1, n1, y1, y2, y3, y4⟩ := y
  subst y1 y2 y3
  refine r_aload_n dL_law_719 rfl rfl ?_
  refine r_scr (c := 1) dL_law_720 dL_law_721 dL_law_722 dL_law_723 dL_law_724 rfl hN (by omega) (by omega) ?_
  refine r_callV (mc := 0) (ms := 0) (ci := 12) (nf := 39) (a := 145) (args := [vi (sc w (i + 1))]) (st := [vi x1]) dL_law_725 kL_79 ob_145 ⟨_, _, rfl⟩ (by decide) rfl rfl (Nat.le_of_ble_eq_true rfl) (fun a b => ⟨a, b⟩) ?_
  refine Ev.mono (E2 n1 y4) (fun r h' y => ?_)
  obtain ⟨x2, n2, y1, y2, y3, y5⟩ := y
  subst y1 y2 y3
  refine r_jeq (tgt := 1525) dL_law_728 rfl (fun _ => ?_) (fun c => absurd rfl c)
  exact kk n2 y5
theorem lw_c15 {n : NM} {i k : Int} (hN : wN w ≤ 4096) (h0 : 0 ≤ i) (h1 : i + 8 ≤ (wN w : Int)) (S : Rel k n) (hk : k ≤ 900) (kk : ∀ n2, Rel (k + 1) n2 → Rn w mL_law (d + 86) G Q 1525 [(0, vx 4), (1, vr 0), (2, vr 145), (3, vi i)] [] (B0, n2)) : Rn w mL_law (d + 86) G Q 733 [(0, vx 4), (1, vr 0), (2, vr 145), (3, vi i)] [] (B0, n) := by
  refine r_aload_n dL_law_733 rfl rfl ?_
  refine r_scr (c := 1) dL_law_734 dL_law_735 dL_law_736 dL_law_737 dL_law_738 rfl hN (by omega) (by omega) ?_
  refine r_scr (c := 2) dL_law_739 dL_law_740 dL_law_741 dL_law_742 dL_law_743 rfl hN (by omega) (by omega) ?_
  refine r_scr (c := 3) dL_law_744 dL_law_745 dL_law_746 dL_law_747 dL_law_748 rfl hN (by omega) (by omega) ?_
  obtain ⟨x, P, E1, E2⟩ := LS2.up (d2 := d + 85) (by omega) (st_odds (w := w) (d := d) S (sc w (i + 1)) (sc w (i + 2)) (sc w (i + 3)))
  refine r_callV (mc := 0) (ms := 0) (ci := 11) (nf := 13) (a := 0) (args := [vi (sc w (i + 1)), vi (sc w (i + 2)), vi (sc w (i + 3))]) (st := []) dL_law_749 kL_80 ob_0 ⟨_, _, rfl⟩ (by decide) rfl rfl (Nat.le_of_ble_eq_true rfl) (fun a b => ⟨a, b⟩) ?_
  refine Ev.mono E1 (fun r h' y => ?_)
  obtain ⟨x1, n1, y1, y2, y3, y4⟩ := y
  subst y1 y2 y3
  refine r_aload_n dL_law_752 rfl rfl ?_
  refine r_scr (c := 1) dL_law_753 dL_law_754 dL_law_755 dL_law_756 dL_law_757 rfl hN (by omega) (by omega) ?_
  refine r_scr (c := 2) dL_law_758 dL_law_759 dL_law_760 dL_law_761 dL_law_762 rfl hN (by omega) (by omega) ?_
  refine r_scr (c := 3) dL_law_763 dL_law_764 dL_law_765 dL_law_766 dL_law_767 rfl hN (by omega) (by omega) ?_
  refine r_callV (mc := 0) (ms := 0) (ci := 12) (nf := 39) (a := 145) (args := [vi (sc w (i + 1)), vi (sc w (i + 2)), vi (sc w (i + 3))]) (st := [vi x1]) dL_law_768 kL_83 ob_145 ⟨_, _, rfl⟩ (by decide) rfl rfl (Nat.le_of_ble_eq_true rfl) (fun a b => ⟨a, b⟩) ?_
  refine Ev.mono (E2 n1 y4) (fun r h' y => ?_)
  obtain ⟨x2, n2, y1, y2, y3, y5⟩ := y
  subst y1 y2 y3
  refine r_jeq (tgt := 1525) dL_law_771 rfl (fun _ => ?_) (fun c => absurd rfl c)
  exact kk n2 y5
theorem lw_c16 {n : NM} {i k : Int} (hN : wN w ≤ 4096) (h0 : 0 ≤ i) (h1 : i + 8 ≤ (wN w : Int)) (S : Rel k n) (hk : k ≤ 900) (kk : ∀ n2, Rel (k + 1) n2 → Rn w mL_law (d + 86) G Q 1525 [(0, vx 4), (1, vr 0), (2, vr 145), (3, vi i)] [] (B0, n2)) : Rn w mL_law (d + 86) G Q 776 [(0, vx 4), (1, vr 0), (2, vr 145), (3, vi i)] [] (B0, n) := by
  refine r_aload_n dL_law_776 rfl rfl ?_
  refine r_scr (c := 1) dL_law_777 dL_law_778 dL_law_779 dL_law_780 dL_law_781 rfl hN (by omega) (by omega) ?_
  refine r_scr (c := 2) dL_law_782 dL_law_783 dL_law_784 dL_law_785 dL_law_786 rfl hN (by omega) (by omega) ?_
  obtain ⟨x, P, E1, E2⟩ := LS2.up (d2 := d + 85) (by omega) (st_unknown (w := w) (d := d) S (sc w (i + 1)) (sc w (i + 2)))
  refine r_callV (mc := 0) (ms := 0) (ci := 11) (nf := 13) (a := 0) (args := [vi (sc w (i + 1)), vi (sc w (i + 2))]) (st := []) dL_law_787 kL_84 ob_0 ⟨_, _, rfl⟩ (by decide) rfl rfl (Nat.le_of_ble_eq_true rfl) (fun a b => ⟨a, b⟩) ?_
  refine Ev.mono E1 (fun r h' y => ?_)
  obtain ⟨x1, n1, y1, y2, y3, y4⟩ := y
  subst y1 y2 y3
  refine r_aload_n dL_law_790 rfl rfl ?_
  refine r_scr (c := 1) dL_law_791 dL_law_792 dL_law_793 dL_law_794 dL_law_795 rfl hN (by omega) (by omega) ?_
  refine r_scr (c := 2) dL_law_796 dL_law_797 dL_law_798 dL_law_799 dL_law_800 rfl hN (by omega) (by omega) ?_
  refine r_callV (mc := 0) (ms := 0) (ci := 12) (nf := 39) (a := 145) (args := [vi (sc w (i + 1)), vi (sc w (i + 2))]) (st := [vi x1]) dL_law_801 kL_87 ob_145 ⟨_, _, rfl⟩ (by decide) rfl rfl (Nat.le_of_ble_eq_true rfl) (fun a b => ⟨a, b⟩) ?_
  refine Ev.mono (E2 n1 y4) (fun r h' y => ?_)
  obtain ⟨x2, n2, y1, y2, y3, y5⟩ := y
  subst y1 y2 y3
  refine r_jeq (tgt := 1525) dL_law_804 rfl (fun _ => ?_) (fun c => absurd rfl c)
  exact kk n2 y5
theorem lw_c17 {n : NM} {i k : Int} (hN : wN w ≤ 4096) (h0 : 0 ≤ i) (h1 : i + 8 ≤ (wN w : Int)) (S : Rel k n) (hk : k ≤ 900) (kk : ∀ n2, Rel (k + 1) n2 → Rn w mL_law (d + 86) G Q 1525 [(0, vx 4), (1, vr 0), (2, vr 145), (3, vi i)] [] (B0, n2)) : Rn w mL_law (d + 86) G Q 809 [(0, vx 4), (1, vr 0), (2, vr 145), (3, vi i)] [] (B0, n) := by
  refine r_aload_n dL_law_809 rfl rfl ?_
  refine r_scr (c := 1) dL_law_810 dL_law_811 dL_law_812 dL_law_813 dL_law_814 rfl hN (by omega) (by omega) ?_
  refine r_scr (c := 2) dL_law_815 dL_law_816 dL_law_817 dL_law_818 dL_law_819 rfl hN (by omega) (by omega) ?_
  obtain ⟨x, P, E1, E2⟩ := LS2.up (d2 := d + 85) (by omega) (st_span (w := w) (d := d) S (sc w (i + 1)) (sc w (i + 2)))
  refine r_callV (mc := 0) (ms := 0) (ci := 11) (nf := 13) (a := 0) (args := [vi (sc w (i + 1)), vi (sc w (i + 2))]) (st := []) dL_law_820 kL_88 ob_0 ⟨_, _, rfl⟩ (by decide) rfl rfl (Nat.le_of_ble_eq_true rfl) (fun a b => ⟨a, b⟩) ?_
  refine Ev.mono E1 (fun r h' y => ?_)
  obtain ⟨x1, n1, y1, y2, y3, y4⟩ := y
  subst y1 y2 y3
  refine r_aload_n dL_law_823 rfl rfl ?_
  refine r_scr (c := 1) dL_law_824 dL_law_825 dL_law_826 dL_law_827 dL_law_828 rfl hN (by omega) (by omega) ?_
  refine r_scr (c := 2) dL_law_829 dL_law_830 dL_law_831 dL_law_832 dL_law_833 rfl hN (by omega) (by omega) ?_
  refine r_callV (mc := 0) (ms := 0) (ci := 12) (nf := 39) (a := 145) (args := [vi (sc w (i + 1)), vi (sc w (i + 2))]) (st := [vi x1]) dL_law_834 kL_91 ob_145 ⟨_, _, rfl⟩ (by decide) rfl rfl (Nat.le_of_ble_eq_true rfl) (fun a b => ⟨a, b⟩) ?_
  refine Ev.mono (E2 n1 y4) (fun r h' y => ?_)
  obtain ⟨x2, n2, y1, y2, y3, y5⟩ := y
  subst y1 y2 y3
  refine r_jeq (tgt := 1525) dL_law_837 rfl (fun _ => ?_) (fun c => absurd rfl c)
  exact kk n2 y5
theorem lw_c18 {n : NM} {i k : Int} (hN : wN w ≤ 4096) (h0 : 0 ≤ i) (h1 : i + 8 ≤ (wN w : Int)) (S : Rel k n) (hk : k ≤ 900) (kk : ∀ n2, Rel (k + 1) n2 → Rn w mL_law (d + 86) G Q 1525 [(0, vx 4), (1, vr 0), (2, vr 145), (3, vi i)] [] (B0, n2)) : Rn w mL_law (d + 86) G Q 842 [(0, vx 4), (1, vr 0), (2, vr 145), (3, vi i)] [] (B0, n) := by
  refine r_aload_n dL_law_842 rfl rfl ?_
  refine r_scr (c := 1) dL_law_843 dL_law_844 dL_law_845 dL_law_846 dL_law_847 rfl hN (by omega) (by omega) ?_
  obtain ⟨x, P, E1, E2⟩ := LS2.up (d2 := d + 85) (by omega) (st_most (w := w) (d := d) S (sc w (i + 1)))
  refine r_callV (mc := 0) (ms := 0) (ci := 11) (nf := 13) (a := 0) (args := [vi (sc w (i + 1))]) (st := []) dL_law_848 kL_92 ob_0 ⟨_, _, rfl⟩ (by decide) rfl rfl (Nat.le_of_ble_eq_true rfl) (fun a b => ⟨a, b⟩) ?_
  refine Ev.mono E1 (fun r h' y => ?_)
  obtain ⟨x1, n1, y1, y2, y3, y4⟩ := y
  subst y1 y2 y3
  refine r_aload_n dL_law_851 rfl rfl ?_
  refine r_scr (c := 1) dL_law_852 dL_law_853 dL_law_854 dL_law_855 dL_law_856 rfl hN (by omega) (by omega) ?_
  refine r_callV (mc := 0) (ms := 0) (ci := 12) (nf := 39) (a := 145) (args := [vi (sc w (i + 1))]) (st := [vi x1]) dL_law_857 kL_95 ob_145 ⟨_, _, rfl⟩ (by decide) rfl rfl (Nat.le_of_ble_eq_true rfl) (fun a b => ⟨a, b⟩) ?_
  refine Ev.mono (E2 n1 y4) (fun r h' y => ?_)
  obtain ⟨x2, n2, y1, y2, y3, y5⟩ := y
  subst y1 y2 y3
  refine r_jeq (tgt := 1525) dL_law_860 rfl (fun _ => ?_) (fun c => absurd rfl c)
  exact kk n2 y5
theorem lw_c19 {n : NM} {i k : Int} (hN : wN w ≤ 4096) (h0 : 0 ≤ i) (h1 : i + 8 ≤ (wN w : Int)) (S : Rel k n) (hk : k ≤ 900) (kk : ∀ n2, Rel (k + 1) n2 → Rn w mL_law (d + 86) G Q 1525 [(0, vx 4), (1, vr 0), (2, vr 145), (3, vi i)] [] (B0, n2)) : Rn w mL_law (d + 86) G Q 865 [(0, vx 4), (1, vr 0), (2, vr 145), (3, vi i)] [] (B0, n) := by
  refine r_aload_n dL_law_865 rfl rfl ?_
  refine r_scr (c := 1) dL_law_866 dL_law_867 dL_law_868 dL_law_869 dL_law_870 rfl hN (by omega) (by omega) ?_
  refine r_scr (c := 2) dL_law_871 dL_law_872 dL_law_873 dL_law_874 dL_law_875 rfl hN (by omega) (by omega) ?_
  refine r_scr (c := 3) dL_law_876 dL_law_877 dL_law_878 dL_law_879 dL_law_880 rfl hN (by omega) (by omega) ?_
  obtain ⟨x, P, E1, E2⟩ := LStp.two (d2 := d + 85) (by omega) (st_story (w := w) (d := d) S hk (sc w (i + 1)) (sc w (i + 2)) (sc w (i + 3)))
  refine r_callV (mc := 0) (ms := 0) (ci := 11) (nf := 13) (a := 0) (args := [vi (sc w (i + 1)), vi (sc w (i + 2)), vi (sc w (i + 3))]) (st := []) dL_law_881 kL_96 ob_0 ⟨_, _, rfl⟩ (by decide) rfl rfl (Nat.le_of_ble_eq_true rfl) (fun a b => ⟨a, b⟩) ?_
  refine Ev.mono E1 (fun r h' y => ?_)
  obtain ⟨x1, n1, y1, y2, y3, y4⟩ := y
  subst y1 y2 y3
  refine r_aload_n dL_law_884 rfl rfl ?_
  refine r_scr (c := 1) dL_law_885 dL_law_886 dL_law_887 dL_law_888 dL_law_889 rfl hN (by omega) (by omega) ?_
  refine r_scr (c := 2) dL_law_890 dL_law_891 dL_law_892 dL_law_893 dL_law_894 rfl hN (by omega) (by omega) ?_
  refine r_scr (c := 3) dL_law_895 dL_law_896 dL_law_897 dL_law_898 dL_law_899 rfl hN (by omega) (by omega) ?_
  refine r_callV (mc := 0) (ms := 0) (ci := 12) (nf := 39) (a := 145) (args := [vi (sc w (i + 1)), vi (sc w (i + 2)), vi (sc w (i + 3))]) (st := [vi x1]) dL_law_900 kL_99 ob_145 ⟨_, _, rfl⟩ (by decide) rfl rfl (Nat.le_of_ble_eq_true rfl) (fun a b => ⟨a, b⟩) ?_
  refine Ev.mono (E2 n1 y4) (fun r h' y => ?_)
  obtain ⟨x2, n2, y1, y2, y3, y5⟩ := y
  subst y1 y2 y3
  refine r_jeq (tgt := 1525) dL_law_903 rfl (fun _ => ?_) (fun c => absurd rfl c)
  exact kk n2 y5
theorem lw_c20 {n : NM} {i k : Int} (hN : wN w ≤ 4096) (h0 : 0 ≤ i) (h1 : i + 8 ≤ (wN w : Int)) (S : Rel k n) (hk : k ≤ 900) (kk : ∀ n2, Rel (k + 1) n2 → Rn w mL_law (d + 86) G Q 1525 [(0, vx 4), (1, vr 0), (2, vr 145), (3, vi i)] [] (B0, n2)) : Rn w mL_law (d + 86) G Q 908 [(0, vx 4), (1, vr 0), (2, vr 145), (3, vi i)] [] (B0, n) := by
  refine r_aload_n dL_law_908 rfl rfl ?_
  refine r_scr (c := 1) dL_law_909 dL_law_910 dL_law_911 dL_law_912 dL_law_913 rfl hN (by omega) (by omega) ?_
  refine r_scr (c := 2) dL_law_914 dL_law_915 dL_law_916 dL_law_917 dL_law_918 rfl hN (by omega) (by omega) ?_
  refine r_scr (c := 3) dL_law_919 dL_law_920 dL_law_921 dL_law_922 dL_law_923 rfl hN (by omega) (by omega) ?_
  refine r_scr (c := 4) dL_law_924 dL_law_925 dL_law_926 dL_law_927 dL_law_928 rfl hN (by omega) (by omega) ?_
  obtain ⟨x, P, E1, E2⟩ := LStp.two (d2 := d + 85) (by omega) (st_sweep (w := w) (d := d) S hk (sc w (i + 1)) (sc w (i + 2)) (sc w (i + 3)) (sc w (i + 4)))
  refine r_callV (mc := 0) (ms := 0) (ci := 11) (nf := 13) (a := 0) (args := [vi (sc w (i + 1)), vi (sc w (i + 2)), vi (sc w (i + 3)), vi (sc w (i + 4))]) (st := []) dL_law_929 kL_100 ob_0 ⟨_, _, rfl⟩ (by decide) rfl rfl (Nat.le_of_ble_eq_true rfl) (fun a b => ⟨a, b⟩) ?_
  refine Ev.mono E1 (fun r h' y => ?_)
  obtain ⟨x1, n1, y1, y2, y3, y4⟩ := y
  subst y1 y2 y3
  refine r_aload_n dL_law_932 rfl rfl ?_
  refine r_scr (c := 1) dL_law_933 dL_law_934 dL_law_935 dL_law_936 dL_law_937 rfl hN (by omega) (by omega) ?_
  refine r_scr (c := 2) dL_law_938 dL_law_939 dL_law_940 dL_law_941 dL_law_942 rfl hN (by omega) (by omega) ?_
  refine r_scr (c := 3) dL_law_943 dL_law_944 dL_law_945 dL_law_946 dL_law_947 rfl hN (by omega) (by omega) ?_
  refine r_scr (c := 4) dL_law_948 dL_law_949 dL_law_950 dL_law_951 dL_law_952 rfl hN (by omega) (by omega) ?_
  refine r_callV (mc := 0) (ms := 0) (ci := 12) (nf := 39) (a := 145) (args := [vi (sc w (i + 1)), vi (sc w (i + 2)), vi (sc w (i + 3)), vi (sc w (i + 4))]) (st := [vi x1]) dL_law_953 kL_103 ob_145 ⟨_, _, rfl⟩ (by decide) rfl rfl (Nat.le_of_ble_eq_true rfl) (fun a b => ⟨a, b⟩) ?_
  refine Ev.mono (E2 n1 y4) (fun r h' y => ?_)
  obtain ⟨x2, n2, y1, y2, y3, y5⟩ := y
  subst y1 y2 y3
  refine r_jeq (tgt := 1525) dL_law_956 rfl (fun _ => ?_) (fun c => absurd rfl c)
  exact kk n2 y5
theorem lw_c21 {n : NM} {i k : Int} (hN : wN w ≤ 4096) (h0 : 0 ≤ i) (h1 : i + 8 ≤ (wN w : Int)) (S : Rel k n) (hk : k ≤ 900) (kk : ∀ n2, Rel (k + 1) n2 → Rn w mL_law (d + 86) G Q 1525 [(0, vx 4), (1, vr 0), (2, vr 145), (3, vi i)] [] (B0, n2)) : Rn w mL_law (d + 86) G Q 961 [(0, vx 4), (1, vr 0), (2, vr 145), (3, vi i)] [] (B0, n) := by
  refine r_aload_n dL_law_961 rfl rfl ?_
  refine r_scr (c := 1) dL_law_962 dL_law_963 dL_law_964 dL_law_965 dL_law_966 rfl hN (by omega) (by omega) ?_
  obtain ⟨x, P, E1, E2⟩ := LS2.up (d2 := d + 85) (by omega) (st_likely (w := w) (d := d) S (sc w (i + 1)))
  refine r_callV (mc := 0) (ms := 0) (ci := 11) (nf := 13) (a := 0) (args := [vi (sc w (i + 1))]) (st := []) dL_law_967 kL_104 ob_0 ⟨_, _, rfl⟩ (by decide) rfl rfl (Nat.le_of_ble_eq_true rfl) (fun a b => ⟨a, b⟩) ?_
  refine Ev.mono E1 (fun r h' y => ?_)
  obtain ⟨x1, n1, y1, y2, y3, y4⟩ := y
  subst y1 y2 y3
  refine r_aload_n dL_law_970 rfl rfl ?_
  refine r_scr (c := 1) dL_law_971 dL_law_972 dL_law_973 dL_law_974 dL_law_975 rfl hN (by omega) (by omega) ?_
  refine r_callV (mc := 0) (ms := 0) (ci := 12) (nf := 39) (a := 145) (args := [vi (sc w (i + 1))]) (st := [vi x1]) dL_law_976 kL_107 ob_145 ⟨_, _, rfl⟩ (by decide) rfl rfl (Nat.le_of_ble_eq_true rfl) (fun a b => ⟨a, b⟩) ?_
  refine Ev.mono (E2 n1 y4) (fun r h' y => ?_)
  obtain ⟨x2, n2, y1, y2, y3, y5⟩ := y
  subst y1 y2 y3
  refine r_jeq (tgt := 1525) dL_law_979 rfl (fun _ => ?_) (fun c => absurd rfl c)
  exact kk n2 y5
theorem lw_c22 {n : NM} {i k : Int} (hN : wN w ≤ 4096) (h0 : 0 ≤ i) (h1 : i + 8 ≤ (wN w : Int)) (S : Rel k n) (hk : k ≤ 900) (kk : ∀ n2, Rel (k + 1) n2 → Rn w mL_law (d + 86) G Q 1525 [(0, vx 4), (1, vr 0), (2, vr 145), (3, vi i)] [] (B0, n2)) : Rn w mL_law (d + 86) G Q 984 [(0, vx 4), (1, vr 0), (2, vr 145), (3, vi i)] [] (B0, n) := by
  refine r_aload_n dL_law_984 rfl rfl ?_
  refine r_scr (c := 1) dL_law_985 dL_law_986 dL_law_987 dL_law_988 dL_law_989 rfl hN (by omega) (by omega) ?_
  refine r_scr (c := 2) dL_law_990 dL_law_991 dL_law_992 dL_law_993 dL_law_994 rfl hN (by omega) (by omega) ?_
  obtain ⟨x, P, E1, E2⟩ := LS2.up (d2 := d + 85) (by omega) (st_moved (w := w) (d := d) S (sc w (i + 1)) (sc w (i + 2)))
  refine r_callV (mc := 0) (ms := 0) (ci := 11) (nf := 13) (a := 0) (args := [vi (sc w (i + 1)), vi (sc w (i + 2))]) (st := []) dL_law_995 kL_108 ob_0 ⟨_, _, rfl⟩ (by decide) rfl rfl (Nat.le_of_ble_eq_true rfl) (fun a b => ⟨a, b⟩) ?_
  refine Ev.mono E1 (fun r h' y => ?_)
  obtain ⟨x1, n1, y1, y2, y3, y4⟩ := y
  subst y1 y2 y3
  refine r_aload_n dL_law_998 rfl rfl ?_
  refine r_scr (c := 1) dL_law_999 dL_law_1000 dL_law_1001 dL_law_1002 dL_law_1003 rfl hN (by omega) (by omega) ?_
  refine r_scr (c := 2) dL_law_1004 dL_law_1005 dL_law_1006 dL_law_1007 dL_law_1008 rfl hN (by omega) (by omega) ?_
  refine r_callV (mc := 0) (ms := 0) (ci := 12) (nf := 39) (a := 145) (args := [vi (sc w (i + 1)), vi (sc w (i + 2))]) (st := [vi x1]) dL_law_1009 kL_111 ob_145 ⟨_, _, rfl⟩ (by decide) rfl rfl (Nat.le_of_ble_eq_true rfl) (fun a b => ⟨a, b⟩) ?_
  refine Ev.mono (E2 n1 y4) (fun r h' y => ?_)
  obtain ⟨x2, n2, y1, y2, y3, y5⟩ := y
  subst y1 y2 y3
  refine r_jeq (tgt := 1525) dL_law_1012 rfl (fun _ => ?_) (fun c => absurd rfl c)
  exact kk n2 y5
theorem lw_c23 {n : NM} {i k : Int} (hN : wN w ≤ 4096) (h0 : 0 ≤ i) (h1 : i + 8 ≤ (wN w : Int)) (S : Rel k n) (hk : k ≤ 900) (kk : ∀ n2, Rel (k + 1) n2 → Rn w mL_law (d + 86) G Q 1525 [(0, vx 4), (1, vr 0), (2, vr 145), (3, vi i)] [] (B0, n2)) : Rn w mL_law (d + 86) G Q 1017 [(0, vx 4), (1, vr 0), (2, vr 145), (3, vi i)] [] (B0, n) := by
  refine r_aload_n dL_law_1017 rfl rfl ?_
  refine r_scr (c := 1) dL_law_1018 dL_law_1019 dL_law_1020 dL_law_1021 dL_law_1022 rfl hN (by omega) (by omega) ?_
  refine r_scr (c := 2) dL_law_1023 dL_law_1024 dL_law_1025 dL_law_1026 dL_law_1027 rfl hN (by omega) (by omega) ?_
  obtain ⟨x, P, E1, E2⟩ := LStp.two (d2 := d + 85) (by omega) (st_kin (w := w) (d := d) S hk (sc w (i + 1)) (sc w (i + 2)))
  refine r_callV (mc := 0) (ms := 0) (ci := 11) (nf := 13) (a := 0) (args := [vi (sc w (i + 1)), vi (sc w (i + 2))]) (st := []) dL_law_1028 kL_112 ob_0 ⟨_, _, rfl⟩ (by decide) rfl rfl (Nat.le_of_ble_eq_true rfl) (fun a b => ⟨a, b⟩) ?_
  refine Ev.mono E1 (fun r h' y => ?_)
  obtain ⟨x1, n1, y1, y2, y3, y4⟩ := y
  subst y1 y2 y3
  refine r_aload_n dL_law_1031 rfl rfl ?_
  refine r_scr (c := 1) dL_law_1032 dL_law_1033 dL_law_1034 dL_law_1035 dL_law_1036 rfl hN (by omega) (by omega) ?_
  refine r_scr (c := 2) dL_law_1037 dL_law_1038 dL_law_1039 dL_law_1040 dL_law_1041 rfl hN (by omega) (by omega) ?_
  refine r_callV (mc := 0) (ms := 0) (ci := 12) (nf := 39) (a := 145) (args := [vi (sc w (i + 1)), vi (sc w (i + 2))]) (st := [vi x1]) dL_law_1042 kL_115 ob_145 ⟨_, _, rfl⟩ (by decide) rfl rfl (Nat.le_of_ble_eq_true rfl) (fun a b => ⟨a, b⟩) ?_
  refine Ev.mono (E2 n1 y4) (fun r h' y => ?_)
  obtain ⟨x2, n2, y1, y2, y3, y5⟩ := y
  subst y1 y2 y3
  refine r_jeq (tgt := 1525) dL_law_1045 rfl (fun _ => ?_) (fun c => absurd rfl c)
  exact kk n2 y5
theorem lw_c24 {n : NM} {i k : Int} (hN : wN w ≤ 4096) (h0 : 0 ≤ i) (h1 : i + 8 ≤ (wN w : Int)) (S : Rel k n) (hk : k ≤ 900) (kk : ∀ n2, Rel (k + 1) n2 → Rn w mL_law (d + 86) G Q 1525 [(0, vx 4), (1, vr 0), (2, vr 145), (3, vi i)] [] (B0, n2)) : Rn w mL_law (d + 86) G Q 1050 [(0, vx 4), (1, vr 0), (2, vr 145), (3, vi i)] [] (B0, n) := by
  refine r_aload_n dL_law_1050 rfl rfl ?_
  refine r_scr (c := 1) dL_law_1051 dL_law_1052 dL_law_1053 dL_law_1054 dL_law_1055 rfl hN (by omega) (by omega) ?_
  obtain ⟨x, P, E1, E2⟩ := LStp.two (d2 := d + 85) (by omega) (st_lot (w := w) (d := d) S (sc w (i + 1)))
  refine r_callV (mc := 0) (ms := 0) (ci := 11) (nf := 13) (a := 0) (args := [vi (sc w (i + 1))]) (st := []) dL_law_1056 kL_116 ob_0 ⟨_, _, rfl⟩ (by decide) rfl rfl (Nat.le_of_ble_eq_true rfl) (fun a b => ⟨a, b⟩) ?_
  refine Ev.mono E1 (fun r h' y => ?_)
  obtain ⟨x1, n1, y1, y2, y3, y4⟩ := y
  subst y1 y2 y3
  refine r_aload_n dL_law_1059 rfl rfl ?_
  refine r_scr (c := 1) dL_law_1060 dL_law_1061 dL_law_1062 dL_law_1063 dL_law_1064 rfl hN (by omega) (by omega) ?_
  refine r_callV (mc := 0) (ms := 0) (ci := 12) (nf := 39) (a := 145) (args := [vi (sc w (i + 1))]) (st := [vi x1]) dL_law_1065 kL_119 ob_145 ⟨_, _, rfl⟩ (by decide) rfl rfl (Nat.le_of_ble_eq_true rfl) (fun a b => ⟨a, b⟩) ?_
  refine Ev.mono (E2 n1 y4) (fun r h' y => ?_)
  obtain ⟨x2, n2, y1, y2, y3, y5⟩ := y
  subst y1 y2 y3
  refine r_jeq (tgt := 1525) dL_law_1068 rfl (fun _ => ?_) (fun c => absurd rfl c)
  exact kk n2 y5
theorem lw_c25 {n : NM} {i k : Int} (hN : wN w ≤ 4096) (h0 : 0 ≤ i) (h1 : i + 8 ≤ (wN w : Int)) (S : Rel k n) (hk : k ≤ 900) (kk : ∀ n2, Rel (k + 1) n2 → Rn w mL_law (d + 86) G Q 1525 [(0, vx 4), (1, vr 0), (2, vr 145), (3, vi i)] [] (B0, n2)) : Rn w mL_law (d + 86) G Q 1073 [(0, vx 4), (1, vr 0), (2, vr 145), (3, vi i)] [] (B0, n) := by
  refine r_aload_n dL_law_1073 rfl rfl ?_
  refine r_scr (c := 1) dL_law_1074 dL_law_1075 dL_law_1076 dL_law_1077 dL_law_1078 rfl hN (by omega) (by omega) ?_
  refine r_scr (c := 2) dL_law_1079 dL_law_1080 dL_law_1081 dL_law_1082 dL_law_1083 rfl hN (by omega) (by omega) ?_
  refine r_scr (c := 3) dL_law_1084 dL_law_1085 dL_law_1086 dL_law_1087 dL_law_1088 rfl hN (by omega) (by omega) ?_
  refine r_scr (c := 4) dL_law_1089 dL_law_1090 dL_law_1091 dL_law_1092 dL_law_1093 rfl hN (by omega) (by omega) ?_
  obtain ⟨x, P, E1, E2⟩ := LStp.two (d2 := d + 85) (by omega) (st_offer (w := w) (d := d) S hk (sc w (i + 1)) (sc w (i + 2)) (sc w (i + 3)) (sc w (i + 4)))
  refine r_callV (mc := 0) (ms := 0) (ci := 11) (nf := 13) (a := 0) (args := [vi (sc w (i + 1)), vi (sc w (i + 2)), vi (sc w (i + 3)), vi (sc w (i + 4))]) (st := []) dL_law_1094 kL_120 ob_0 ⟨_, _, rfl⟩ (by decide) rfl rfl (Nat.le_of_ble_eq_true rfl) (fun a b => ⟨a, b⟩) ?_
  refine Ev.mono E1 (fun r h' y => ?_)
  obtain ⟨x1, n1, y1, y2, y3, y4⟩ := y
  subst y1 y2 y3
  refine r_aload_n dL_law_1097 rfl rfl ?_
  refine r_scr (c := 1) dL_law_1098 dL_law_1099 dL_law_1100 dL_law_1101 dL_law_1102 rfl hN (by omega) (by omega) ?_
  refine r_scr (c := 2) dL_law_1103 dL_law_1104 dL_law_1105 dL_law_1106 dL_law_1107 rfl hN (by omega) (by omega) ?_
  refine r_scr (c := 3) dL_law_1108 dL_law_1109 dL_law_1110 dL_law_1111 dL_law_1112 rfl hN (by omega) (by omega) ?_
  refine r_scr (c := 4) dL_law_1113 dL_law_1114 dL_law_1115 dL_law_1116 dL_law_1117 rfl hN (by omega) (by omega) ?_
  refine r_callV (mc := 0) (ms := 0) (ci := 12) (nf := 39) (a := 145) (args := [vi (sc w (i + 1)), vi (sc w (i + 2)), vi (sc w (i + 3)), vi (sc w (i + 4))]) (st := [vi x1]) dL_law_1118 kL_123 ob_145 ⟨_, _, rfl⟩ (by decide) rfl rfl (Nat.le_of_ble_eq_true rfl) (fun a b => ⟨a, b⟩) ?_
  refine Ev.mono (E2 n1 y4) (fun r h' y => ?_)
  obtain ⟨x2, n2, y1, y2, y3, y5⟩ := y
  subst y1 y2 y3
  refine r_jeq (tgt := 1525) dL_law_1121 rfl (fun _ => ?_) (fun c => absurd rfl c)
  exact kk n2 y5
theorem lw_c26 {n : NM} {i k : Int} (hN : wN w ≤ 4096) (h0 : 0 ≤ i) (h1 : i + 8 ≤ (wN w : Int)) (S : Rel k n) (hk : k ≤ 900) (kk : ∀ n2, Rel (k + 1) n2 → Rn w mL_law (d + 86) G Q 1525 [(0, vx 4), (1, vr 0), (2, vr 145), (3, vi i)] [] (B0, n2)) : Rn w mL_law (d + 86) G Q 1126 [(0, vx 4), (1, vr 0), (2, vr 145), (3, vi i)] [] (B0, n) := by
  refine r_aload_n dL_law_1126 rfl rfl ?_
  refine r_scr (c := 1) dL_law_1127 dL_law_1128 dL_law_1129 dL_law_1130 dL_law_1131 rfl hN (by omega) (by omega) ?_
  obtain ⟨x, P, E1, E2⟩ := LS2.up (d2 := d + 85) (by omega) (st_says (w := w) (d := d) S (sc w (i + 1)))
  refine r_callV (mc := 0) (ms := 0) (ci := 11) (nf := 13) (a := 0) (args := [vi (sc w (i + 1))]) (st := []) dL_law_1132 kL_124 ob_0 ⟨_, _, rfl⟩ (by decide) rfl rfl (Nat.le_of_ble_eq_true rfl) (fun a b => ⟨a, b⟩) ?_
  refine Ev.mono E1 (fun r h' y => ?_)
  obtain ⟨x1, n1, y1, y2, y3, y4⟩ := y
  subst y1 y2 y3
  refine r_aload_n dL_law_1135 rfl rfl ?_
  refine r_scr (c := 1) dL_law_1136 dL_law_1137 dL_law_1138 dL_law_1139 dL_law_1140 rfl hN (by omega) (by omega) ?_
  refine r_callV (mc := 0) (ms := 0) (ci := 12) (nf := 39) (a := 145) (args := [vi (sc w (i + 1))]) (st := [vi x1]) dL_law_1141 kL_127 ob_145 ⟨_, _, rfl⟩ (by decide) rfl rfl (Nat.le_of_ble_eq_true rfl) (fun a b => ⟨a, b⟩) ?_
  refine Ev.mono (E2 n1 y4) (fun r h' y => ?_)
  obtain ⟨x2, n2, y1, y2, y3, y5⟩ := y
  subst y1 y2 y3
  refine r_jeq (tgt := 1525) dL_law_1144 rfl (fun _ => ?_) (fun c => absurd rfl c)
  exact kk n2 y5
theorem lw_c27 {n : NM} {i k : Int} (hN : wN w ≤ 4096) (h0 : 0 ≤ i) (h1 : i + 8 ≤ (wN w : Int)) (S : Rel k n) (hk : k ≤ 900) (kk : ∀ n2, Rel (k + 1) n2 → Rn w mL_law (d + 86) G Q 1525 [(0, vx 4), (1, vr 0), (2, vr 145), (3, vi i)] [] (B0, n2)) : Rn w mL_law (d + 86) G Q 1149 [(0, vx 4), (1, vr 0), (2, vr 145), (3, vi i)] [] (B0, n) := by
  refine r_aload_n dL_law_1149 rfl rfl ?_
  refine r_scr (c := 1) dL_law_1150 dL_law_1151 dL_law_1152 dL_law_1153 dL_law_1154 rfl hN (by omega) (by omega) ?_
  obtain ⟨x, P, E1, E2⟩ := LS2.up (d2 := d + 85) (by omega) (st_plan (w := w) (d := d) S (sc w (i + 1)))
  refine r_callV (mc := 0) (ms := 0) (ci := 11) (nf := 13) (a := 0) (args := [vi (sc w (i + 1))]) (st := []) dL_law_1155 kL_128 ob_0 ⟨_, _, rfl⟩ (by decide) rfl rfl (Nat.le_of_ble_eq_true rfl) (fun a b => ⟨a, b⟩) ?_
  refine Ev.mono E1 (fun r h' y => ?_)
  obtain ⟨x1, n1, y1, y2, y3, y4⟩ := y
  subst y1 y2 y3
  refine r_aload_n dL_law_1158 rfl rfl ?_
  refine r_scr (c := 1) dL_law_1159 dL_law_1160 dL_law_1161 dL_law_1162 dL_law_1163 rfl hN (by omega) (by omega) ?_
  refine r_callV (mc := 0) (ms := 0) (ci := 12) (nf := 39) (a := 145) (args := [vi (sc w (i + 1))]) (st := [vi x1]) dL_law_1164 kL_131 ob_145 ⟨_, _, rfl⟩ (by decide) rfl rfl (Nat.le_of_ble_eq_true rfl) (fun a b => ⟨a, b⟩) ?_
  refine Ev.mono (E2 n1 y4) (fun r h' y => ?_)
  obtain ⟨x2, n2, y1, y2, y3, y5⟩ := y
  subst y1 y2 y3
  refine r_jeq (tgt := 1525) dL_law_1167 rfl (fun _ => ?_) (fun c => absurd rfl c)
  exact kk n2 y5
theorem lw_c28 {n : NM} {i k : Int} (hN : wN w ≤ 4096) (h0 : 0 ≤ i) (h1 : i + 8 ≤ (wN w : Int)) (S : Rel k n) (hk : k ≤ 900) (kk : ∀ n2, Rel (k + 1) n2 → Rn w mL_law (d + 86) G Q 1525 [(0, vx 4), (1, vr 0), (2, vr 145), (3, vi i)] [] (B0, n2)) : Rn w mL_law (d + 86) G Q 1172 [(0, vx 4), (1, vr 0), (2, vr 145), (3, vi i)] [] (B0, n) := by
  refine r_aload_n dL_law_1172 rfl rfl ?_
  refine r_scr (c := 1) dL_law_1173 dL_law_1174 dL_law_1175 dL_law_1176 dL_law_1177 rfl hN (by omega) (by omega) ?_
  refine r_scr (c := 2) dL_law_1178 dL_law_1179 dL_law_1180 dL_law_1181 dL_law_1182 rfl hN (by omega) (by omega) ?_
  refine r_scr (c := 3) dL_law_1183 dL_law_1184 dL_law_1185 dL_law_1186 dL_law_1187 rfl hN (by omega) (by omega) ?_
  obtain ⟨x, P, E1, E2⟩ := LStp.two (d2 := d + 85) (by omega) (st_year (w := w) (d := d) S hk (sc w (i + 1)) (sc w (i + 2)) (sc w (i + 3)))
  refine r_callV (mc := 0) (ms := 0) (ci := 11) (nf := 13) (a := 0) (args := [vi (sc w (i + 1)), vi (sc w (i + 2)), vi (sc w (i + 3))]) (st := []) dL_law_1188 kL_132 ob_0 ⟨_, _, rfl⟩ (by decide) rfl rfl (Nat.le_of_ble_eq_true rfl) (fun a b => ⟨a, b⟩) ?_
  refine Ev.mono E1 (fun r h' y => ?_)
  obtain ⟨x1, n1, y1, y2, y3, y4⟩ := y
  subst y1 y2 y3
  refine r_aload_n dL_law_1191 rfl rfl ?_
  refine r_scr (c := 1) dL_law_1192 dL_law_1193 dL_law_1194 dL_law_1195 dL_law_1196 rfl hN (by omega) (by omega) ?_
  refine r_scr (c := 2) dL_law_1197 dL_law_1198 dL_law_1199 dL_law_1200 dL_law_1201 rfl hN (by omega) (by omega) ?_
  refine r_scr (c := 3) dL_law_1202 dL_law_1203 dL_law_1204 dL_law_1205 dL_law_1206 rfl hN (by omega) (by omega) ?_
  refine r_callV (mc := 0) (ms := 0) (ci := 12) (nf := 39) (a := 145) (args := [vi (sc w (i + 1)), vi (sc w (i + 2)), vi (sc w (i + 3))]) (st := [vi x1]) dL_law_1207 kL_135 ob_145 ⟨_, _, rfl⟩ (by decide) rfl rfl (Nat.le_of_ble_eq_true rfl) (fun a b => ⟨a, b⟩) ?_
  refine Ev.mono (E2 n1 y4) (fun r h' y => ?_)
  obtain ⟨x2, n2, y1, y2, y3, y5⟩ := y
  subst y1 y2 y3
  refine r_jeq (tgt := 1525) dL_law_1210 rfl (fun _ => ?_) (fun c => absurd rfl c)
  exact kk n2 y5
theorem lw_c29 {n : NM} {i k : Int} (hN : wN w ≤ 4096) (h0 : 0 ≤ i) (h1 : i + 8 ≤ (wN w : Int)) (S : Rel k n) (hk : k ≤ 900) (kk : ∀ n2, Rel (k + 1) n2 → Rn w mL_law (d + 86) G Q 1525 [(0, vx 4), (1, vr 0), (2, vr 145), (3, vi i)] [] (B0, n2)) : Rn w mL_law (d + 86) G Q 1215 [(0, vx 4), (1, vr 0), (2, vr 145), (3, vi i)] [] (B0, n) := by
  refine r_aload_n dL_law_1215 rfl rfl ?_
  refine r_scr (c := 1) dL_law_1216 dL_law_1217 dL_law_1218 dL_law_1219 dL_law_1220 rfl hN (by omega) (by omega) ?_
  refine r_scr (c := 2) dL_law_1221 dL_law_1222 dL_law_1223 dL_law_1224 dL_law_1225 rfl hN (by omega) (by omega) ?_
  refine r_scr (c := 3) dL_law_1226 dL_law_1227 dL_law_1228 dL_law_1229 dL_law_1230 rfl hN (by omega) (by omega) ?_
  obtain ⟨x, P, E1, E2⟩ := LStp.two (d2 := d + 85) (by omega) (st_more (w := w) (d := d) S (sc w (i + 1)) (sc w (i + 2)) (sc w (i + 3)))
  refine r_callV (mc := 0) (ms := 0) (ci := 11) (nf := 13) (a := 0) (args := [vi (sc w (i + 1)), vi (sc w (i + 2)), vi (sc w (i + 3))]) (st := []) dL_law_1231 kL_136 ob_0 ⟨_, _, rfl⟩ (by decide) rfl rfl (Nat.le_of_ble_eq_true rfl) (fun a b => ⟨a, b⟩) ?_
  refine Ev.mono E1 (fun r h' y => ?_)
  obtain ⟨x1, n1, y1, y2, y3, y4⟩ := y
  subst y1 y2 y3
  refine r_aload_n dL_law_1234 rfl rfl ?_
  refine r_scr (c := 1) dL_law_1235 dL_law_1236 dL_law_1237 dL_law_1238 dL_law_1239 rfl hN (by omega) (by omega) ?_
  refine r_scr (c := 2) dL_law_1240 dL_law_1241 dL_law_1242 dL_law_1243 dL_law_1244 rfl hN (by omega) (by omega) ?_
  refine r_scr (c := 3) dL_law_1245 dL_law_1246 dL_law_1247 dL_law_1248 dL_law_1249 rfl hN (by omega) (by omega) ?_
  refine r_callV (mc := 0) (ms := 0) (ci := 12) (nf := 39) (a := 145) (args := [vi (sc w (i + 1)), vi (sc w (i + 2)), vi (sc w (i + 3))]) (st := [vi x1]) dL_law_1250 kL_139 ob_145 ⟨_, _, rfl⟩ (by decide) rfl rfl (Nat.le_of_ble_eq_true rfl) (fun a b => ⟨a, b⟩) ?_
  refine Ev.mono (E2 n1 y4) (fun r h' y => ?_)
  obtain ⟨x2, n2, y1, y2, y3, y5⟩ := y
  subst y1 y2 y3
  refine r_jeq (tgt := 1525) dL_law_1253 rfl (fun _ => ?_) (fun c => absurd rfl c)
  exact kk n2 y5
theorem lw_c30 {n : NM} {i k : Int} (hN : wN w ≤ 4096) (h0 : 0 ≤ i) (h1 : i + 8 ≤ (wN w : Int)) (S : Rel k n) (hk : k ≤ 900) (kk : ∀ n2, Rel (k + 1) n2 → Rn w mL_law (d + 86) G Q 1525 [(0, vx 4), (1, vr 0), (2, vr 145), (3, vi i)] [] (B0, n2)) : Rn w mL_law (d + 86) G Q 1258 [(0, vx 4), (1, vr 0), (2, vr 145), (3, vi i)] [] (B0, n) := by
  refine r_aload_n dL_law_1258 rfl rfl ?_
  refine r_scr (c := 1) dL_law_1259 dL_law_1260 dL_law_1261 dL_law_1262 dL_law_1263 rfl hN (by omega) (by omega) ?_
  obtain ⟨x, P, E1, E2⟩ := LStp.two (d2 := d + 85) (by omega) (st_grew (w := w) (d := d) S (sc w (i + 1)))
  refine r_callV (mc := 0) (ms := 0) (ci := 11) (nf := 13) (a := 0) (args := [vi (sc w (i + 1))]) (st := []) dL_law_1264 kL_140 ob_0 ⟨_, _, rfl⟩ (by decide) rfl rfl (Nat.le_of_ble_eq_true rfl) (fun a b => ⟨a, b⟩) ?_
  refine Ev.mono E1 (fun r h' y => ?_)
  obtain ⟨x1, n1, y1, y2, y3, y4⟩ := y
  subst y1 y2 y3
  refine r_aload_n dL_law_1267 rfl rfl ?_
  refine r_scr (c := 1) dL_law_1268 dL_law_1269 dL_law_1270 dL_law_1271 dL_law_1272 rfl hN (by omega) (by omega) ?_
  refine r_callV (mc := 0) (ms := 0) (ci := 12) (nf := 39) (a := 145) (args := [vi (sc w (i + 1))]) (st := [vi x1]) dL_law_1273 kL_143 ob_145 ⟨_, _, rfl⟩ (by decide) rfl rfl (Nat.le_of_ble_eq_true rfl) (fun a b => ⟨a, b⟩) ?_
  refine Ev.mono (E2 n1 y4) (fun r h' y => ?_)
  obtain ⟨x2, n2, y1, y2, y3, y5⟩ := y
  subst y1 y2 y3
  refine r_jeq (tgt := 1525) dL_law_1276 rfl (fun _ => ?_) (fun c => absurd rfl c)
  exact kk n2 y5
theorem lw_c31 {n : NM} {i k : Int} (hN : wN w ≤ 4096) (h0 : 0 ≤ i) (h1 : i + 8 ≤ (wN w : Int)) (S : Rel k n) (hk : k ≤ 900) (kk : ∀ n2, Rel (k + 1) n2 → Rn w mL_law (d + 86) G Q 1525 [(0, vx 4), (1, vr 0), (2, vr 145), (3, vi i)] [] (B0, n2)) : Rn w mL_law (d + 86) G Q 1281 [(0, vx 4), (1, vr 0), (2, vr 145), (3, vi i)] [] (B0, n) := by
  refine r_aload_n dL_law_1281 rfl rfl ?_
  refine r_scr (c := 1) dL_law_1282 dL_law_1283 dL_law_1284 dL_law_1285 dL_law_1286 rfl hN (by omega) (by omega) ?_
  refine r_scr (c := 2) dL_law_1287 dL_law_1288 dL_law_1289 dL_law_1290 dL_law_1291 rfl hN (by omega) (by omega) ?_
  refine r_scr (c := 3) dL_law_1292 dL_law_1293 dL_law_1294 dL_law_1295 dL_law_1296 rfl hN (by omega) (by omega) ?_
  obtain ⟨x, P, E1, E2⟩ := LStp.two (d2 := d + 85) (by omega) (st_ripple (w := w) (d := d) S hk (sc w (i + 1)) (sc w (i + 2)) (sc w (i + 3)))
  refine r_callV (mc := 0) (ms := 0) (ci := 11) (nf := 13) (a := 0) (args := [vi (sc w (i + 1)), vi (sc w (i + 2)), vi (sc w (i + 3))]) (st := []) dL_law_1297 kL_144 ob_0 ⟨_, _, rfl⟩ (by decide) rfl rfl (Nat.le_of_ble_eq_true rfl) (fun a b => ⟨a, b⟩) ?_
  refine Ev.mono E1 (fun r h' y => ?_)
  obtain ⟨x1, n1, y1, y2, y3, y4⟩ := y
  subst y1 y2 y3
  refine r_aload_n dL_law_1300 rfl rfl ?_
  refine r_scr (c := 1) dL_law_1301 dL_law_1302 dL_law_1303 dL_law_1304 dL_law_1305 rfl hN (by omega) (by omega) ?_
  refine r_scr (c := 2) dL_law_1306 dL_law_1307 dL_law_1308 dL_law_1309 dL_law_1310 rfl hN (by omega) (by omega) ?_
  refine r_scr (c := 3) dL_law_1311 dL_law_1312 dL_law_1313 dL_law_1314 dL_law_1315 rfl hN (by omega) (by omega) ?_
  refine r_callV (mc := 0) (ms := 0) (ci := 12) (nf := 39) (a := 145) (args := [vi (sc w (i + 1)), vi (sc w (i + 2)), vi (sc w (i + 3))]) (st := [vi x1]) dL_law_1316 kL_147 ob_145 ⟨_, _, rfl⟩ (by decide) rfl rfl (Nat.le_of_ble_eq_true rfl) (fun a b => ⟨a, b⟩) ?_
  refine Ev.mono (E2 n1 y4) (fun r h' y => ?_)
  obtain ⟨x2, n2, y1, y2, y3, y5⟩ := y
  subst y1 y2 y3
  refine r_jeq (tgt := 1525) dL_law_1319 rfl (fun _ => ?_) (fun c => absurd rfl c)
  exact kk n2 y5
theorem lw_c32 {n : NM} {i k : Int} (hN : wN w ≤ 4096) (h0 : 0 ≤ i) (h1 : i + 8 ≤ (wN w : Int)) (S : Rel k n) (hk : k ≤ 900) (kk : ∀ n2, Rel (k + 1) n2 → Rn w mL_law (d + 86) G Q 1525 [(0, vx 4), (1, vr 0), (2, vr 145), (3, vi i)] [] (B0, n2)) : Rn w mL_law (d + 86) G Q 1324 [(0, vx 4), (1, vr 0), (2, vr 145), (3, vi i)] [] (B0, n) := by
  refine r_aload_n dL_law_1324 rfl rfl ?_
  refine r_scr (c := 1) dL_law_1325 dL_law_1326 dL_law_1327 dL_law_1328 dL_law_1329 rfl hN (by omega) (by omega) ?_
  refine r_scr (c := 2) dL_law_1330 dL_law_1331 dL_law_1332 dL_law_1333 dL_law_1334 rfl hN (by omega) (by omega) ?_
  refine r_scr (c := 3) dL_law_1335 dL_law_1336 dL_law_1337 dL_law_1338 dL_law_1339 rfl hN (by omega) (by omega) ?_
  obtain ⟨x, P, E1, E2⟩ := LStp.two (d2 := d + 85) (by omega) (st_picture (w := w) (d := d) S (sc w (i + 1)) (sc w (i + 2)) (sc w (i + 3)))
  refine r_callV (mc := 0) (ms := 0) (ci := 11) (nf := 13) (a := 0) (args := [vi (sc w (i + 1)), vi (sc w (i + 2)), vi (sc w (i + 3))]) (st := []) dL_law_1340 kL_148 ob_0 ⟨_, _, rfl⟩ (by decide) rfl rfl (Nat.le_of_ble_eq_true rfl) (fun a b => ⟨a, b⟩) ?_
  refine Ev.mono E1 (fun r h' y => ?_)
  obtain ⟨x1, n1, y1, y2, y3, y4⟩ := y
  subst y1 y2 y3
  refine r_aload_n dL_law_1343 rfl rfl ?_
  refine r_scr (c := 1) dL_law_1344 dL_law_1345 dL_law_1346 dL_law_1347 dL_law_1348 rfl hN (by omega) (by omega) ?_
  refine r_scr (c := 2) dL_law_1349 dL_law_1350 dL_law_1351 dL_law_1352 dL_law_1353 rfl hN (by omega) (by omega) ?_
  refine r_scr (c := 3) dL_law_1354 dL_law_1355 dL_law_1356 dL_law_1357 dL_law_1358 rfl hN (by omega) (by omega) ?_
  refine r_callV (mc := 0) (ms := 0) (ci := 12) (nf := 39) (a := 145) (args := [vi (sc w (i + 1)), vi (sc w (i + 2)), vi (sc w (i + 3))]) (st := [vi x1]) dL_law_1359 kL_151 ob_145 ⟨_, _, rfl⟩ (by decide) rfl rfl (Nat.le_of_ble_eq_true rfl) (fun a b => ⟨a, b⟩) ?_
  refine Ev.mono (E2 n1 y4) (fun r h' y => ?_)
  obtain ⟨x2, n2, y1, y2, y3, y5⟩ := y
  subst y1 y2 y3
  refine r_jeq (tgt := 1525) dL_law_1362 rfl (fun _ => ?_) (fun c => absurd rfl c)
  exact kk n2 y5
theorem lw_c33 {n : NM} {i k : Int} (hN : wN w ≤ 4096) (h0 : 0 ≤ i) (h1 : i + 8 ≤ (wN w : Int)) (S : Rel k n) (hk : k ≤ 900) (kk : ∀ n2, Rel (k + 1) n2 → Rn w mL_law (d + 86) G Q 1525 [(0, vx 4), (1, vr 0), (2, vr 145), (3, vi i)] [] (B0, n2)) : Rn w mL_law (d + 86) G Q 1367 [(0, vx 4), (1, vr 0), (2, vr 145), (3, vi i)] [] (B0, n) := by
  refine r_aload_n dL_law_1367 rfl rfl ?_
  refine r_scr (c := 1) dL_law_1368 dL_law_1369 dL_law_1370 dL_law_1371 dL_law_1372 rfl hN (by omega) (by omega) ?_
  refine r_scr (c := 2) dL_law_1373 dL_law_1374 dL_law_1375 dL_law_1376 dL_law_1377 rfl hN (by omega) (by omega) ?_
  refine r_scr (c := 3) dL_law_1378 dL_law_1379 dL_law_1380 dL_law_1381 dL_law_1382 rfl hN (by omega) (by omega) ?_
  obtain ⟨x, P, E1, E2⟩ := LStp.two (d2 := d + 85) (by omega) (st_run (w := w) (d := d) S hk (sc w (i + 1)) (sc w (i + 2)) (sc w (i + 3)))
  refine r_callV (mc := 0) (ms := 0) (ci := 11) (nf := 13) (a := 0) (args := [vi (sc w (i + 1)), vi (sc w (i + 2)), vi (sc w (i + 3))]) (st := []) dL_law_1383 kL_152 ob_0 ⟨_, _, rfl⟩ (by decide) rfl rfl (Nat.le_of_ble_eq_true rfl) (fun a b => ⟨a, b⟩) ?_
  refine Ev.mono E1 (fun r h' y => ?_)
  obtain ⟨x1, n1, y1, y2, y3, y4⟩ := y
  subst y1 y2 y3
  refine r_aload_n dL_law_1386 rfl rfl ?_
  refine r_scr (c := 1) dL_law_1387 dL_law_1388 dL_law_1389 dL_law_1390 dL_law_1391 rfl hN (by omega) (by omega) ?_
  refine r_scr (c := 2) dL_law_1392 dL_law_1393 dL_law_1394 dL_law_1395 dL_law_1396 rfl hN (by omega) (by omega) ?_
  refine r_scr (c := 3) dL_law_1397 dL_law_1398 dL_law_1399 dL_law_1400 dL_law_1401 rfl hN (by omega) (by omega) ?_
  refine r_callV (mc := 0) (ms := 0) (ci := 12) (nf := 39) (a := 145) (args := [vi (sc w (i + 1)), vi (sc w (i + 2)), vi (sc w (i + 3))]) (st := [vi x1]) dL_law_1402 kL_155 ob_145 ⟨_, _, rfl⟩ (by decide) rfl rfl (Nat.le_of_ble_eq_true rfl) (fun a b => ⟨a, b⟩) ?_
  refine Ev.mono (E2 n1 y4) (fun r h' y => ?_)
  obtain ⟨x2, n2, y1, y2, y3, y5⟩ := y
  subst y1 y2 y3
  refine r_jeq (tgt := 1525) dL_law_1405 rfl (fun _ => ?_) (fun c => absurd rfl c)
  exact kk n2 y5
theorem lw_c34 {n : NM} {i k : Int} (hN : wN w ≤ 4096) (h0 : 0 ≤ i) (h1 : i + 8 ≤ (wN w : Int)) (S : Rel k n) (hk : k ≤ 900) (kk : ∀ n2, Rel (k + 1) n2 → Rn w mL_law (d + 86) G Q 1525 [(0, vx 4), (1, vr 0), (2, vr 145), (3, vi i)] [] (B0, n2)) : Rn w mL_law (d + 86) G Q 1410 [(0, vx 4), (1, vr 0), (2, vr 145), (3, vi i)] [] (B0, n) := by
  refine r_aload_n dL_law_1410 rfl rfl ?_
  refine r_scr (c := 1) dL_law_1411 dL_law_1412 dL_law_1413 dL_law_1414 dL_law_1415 rfl hN (by omega) (by omega) ?_
  refine r_scr (c := 2) dL_law_1416 dL_law_1417 dL_law_1418 dL_law_1419 dL_law_1420 rfl hN (by omega) (by omega) ?_
  obtain ⟨x, P, E1, E2⟩ := LStp.two (d2 := d + 85) (by omega) (st_world (w := w) (d := d) S (sc w (i + 1)) (sc w (i + 2)))
  refine r_callV (mc := 0) (ms := 0) (ci := 11) (nf := 13) (a := 0) (args := [vi (sc w (i + 1)), vi (sc w (i + 2))]) (st := []) dL_law_1421 kL_156 ob_0 ⟨_, _, rfl⟩ (by decide) rfl rfl (Nat.le_of_ble_eq_true rfl) (fun a b => ⟨a, b⟩) ?_
  refine Ev.mono E1 (fun r h' y => ?_)
  obtain ⟨x1, n1, y1, y2, y3, y4⟩ := y
  subst y1 y2 y3
  refine r_aload_n dL_law_1424 rfl rfl ?_
  refine r_scr (c := 1) dL_law_1425 dL_law_1426 dL_law_1427 dL_law_1428 dL_law_1429 rfl hN (by omega) (by omega) ?_
  refine r_scr (c := 2) dL_law_1430 dL_law_1431 dL_law_1432 dL_law_1433 dL_law_1434 rfl hN (by omega) (by omega) ?_
  refine r_callV (mc := 0) (ms := 0) (ci := 12) (nf := 39) (a := 145) (args := [vi (sc w (i + 1)), vi (sc w (i + 2))]) (st := [vi x1]) dL_law_1435 kL_159 ob_145 ⟨_, _, rfl⟩ (by decide) rfl rfl (Nat.le_of_ble_eq_true rfl) (fun a b => ⟨a, b⟩) ?_
  refine Ev.mono (E2 n1 y4) (fun r h' y => ?_)
  obtain ⟨x2, n2, y1, y2, y3, y5⟩ := y
  subst y1 y2 y3
  refine r_jeq (tgt := 1525) dL_law_1438 rfl (fun _ => ?_) (fun c => absurd rfl c)
  exact kk n2 y5
theorem lw_c35 {n : NM} {i k : Int} (hN : wN w ≤ 4096) (h0 : 0 ≤ i) (h1 : i + 8 ≤ (wN w : Int)) (S : Rel k n) (hk : k ≤ 900) (kk : ∀ n2, Rel (k + 1) n2 → Rn w mL_law (d + 86) G Q 1525 [(0, vx 4), (1, vr 0), (2, vr 145), (3, vi i)] [] (B0, n2)) : Rn w mL_law (d + 86) G Q 1443 [(0, vx 4), (1, vr 0), (2, vr 145), (3, vi i)] [] (B0, n) := by
  refine r_aload_n dL_law_1443 rfl rfl ?_
  refine r_scr (c := 1) dL_law_1444 dL_law_1445 dL_law_1446 dL_law_1447 dL_law_1448 rfl hN (by omega) (by omega) ?_
  obtain ⟨x, P, E1, E2⟩ := LStp.two (d2 := d + 85) (by omega) (st_image (w := w) (d := d) S hk (sc w (i + 1)))
  refine r_callV (mc := 0) (ms := 0) (ci := 11) (nf := 13) (a := 0) (args := [vi (sc w (i + 1))]) (st := []) dL_law_1449 kL_160 ob_0 ⟨_, _, rfl⟩ (by decide) rfl rfl (Nat.le_of_ble_eq_true rfl) (fun a b => ⟨a, b⟩) ?_
  refine Ev.mono E1 (fun r h' y => ?_)
  obtain ⟨x1, n1, y1, y2, y3, y4⟩ := y
  subst y1 y2 y3
  refine r_aload_n dL_law_1452 rfl rfl ?_
  refine r_scr (c := 1) dL_law_1453 dL_law_1454 dL_law_1455 dL_law_1456 dL_law_1457 rfl hN (by omega) (by omega) ?_
  refine r_callV (mc := 0) (ms := 0) (ci := 12) (nf := 39) (a := 145) (args := [vi (sc w (i + 1))]) (st := [vi x1]) dL_law_1458 kL_163 ob_145 ⟨_, _, rfl⟩ (by decide) rfl rfl (Nat.le_of_ble_eq_true rfl) (fun a b => ⟨a, b⟩) ?_
  refine Ev.mono (E2 n1 y4) (fun r h' y => ?_)
  obtain ⟨x2, n2, y1, y2, y3, y5⟩ := y
  subst y1 y2 y3
  refine r_jeq (tgt := 1525) dL_law_1461 rfl (fun _ => ?_) (fun c => absurd rfl c)
  exact kk n2 y5
theorem lw_c36 {n : NM} {i k : Int} (hN : wN w ≤ 4096) (h0 : 0 ≤ i) (h1 : i + 8 ≤ (wN w : Int)) (S : Rel k n) (hk : k ≤ 900) (kk : ∀ n2, Rel (k + 1) n2 → Rn w mL_law (d + 86) G Q 1525 [(0, vx 4), (1, vr 0), (2, vr 145), (3, vi i)] [] (B0, n2)) : Rn w mL_law (d + 86) G Q 1466 [(0, vx 4), (1, vr 0), (2, vr 145), (3, vi i)] [] (B0, n) := by
  refine r_aload_n dL_law_1466 rfl rfl ?_
  refine r_scr (c := 1) dL_law_1467 dL_law_1468 dL_law_1469 dL_law_1470 dL_law_1471 rfl hN (by omega) (by omega) ?_
  obtain ⟨x, P, E1, E2⟩ := LStp.two (d2 := d + 85) (by omega) (st_back (w := w) (d := d) S hk (sc w (i + 1)))
  refine r_callV (mc := 0) (ms := 0) (ci := 11) (nf := 13) (a := 0) (args := [vi (sc w (i + 1))]) (st := []) dL_law_1472 kL_164 ob_0 ⟨_, _, rfl⟩ (by decide) rfl rfl (Nat.le_of_ble_eq_true rfl) (fun a b => ⟨a, b⟩) ?_
  refine Ev.mono E1 (fun r h' y => ?_)
  obtain ⟨x1, n1, y1, y2, y3, y4⟩ := y
  subst y1 y2 y3
  refine r_aload_n dL_law_1475 rfl rfl ?_
  refine r_scr (c := 1) dL_law_1476 dL_law_1477 dL_law_1478 dL_law_1479 dL_law_1480 rfl hN (by omega) (by omega) ?_
  refine r_callV (mc := 0) (ms := 0) (ci := 12) (nf := 39) (a := 145) (args := [vi (sc w (i + 1))]) (st := [vi x1]) dL_law_1481 kL_167 ob_145 ⟨_, _, rfl⟩ (by decide) rfl rfl (Nat.le_of_ble_eq_true rfl) (fun a b => ⟨a, b⟩) ?_
  refine Ev.mono (E2 n1 y4) (fun r h' y => ?_)
  obtain ⟨x2, n2, y1, y2, y3, y5⟩ := y
  subst y1 y2 y3
  refine r_jeq (tgt := 1525) dL_law_1484 rfl (fun _ => ?_) (fun c => absurd rfl c)
  exact kk n2 y5
theorem lw_c37 {n : NM} {i k : Int} (hN : wN w ≤ 4096) (h0 : 0 ≤ i) (h1 : i + 8 ≤ (wN w : Int)) (S : Rel k n) (hk : k ≤ 900) (kk : ∀ n2, Rel (k + 1) n2 → Rn w mL_law (d + 86) G Q 1525 [(0, vx 4), (1, vr 0), (2, vr 145), (3, vi i)] [] (B0, n2)) : Rn w mL_law (d + 86) G Q 1489 [(0, vx 4), (1, vr 0), (2, vr 145), (3, vi i)] [] (B0, n) := by
  refine r_aload_n dL_law_1489 rfl rfl ?_
  refine r_scr (c := 1) dL_law_1490 dL_law_1491 dL_law_1492 dL_law_1493 dL_law_1494 rfl hN (by omega) (by omega) ?_
  obtain ⟨x, P, E1, E2⟩ := LStp.two (d2 := d + 85) (by omega) (st_count (w := w) (d := d) S (sc w (i + 1)))
  refine r_callV (mc := 0) (ms := 0) (ci := 11) (nf := 13) (a := 0) (args := [vi (sc w (i + 1))]) (st := []) dL_law_1495 kL_168 ob_0 ⟨_, _, rfl⟩ (by decide) rfl rfl (Nat.le_of_ble_eq_true rfl) (fun a b => ⟨a, b⟩) ?_
  refine Ev.mono E1 (fun r h' y => ?_)
  obtain ⟨x1, n1, y1, y2, y3, y4⟩ := y
  subst y1 y2 y3
  refine r_aload_n dL_law_1498 rfl rfl ?_
  refine r_scr (c := 1) dL_law_1499 dL_law_1500 dL_law_1501 dL_law_1502 dL_law_1503 rfl hN (by omega) (by omega) ?_
  refine r_callV (mc := 0) (ms := 0) (ci := 12) (nf := 39) (a := 145) (args := [vi (sc w (i + 1))]) (st := [vi x1]) dL_law_1504 kL_171 ob_145 ⟨_, _, rfl⟩ (by decide) rfl rfl (Nat.le_of_ble_eq_true rfl) (fun a b => ⟨a, b⟩) ?_
  refine Ev.mono (E2 n1 y4) (fun r h' y => ?_)
  obtain ⟨x2, n2, y1, y2, y3, y5⟩ := y
  subst y1 y2 y3
  refine r_jeq (tgt := 1525) dL_law_1507 rfl (fun _ => ?_) (fun c => absurd rfl c)
  exact kk n2 y5
theorem lw_c38 {n : NM} {i k : Int} (hN : wN w ≤ 4096) (h0 : 0 ≤ i) (h1 : i + 8 ≤ (wN w : Int)) (S : Rel k n) (hk : k ≤ 900) (kk : ∀ n2, Rel (k + 1) n2 → Rn w mL_law (d + 86) G Q 1525 [(0, vx 4), (1, vr 0), (2, vr 145), (3, vi i)] [] (B0, n2)) : Rn w mL_law (d + 86) G Q 1512 [(0, vx 4), (1, vr 0), (2, vr 145), (3, vi i)] [] (B0, n) := by
  refine r_aload_n dL_law_1512 rfl rfl ?_
  obtain ⟨x, P, E1, E2⟩ := LStp.two (d2 := d + 85) (by omega) (st_status (w := w) (d := d) S)
  refine r_callV (mc := 0) (ms := 0) (ci := 11) (nf := 13) (a := 0) (args := []) (st := []) dL_law_1513 kL_172 ob_0 ⟨_, _, rfl⟩ (by decide) rfl rfl (Nat.le_of_ble_eq_true rfl) (fun a b => ⟨a, b⟩) ?_
  refine Ev.mono E1 (fun r h' y => ?_)
  obtain ⟨x1, n1, y1, y2, y3, y4⟩ := y
  subst y1 y2 y3
  refine r_aload_n dL_law_1516 rfl rfl ?_
  refine r_callV (mc := 0) (ms := 0) (ci := 12) (nf := 39) (a := 145) (args := []) (st := [vi x1]) dL_law_1517 kL_175 ob_145 ⟨_, _, rfl⟩ (by decide) rfl rfl (Nat.le_of_ble_eq_true rfl) (fun a b => ⟨a, b⟩) ?_
  refine Ev.mono (E2 n1 y4) (fun r h' y => ?_)
  obtain ⟨x2, n2, y1, y2, y3, y5⟩ := y
  subst y1 y2 y3
  refine r_jeq (tgt := 1525) dL_law_1520 rfl (fun _ => ?_) (fun c => absurd rfl c)
  exact kk n2 y5
theorem law_loop (hN : wN w ≤ 4096) (hq : ∀ h : Hp, Q (some (vi 1)) h) : ∀ (f : Nat) (i k : Int) (n : NM), 0 ≤ i → i = 8 * k → (wN w : Int) < i + 8 * (f : Int) + 8 → Rel k n → Rn w mL_law (d + 86) G Q 18 [(0, vx 4), (1, vr 0), (2, vr 145), (3, vi i)] [] (B0, n) := by
  intro f
  induction f with
  | zero =>
    intro i k n h0 hi hf S
    refine r_iload_n dL_law_18 rfl rfl ?_
    refine r_aload_nX dL_law_19 rfl rfl (by decide) ?_
    refine r_slen dL_law_20 hN ?_
    refine r_bipush (x := 8) dL_law_21 (by decide) (by decide) ?_
    refine r_isub dL_law_23 ⟨by omega, by omega⟩ ?_
    refine r_jgt (tgt := 1531) dL_law_24 rfl (fun _ => law_out hq) (fun c => ?_)
    exact absurd c (by omega)
  | succ f ih =>
    intro i k n h0 hi hf S
    refine r_iload_n dL_law_18 rfl rfl ?_
    refine r_aload_nX dL_law_19 rfl rfl (by decide) ?_
    refine r_slen dL_law_20 hN ?_
    refine r_bipush (x := 8) dL_law_21 (by decide) (by decide) ?_
    refine r_isub dL_law_23 ⟨by omega, by omega⟩ ?_
    refine r_jgt (tgt := 1531) dL_law_24 rfl (fun _ => law_out hq) (fun c => ?_)
    have h1 : i + 8 ≤ (wN w : Int) := by omega
    have hk : k ≤ 900 := by omega
    have kk : ∀ n2, Rel (k + 1) n2 → Rn w mL_law (d + 86) G Q 1525 [(0, vx 4), (1, vr 0), (2, vr 145), (3, vi i)] [] (B0, n2) := fun n2 S2 => by
      refine r_iinc (y := i + 8) (ls' := [(0, vx 4), (1, vr 0), (2, vr 145), (3, vi (i + 8))]) dL_law_1525 rfl rfl ⟨by omega, by omega⟩ (Nat.le_of_ble_eq_true rfl) rfl ?_
      refine r_goto (tgt := 18) dL_law_1528 rfl ?_
      exact ih (i + 8) (k + 1) n2 (by omega) (by omega) (by omega) S2
    refine r_aload_nX dL_law_27 rfl rfl (by decide) ?_
    refine r_iload_n dL_law_28 rfl rfl ?_
    refine r_sld dL_law_29 h0 (by omega) ?_
    refine r_bipush (x := 63) dL_law_30 (by decide) (by decide) ?_
    refine r_iand (n := 6) dL_law_32 (by decide) (by decide) ?_
    have b0 : 0 ≤ sc w i % ((2 ^ 6 : Nat) : Int) ∧ sc w i % ((2 ^ 6 : Nat) : Int) < 64 := ⟨Int.emod_nonneg _ (by decide), Int.emod_lt_of_pos _ (by decide)⟩
    generalize sc w i % ((2 ^ 6 : Nat) : Int) = x at b0 ⊢
    by_cases q0 : x = 0
    · exact r_tableIn (k := 0) (tgt := 204) dL_law_33 q0 (by decide) (by decide) rfl rfl (lw_c0 hN h0 h1 S hk kk)
    by_cases q1 : x = 1
    · exact r_tableIn (k := 1) (tgt := 247) dL_law_33 q1 (by decide) (by decide) rfl rfl (lw_c1 hN h0 h1 S hk kk)
    by_cases q2 : x = 2
    · exact r_tableIn (k := 2) (tgt := 300) dL_law_33 q2 (by decide) (by decide) rfl rfl (lw_c2 hN h0 h1 S hk kk)
    by_cases q3 : x = 3
    · exact r_tableIn (k := 3) (tgt := 353) dL_law_33 q3 (by decide) (by decide) rfl rfl (lw_c3 hN h0 h1 S hk kk)
    by_cases q4 : x = 4
    · exact r_tableIn (k := 4) (tgt := 386) dL_law_33 q4 (by decide) (by decide) rfl rfl (lw_c4 hN h0 h1 S hk kk)
    by_cases q5 : x = 5
    · exact r_tableIn (k := 5) (tgt := 409) dL_law_33 q5 (by decide) (by decide) rfl rfl (lw_c5 hN h0 h1 S hk kk)
    by_cases q6 : x = 6
    · exact r_tableIn (k := 6) (tgt := 452) dL_law_33 q6 (by decide) (by decide) rfl rfl (lw_c6 hN h0 h1 S hk kk)
    by_cases q7 : x = 7
    · exact r_tableIn (k := 7) (tgt := 539) dL_law_33 q7 (by decide) (by decide) rfl rfl (lw_c7 hN h0 h1 S hk kk)
    by_cases q8 : x = 8
    · exact r_tableIn (k := 8) (tgt := 602) dL_law_33 q8 (by decide) (by decide) rfl rfl (lw_c8 hN h0 h1 S hk kk)
    by_cases q9 : x = 9
    · exact r_tableIn (k := 9) (tgt := 625) dL_law_33 q9 (by decide) (by decide) rfl rfl (lw_c9 hN h0 h1 S hk kk)
    by_cases q10 : x = 10
    · exact r_tableIn (k := 10) (tgt := 638) dL_law_33 q10 (by decide) (by decide) rfl rfl (lw_c10 hN h0 h1 S hk kk)
    by_cases q11 : x = 11
    · exact r_tableIn (k := 11) (tgt := 651) dL_law_33 q11 (by decide) (by decide) rfl rfl (lw_c11 hN h0 h1 S hk kk)
    by_cases q12 : x = 12
    · exact r_tableIn (k := 12) (tgt := 664) dL_law_33 q12 (by decide) (by decide) rfl rfl (lw_c12 hN h0 h1 S hk kk)
    by_cases q13 : x = 13
    · exact r_tableIn (k := 13) (tgt := 677) dL_law_33 q13 (by decide) (by decide) rfl rfl (lw_c13 hN h0 h1 S hk kk)
    by_cases q14 : x = 14
    · exact r_tableIn (k := 14) (tgt := 710) dL_law_33 q14 (by decide) (by decide) rfl rfl (lw_c14 hN h0 h1 S hk kk)
    by_cases q15 : x = 15
    · exact r_tableIn (k := 15) (tgt := 733) dL_law_33 q15 (by decide) (by decide) rfl rfl (lw_c15 hN h0 h1 S hk kk)
    by_cases q16 : x = 16
    · exact r_tableIn (k := 16) (tgt := 776) dL_law_33 q16 (by decide) (by decide) rfl rfl (lw_c16 hN h0 h1 S hk kk)
    by_cases q17 : x = 17
    · exact r_tableIn (k := 17) (tgt := 809) dL_law_33 q17 (by decide) (by decide) rfl rfl (lw_c17 hN h0 h1 S hk kk)
    by_cases q18 : x = 18
    · exact r_tableIn (k := 18) (tgt := 842) dL_law_33 q18 (by decide) (by decide) rfl rfl (lw_c18 hN h0 h1 S hk kk)
    by_cases q19 : x = 19
    · exact r_tableIn (k := 19) (tgt := 865) dL_law_33 q19 (by decide) (by decide) rfl rfl (lw_c19 hN h0 h1 S hk kk)
    by_cases q20 : x = 20
    · exact r_tableIn (k := 20) (tgt := 908) dL_law_33 q20 (by decide) (by decide) rfl rfl (lw_c20 hN h0 h1 S hk kk)
    by_cases q21 : x = 21
    · exact r_tableIn (k := 21) (tgt := 961) dL_law_33 q21 (by decide) (by decide) rfl rfl (lw_c21 hN h0 h1 S hk kk)
    by_cases q22 : x = 22
    · exact r_tableIn (k := 22) (tgt := 984) dL_law_33 q22 (by decide) (by decide) rfl rfl (lw_c22 hN h0 h1 S hk kk)
    by_cases q23 : x = 23
    · exact r_tableIn (k := 23) (tgt := 1017) dL_law_33 q23 (by decide) (by decide) rfl rfl (lw_c23 hN h0 h1 S hk kk)
    by_cases q24 : x = 24
    · exact r_tableIn (k := 24) (tgt := 1050) dL_law_33 q24 (by decide) (by decide) rfl rfl (lw_c24 hN h0 h1 S hk kk)
    by_cases q25 : x = 25
    · exact r_tableIn (k := 25) (tgt := 1073) dL_law_33 q25 (by decide) (by decide) rfl rfl (lw_c25 hN h0 h1 S hk kk)
    by_cases q26 : x = 26
    · exact r_tableIn (k := 26) (tgt := 1126) dL_law_33 q26 (by decide) (by decide) rfl rfl (lw_c26 hN h0 h1 S hk kk)
    by_cases q27 : x = 27
    · exact r_tableIn (k := 27) (tgt := 1149) dL_law_33 q27 (by decide) (by decide) rfl rfl (lw_c27 hN h0 h1 S hk kk)
    by_cases q28 : x = 28
    · exact r_tableIn (k := 28) (tgt := 1172) dL_law_33 q28 (by decide) (by decide) rfl rfl (lw_c28 hN h0 h1 S hk kk)
    by_cases q29 : x = 29
    · exact r_tableIn (k := 29) (tgt := 1215) dL_law_33 q29 (by decide) (by decide) rfl rfl (lw_c29 hN h0 h1 S hk kk)
    by_cases q30 : x = 30
    · exact r_tableIn (k := 30) (tgt := 1258) dL_law_33 q30 (by decide) (by decide) rfl rfl (lw_c30 hN h0 h1 S hk kk)
    by_cases q31 : x = 31
    · exact r_tableIn (k := 31) (tgt := 1281) dL_law_33 q31 (by decide) (by decide) rfl rfl (lw_c31 hN h0 h1 S hk kk)
    by_cases q32 : x = 32
    · exact r_tableIn (k := 32) (tgt := 1324) dL_law_33 q32 (by decide) (by decide) rfl rfl (lw_c32 hN h0 h1 S hk kk)
    by_cases q33 : x = 33
    · exact r_tableIn (k := 33) (tgt := 1367) dL_law_33 q33 (by decide) (by decide) rfl rfl (lw_c33 hN h0 h1 S hk kk)
    by_cases q34 : x = 34
    · exact r_tableIn (k := 34) (tgt := 1410) dL_law_33 q34 (by decide) (by decide) rfl rfl (lw_c34 hN h0 h1 S hk kk)
    by_cases q35 : x = 35
    · exact r_tableIn (k := 35) (tgt := 1443) dL_law_33 q35 (by decide) (by decide) rfl rfl (lw_c35 hN h0 h1 S hk kk)
    by_cases q36 : x = 36
    · exact r_tableIn (k := 36) (tgt := 1466) dL_law_33 q36 (by decide) (by decide) rfl rfl (lw_c36 hN h0 h1 S hk kk)
    by_cases q37 : x = 37
    · exact r_tableIn (k := 37) (tgt := 1489) dL_law_33 q37 (by decide) (by decide) rfl rfl (lw_c37 hN h0 h1 S hk kk)
    by_cases q38 : x = 38
    · exact r_tableIn (k := 38) (tgt := 1512) dL_law_33 q38 (by decide) (by decide) rfl rfl (lw_c38 hN h0 h1 S hk kk)
    refine r_tableOut (tgt := 1525) dL_law_33 (by omega) rfl ?_
    refine r_iinc (y := i + 8) (ls' := [(0, vx 4), (1, vr 0), (2, vr 145), (3, vi (i + 8))]) dL_law_1525 rfl rfl ⟨by omega, by omega⟩ (Nat.le_of_ble_eq_true rfl) rfl ?_
    refine r_goto (tgt := 18) dL_law_1528 rfl ?_
    exact ih (i + 8) (k + 1) n (by omega) (by omega) (by omega) (Rel.later S)
end LAWLOOP
