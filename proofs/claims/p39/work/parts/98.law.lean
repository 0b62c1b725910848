/-! by program: the law's loop, with the whole relation of class and reference -/
def LF (i4 i14 i15 i20 i23 : Int32) (n24 : Nat) (f25 : Nat → Int32) (j1 j2 j3 j4 j5 : Int32) (f7 f8 : Nat → Int32) (i26 i27 i28 i29 i30 i31 : Int32) (f33 f34 : Nat → Int32) : Prop := (2 ≤ i4.toInt ∧ i4.toInt ≤ 9) ∧ (0 ≤ i14.toInt ∧ i14.toInt ≤ 9) ∧ (0 ≤ i15.toInt ∧ i15.toInt ≤ 10) ∧ (0 ≤ i20.toInt ∧ i20.toInt ≤ 10) ∧ CT n24 i23 f25 ∧ i4 = i26 ∧ j1 = i27 ∧ j2 = i28 ∧ j3 = i29 ∧ j4 = i30 ∧ j5 = i31 ∧ same f7 f33 ∧ same f8 f34 ∧ RIv i26 i27 i28 f33 f34
set_option maxRecDepth 20000 in
set_option maxHeartbeats 4000000 in
theorem law_loop {L : Nat} (hL : L ≤ 320) (xs : Nat → Int32) : ∀ (n : Nat) (i268 : Int32) (i269 : Int32) (i270 : Int32) (i271 : Int32) (i272 : Int32) (i273 : Int32) (i274 : Int32) (f275 : Nat → Int32) (f276 : Nat → Int32) (i277 : Int32) (i278 : Int32) (i279 : Int32) (f280 : Nat → Int32) (f281 : Nat → Int32) (i282 : Int32) (i283 : Int32) (f284 : Nat → Int32) (f285 : Nat → Int32) (i286 : Int32) (i287 : Int32) (i288 : Int32) (f289 : Nat → Int32) (i291 : Int32) (i292 : Int32) (n293 : Nat) (f294 : Nat → Int32) (i295 : Int32) (i298 : Int32) (i299 : Int32) (i300 : Int32) (i301 : Int32) (i302 : Int32) (i303 : Int32) (f304 : Nat → Int32) (f305 : Nat → Int32) (l306 : Int64), LF i272 i282 i283 i288 i292 n293 f294 i273 i274 i269 i270 i271 f275 f276 i295 i298 i299 i300 i301 i302 f304 f305 → (0 ≤ i268.toInt ∧ i268.toInt ≤ L) → (L : Int) - i268.toInt < 5 * n → Ok (LL_law_L27 L xs n i268 i269 i270 i271 i272 i273 i274 f275 f276 i277 i278 i279 f280 f281 i282 i283 f284 f285 i286 i287 i288 f289 i291 i292 n293 f294 i295 i298 i299 i300 i301 i302 i303 f304 f305 l306) (fun _ => True) := by
  intro n
  have eL := ofNat_iv (n := L) (by omega)
  have t5 : (5 : Int32).toInt = 5 := rfl
  have es5 : (Int32.ofNat L - (5 : Int32)).toInt = L - 5 := by rw [sub_iv (by omega) (by omega), eL, t5]
  induction n with
  | zero => intro i268 i269 i270 i271 i272 i273 i274 f275 f276 i277 i278 i279 f280 f281 i282 i283 f284 f285 i286 i287 i288 f289 i291 i292 n293 f294 i295 i298 i299 i300 i301 i302 i303 f304 f305 l306 _ h1 h2; omega
  | succ n ih =>
    intro i268 i269 i270 i271 i272 i273 i274 f275 f276 i277 i278 i279 f280 f281 i282 i283 f284 f285 i286 i287 i288 f289 i291 i292 n293 f294 i295 i298 i299 i300 i301 i302 i303 f304 f305 l306 hLF hix hms
    show Ok (BL_law_L27 L xs i268 i269 i270 i271 i272 i273 i274 f275 f276 i277 i278 i279 f280 f281 i282 i283 f284 f285 i286 i287 i288 f289 i291 i292 n293 f294 i295 i298 i299 i300 i301 i302 i303 f304 f305 l306 (fun i268 i269 i270 i271 i272 i273 i274 f275 f276 i277 i278 i279 f280 f281 i282 i283 f284 f285 i286 i287 i288 f289 i291 i292 n293 f294 i295 i298 i299 i300 i301 i302 i303 f304 f305 l306 => LL_law_L27 L xs n i268 i269 i270 i271 i272 i273 i274 f275 f276 i277 i278 i279 f280 f281 i282 i283 f284 f285 i286 i287 i288 f289 i291 i292 n293 f294 i295 i298 i299 i300 i301 i302 i303 f304 f305 l306)) _
    unfold BL_law_L27
    obtain ⟨hi272, hi282, hi283, hi288, hCT, hmm, hso, hgo, hdo, hre, hkn, hRo, hFl, hRI⟩ := hLF
    obtain ⟨hPF, hi295, hi298, hi299⟩ := hRI.x
    obtain ⟨nn, ss, gg, en, es, eg, hI⟩ := id hRI
    have en2 : i272.toInt = nn := by rw [hmm]; exact en
    have es2 : i273.toInt = ss := by rw [hso]; exact es
    have eg2 : i274.toInt = gg := by rw [hgo]; exact eg
    have hmany := hi272
    refine Ok_if (fun _ => Ok_some trivial) (fun hle => ?_)
    have hle := i32nlt hle
    have a1 : (i268 + (1 : Int32)).toInt = i268.toInt + 1 := add_iv (y := 1) (by have t : (1 : Int32).toInt = 1 := rfl; omega) (by have t : (1 : Int32).toInt = 1 := rfl; omega)
    have a2 : (i268 + (2 : Int32)).toInt = i268.toInt + 2 := add_iv (y := 2) (by have t : (2 : Int32).toInt = 2 := rfl; omega) (by have t : (2 : Int32).toInt = 2 := rfl; omega)
    have a3 : (i268 + (3 : Int32)).toInt = i268.toInt + 3 := add_iv (y := 3) (by have t : (3 : Int32).toInt = 3 := rfl; omega) (by have t : (3 : Int32).toInt = 3 := rfl; omega)
    have a4 : (i268 + (4 : Int32)).toInt = i268.toInt + 4 := add_iv (y := 4) (by have t : (4 : Int32).toInt = 4 := rfl; omega) (by have t : (4 : Int32).toInt = 4 := rfl; omega)
    have a5 : (i268 + (5 : Int32)).toInt = i268.toInt + 5 := add_iv (y := 5) (by omega) (by omega)
    refine Ok_inB (vp_of (by omega) (by omega)) (Ok_jn (fun k308 wk308 => ?_))
    have go : ∀ (i451 : Int32) (i452 : Int32) (i453 : Int32) (i454 : Int32) (i455 : Int32) (i456 : Int32) (f457 : Nat → Int32) (f458 : Nat → Int32) (i459 : Int32) (i460 : Int32) (i461 : Int32) (f462 : Nat → Int32) (f463 : Nat → Int32) (i464 : Int32) (i465 : Int32) (f466 : Nat → Int32) (f467 : Nat → Int32) (i468 : Int32) (i469 : Int32) (i470 : Int32) (f471 : Nat → Int32) (i472 : Int32) (i473 : Int32) (n474 : Nat) (f475 : Nat → Int32) (i476 : Int32) (i477 : Int32) (i478 : Int32) (i479 : Int32) (i480 : Int32) (i481 : Int32) (i482 : Int32) (f483 : Nat → Int32) (f484 : Nat → Int32) (l485 : Int64), LF i454 i464 i465 i470 i473 n474 f475 i455 i456 i451 i452 i453 f457 f458 i476 i477 i478 i479 i480 i481 f483 f484 → Ok (k308 i451 i452 i453 i454 i455 i456 f457 f458 i459 i460 i461 f462 f463 i464 i465 f466 f467 i468 i469 i470 f471 i472 i473 n474 f475 i476 i477 i478 i479 i480 i481 i482 f483 f484 l485) (fun _ => True) := by
      intro i451 i452 i453 i454 i455 i456 f457 f458 i459 i460 i461 f462 f463 i464 i465 f466 f467 i468 i469 i470 f471 i472 i473 n474 f475 i476 i477 i478 i479 i480 i481 i482 f483 f484 l485 hLF2
      rw [wk308]
      exact ih (i268 + (5 : Int32)) i451 i452 i453 i454 i455 i456 f457 f458 i459 i460 i461 f462 f463 i464 i465 f466 f467 i468 i469 i470 f471 i472 i473 n474 f475 i476 i477 i478 i479 i480 i481 i482 f483 f484 l485 hLF2 (by omega) (by omega)
    clear wk308
    refine Ok_if (fun _ => ?_) (fun _ => ?_)
    · refine Ok_inB (vp_of (by omega) (by omega)) ?_
      refine Ok_bind (cplaces_iv i269 i272 i273 i274 f275 f276 l306 (xs (i268 + (1 : Int32)).toNatClampNeg)) (fun z310 hz310 => ?_)
      refine Ok_inB (vp_of (by omega) (by omega)) ?_
      refine Ok_bind (ok_X8_places2 i295 i298 i299 i300 f304 f305 (xs (i268 + (1 : Int32)).toNatClampNeg)) (fun z312 hz312 => ?_)
      have sm := sim_places hz310 hz312 hdo hmm hso hgo hRo hFl hmany
      refine go _ _ _ _ _ _ _ _ _ _ _ _ _ _ _ _ _ _ _ _ _ _ _ _ _ _ _ _ _ _ _ _ _ _ _ ⟨?_, ?_, ?_, ?_, ?_, ?_, ?_, ?_, ?_, ?_, ?_, ?_, ?_, ?_⟩ <;> first | assumption | exact sm.1 | exact sm.2.1 | exact sm.2.2.1 | exact sm.2.2.2.1 | exact sm.2.2.2.2.1 | exact sm.2.2.2.2.2.1 | exact sm.2.2.2.2.2.2.1 | exact sm.2.2.2.2.2.2.2 | exact ri_places hI en es eg hz312
    refine Ok_if (fun _ => ?_) (fun _ => ?_)
    · refine Ok_inB (vp_of (by omega) (by omega)) ?_
      refine Ok_inB (vp_of (by omega) (by omega)) ?_
      refine Ok_bind (cends_iv hI hFl en2 es2) (fun z315 hz315 => ?_)
      refine Ok_inB (vp_of (by omega) (by omega)) ?_
      refine Ok_inB (vp_of (by omega) (by omega)) ?_
      refine Ok_bind (ends_iv hI en es) (fun z317 hz317 => ?_)
      have sm := sim_ends hz315 hz317 hdo hso hgo hFl
      refine go _ _ _ _ _ _ _ _ _ _ _ _ _ _ _ _ _ _ _ _ _ _ _ _ _ _ _ _ _ _ _ _ _ _ _ ⟨?_, ?_, ?_, ?_, ?_, ?_, ?_, ?_, ?_, ?_, ?_, ?_, ?_, ?_⟩ <;> first | assumption | exact sm.1 | exact sm.2.1 | exact sm.2.2.1 | exact sm.2.2.2.1 | exact sm.2.2.2.2 | exact ri_ends hI en es eg hz317
    refine Ok_if (fun _ => ?_) (fun _ => ?_)
    · refine Ok_inB (vp_of (by omega) (by omega)) ?_
      refine Ok_inB (vp_of (by omega) (by omega)) ?_
      refine Ok_inB (vp_of (by omega) (by omega)) ?_
      refine Ok_bind (croomL_iv hI hRo hFl en2) (fun z318 hz318 => ?_)
      refine Ok_inB (vp_of (by omega) (by omega)) ?_
      refine Ok_inB (vp_of (by omega) (by omega)) ?_
      refine Ok_inB (vp_of (by omega) (by omega)) ?_
      refine Ok_bind (room_iv hI en) (fun z320 hz320 => ?_)
      have sm := sim_room hz318 hz320 hdo hre hRo
      refine go _ _ _ _ _ _ _ _ _ _ _ _ _ _ _ _ _ _ _ _ _ _ _ _ _ _ _ _ _ _ _ _ _ _ _ ⟨?_, ?_, ?_, ?_, ?_, ?_, ?_, ?_, ?_, ?_, ?_, ?_, ?_, ?_⟩ <;> first | assumption | exact sm.1 | exact sm.2.1 | exact sm.2.2.1 | exact sm.2.2.2 | exact ri_room hI en es eg hz320
    refine Ok_if (fun _ => ?_) (fun _ => ?_)
    · refine Ok_inB (vp_of (by omega) (by omega)) ?_
      refine Ok_inB (vp_of (by omega) (by omega)) ?_
      refine Ok_inB (vp_of (by omega) (by omega)) ?_
      refine Ok_bind (cwiden_iv hI hRo hFl en2) (fun z321 hz321 => ?_)
      refine Ok_inB (vp_of (by omega) (by omega)) ?_
      refine Ok_inB (vp_of (by omega) (by omega)) ?_
      refine Ok_inB (vp_of (by omega) (by omega)) ?_
      refine Ok_bind (widen_iv hI en) (fun z323 hz323 => ?_)
      have sm := sim_widen hz321 hz323 hdo hre hRo
      refine go _ _ _ _ _ _ _ _ _ _ _ _ _ _ _ _ _ _ _ _ _ _ _ _ _ _ _ _ _ _ _ _ _ _ _ ⟨?_, ?_, ?_, ?_, ?_, ?_, ?_, ?_, ?_, ?_, ?_, ?_, ?_, ?_⟩ <;> first | assumption | exact sm.1 | exact sm.2.1 | exact sm.2.2.1 | exact sm.2.2.2 | exact ri_widen hI en es eg hz323
    refine Ok_if (fun _ => ?_) (fun _ => ?_)
    · refine Ok_inB (vp_of (by omega) (by omega)) ?_
      refine Ok_bind (ccircle_iv hI hRo hFl en2) (fun z324 hz324 => ?_)
      refine Ok_inB (vp_of (by omega) (by omega)) ?_
      refine Ok_bind (circle_iv hI en) (fun z326 hz326 => ?_)
      have sm := sim_circle hz324 hz326 hdo hre hRo
      refine go _ _ _ _ _ _ _ _ _ _ _ _ _ _ _ _ _ _ _ _ _ _ _ _ _ _ _ _ _ _ _ _ _ _ _ ⟨?_, ?_, ?_, ?_, ?_, ?_, ?_, ?_, ?_, ?_, ?_, ?_, ?_, ?_⟩ <;> first | assumption | exact sm.1 | exact sm.2.1 | exact sm.2.2.1 | exact sm.2.2.2 | exact ri_circle hI en es eg hz326
    refine Ok_if (fun _ => ?_) (fun _ => ?_)
    · refine Ok_inB (vp_of (by omega) (by omega)) ?_
      refine Ok_bind (cstrew_iv (F := f305) hI hRo en2) (fun z327 hz327 => ?_)
      refine Ok_inB (vp_of (by omega) (by omega)) ?_
      refine Ok_bind (strew_iv hI en) (fun z329 hz329 => ?_)
      have sm := sim_strew hI.1.2 hz327 hz329 hdo hRo hFl
      refine go _ _ _ _ _ _ _ _ _ _ _ _ _ _ _ _ _ _ _ _ _ _ _ _ _ _ _ _ _ _ _ _ _ _ _ ⟨?_, ?_, ?_, ?_, ?_, ?_, ?_, ?_, ?_, ?_, ?_, ?_, ?_, ?_⟩ <;> first | assumption | exact sm.1 | exact sm.2.1 | exact sm.2.2.1 | exact sm.2.2.2 | exact ri_strew hI en es eg hz329
    refine Ok_if (fun _ => ?_) (fun _ => ?_)
    · refine Ok_bind (cturnRound_iv hI hRo hFl en2 eg2) (fun z330 hz330 => ?_)
      refine Ok_bind (turnRound_iv hI en eg) (fun z331 hz331 => ?_)
      have sm := sim_turn hz330 hz331 hdo
      refine go _ _ _ _ _ _ _ _ _ _ _ _ _ _ _ _ _ _ _ _ _ _ _ _ _ _ _ _ _ _ _ _ _ _ _ ⟨?_, ?_, ?_, ?_, ?_, ?_, ?_, ?_, ?_, ?_, ?_, ?_, ?_, ?_⟩ <;> first | assumption | exact sm.1 | exact sm.2.1 | exact sm.2.2.1 | exact sm.2.2.2 | exact ri_turn hI en es eg hz331
    refine Ok_if (fun _ => ?_) (fun _ => ?_)
    · refine Ok_inB (vp_of (by omega) (by omega)) ?_
      refine Ok_inB (vp_of (by omega) (by omega)) ?_
      refine Ok_bind (cswapL_iv hI hRo hFl en2 es2 eg2) (fun z332 hz332 => ?_)
      refine Ok_inB (vp_of (by omega) (by omega)) ?_
      refine Ok_inB (vp_of (by omega) (by omega)) ?_
      refine Ok_bind (swap_iv hI en es eg) (fun z334 hz334 => ?_)
      have sm := sim_swap hz332 hz334 hdo hso hgo hRo hFl
      refine go _ _ _ _ _ _ _ _ _ _ _ _ _ _ _ _ _ _ _ _ _ _ _ _ _ _ _ _ _ _ _ _ _ _ _ ⟨?_, ?_, ?_, ?_, ?_, ?_, ?_, ?_, ?_, ?_, ?_, ?_, ?_, ?_⟩ <;> first | assumption | exact sm.1 | exact sm.2.1 | exact sm.2.2.1 | exact sm.2.2.2.1 | exact sm.2.2.2.2.1 | exact sm.2.2.2.2.2 | exact ri_swap hI en es eg hz334
    refine Ok_if (fun _ => ?_) (fun _ => ?_)
    · refine Ok_inB (vp_of (by omega) (by omega)) ?_
      refine Ok_bind (cstepL_iv hI hRo hFl en2 es2 eg2 hi282 hi283) (fun z337 hz337 => ?_)
      refine Ok_inB (vp_of (by omega) (by omega)) ?_
      refine Ok_bind (step_iv hI en es eg) (fun z339 hz339 => ?_)
      have sm := sim_step hz337.1 hz339 hdo hFl
      refine go _ _ _ _ _ _ _ _ _ _ _ _ _ _ _ _ _ _ _ _ _ _ _ _ _ _ _ _ _ _ _ _ _ _ _ ⟨?_, ?_, ?_, ?_, ?_, ?_, ?_, ?_, ?_, ?_, ?_, ?_, ?_, ?_⟩ <;> first | assumption | exact hz337.2.1 | exact hz337.2.2 | exact sm.1 | exact sm.2.1 | exact sm.2.2 | exact ri_step hI en es eg hz339
    refine Ok_if (fun _ => ?_) (fun _ => ?_)
    · refine Ok_inB (vp_of (by omega) (by omega)) ?_
      refine Ok_bind (cfillL_iv hI hRo hFl en2 es2 eg2 hi282 hi283) (fun z340 hz340 => ?_)
      refine Ok_inB (vp_of (by omega) (by omega)) ?_
      refine Ok_bind (fill_iv hI en es eg) (fun z342 hz342 => ?_)
      have sm := sim_fill hI.1.2 hz340.1 hz342 hdo hFl
      refine go _ _ _ _ _ _ _ _ _ _ _ _ _ _ _ _ _ _ _ _ _ _ _ _ _ _ _ _ _ _ _ _ _ _ _ ⟨?_, ?_, ?_, ?_, ?_, ?_, ?_, ?_, ?_, ?_, ?_, ?_, ?_, ?_⟩ <;> first | assumption | exact hz340.2.1 | exact hz340.2.2 | exact sm.1 | exact sm.2.1 | exact sm.2.2 | exact ri_fill hI en es eg hz342
    refine Ok_if (fun _ => ?_) (fun _ => ?_)
    · refine Ok_inB (vp_of (by omega) (by omega)) ?_
      refine Ok_inB (vp_of (by omega) (by omega)) ?_
      refine Ok_bind (csend_iv hI hRo hFl en2 es2 eg2) (fun z343 hz343 => ?_)
      refine Ok_inB (vp_of (by omega) (by omega)) ?_
      refine Ok_inB (vp_of (by omega) (by omega)) ?_
      refine Ok_bind (send_iv hI en es eg) (fun z345 hz345 => ?_)
      have sm := sim_send hI.1.2 hI.2.1.1 hz343 hz345 hdo hre hFl
      refine go _ _ _ _ _ _ _ _ _ _ _ _ _ _ _ _ _ _ _ _ _ _ _ _ _ _ _ _ _ _ _ _ _ _ _ ⟨?_, ?_, ?_, ?_, ?_, ?_, ?_, ?_, ?_, ?_, ?_, ?_, ?_, ?_⟩ <;> first | assumption | exact sm.1 | exact sm.2.1 | exact sm.2.2.1 | exact sm.2.2.2 | exact ri_send hI en es eg hz345
    refine Ok_if (fun _ => ?_) (fun _ => ?_)
    · refine Ok_inB (vp_of (by omega) (by omega)) ?_
      refine Ok_inB (vp_of (by omega) (by omega)) ?_
      refine Ok_inB (vp_of (by omega) (by omega)) ?_
      refine Ok_inB (vp_of (by omega) (by omega)) ?_
      refine Ok_bind (cround_iv hI hRo hFl en2) (fun z346 hz346 => ?_)
      refine Ok_inB (vp_of (by omega) (by omega)) ?_
      refine Ok_inB (vp_of (by omega) (by omega)) ?_
      refine Ok_inB (vp_of (by omega) (by omega)) ?_
      refine Ok_inB (vp_of (by omega) (by omega)) ?_
      refine Ok_bind (round_iv hI en) (fun z348 hz348 => ?_)
      have sm := sim_round hI.1.2 hz346 hz348 hdo hre hFl
      refine go _ _ _ _ _ _ _ _ _ _ _ _ _ _ _ _ _ _ _ _ _ _ _ _ _ _ _ _ _ _ _ _ _ _ _ ⟨?_, ?_, ?_, ?_, ?_, ?_, ?_, ?_, ?_, ?_, ?_, ?_, ?_, ?_⟩ <;> first | assumption | exact sm.1 | exact sm.2.1 | exact sm.2.2.1 | exact sm.2.2.2 | exact ri_round hI en es eg hz348
    refine Ok_if (fun _ => ?_) (fun _ => ?_)
    · refine Ok_bind (cpeel_iv hI hFl en2 es2 eg2 hi288) (fun z349 hz349 => ?_)
      refine Ok_bind (peel_iv hI en es eg) (fun z350 hz350 => ?_)
      have sm := sim_peel hI.2.1.1 hz349.1 hz350 hdo
      refine go _ _ _ _ _ _ _ _ _ _ _ _ _ _ _ _ _ _ _ _ _ _ _ _ _ _ _ _ _ _ _ _ _ _ _ ⟨?_, ?_, ?_, ?_, ?_, ?_, ?_, ?_, ?_, ?_, ?_, ?_, ?_, ?_⟩ <;> first | assumption | exact hz349.2 | exact sm.1 | exact sm.2.1 | exact sm.2.2 | exact ri_peel hI en es eg hz350
    refine Ok_if (fun _ => ?_) (fun _ => ?_)
    · refine Ok_bind (cempty_iv hI hFl en2 es2) (fun z351 hz351 => ?_)
      refine Ok_bind (empty_iv hI en es) (fun z352 hz352 => ?_)
      have sm := sim_empty hz351 hz352 hdo
      refine go _ _ _ _ _ _ _ _ _ _ _ _ _ _ _ _ _ _ _ _ _ _ _ _ _ _ _ _ _ _ _ _ _ _ _ ⟨?_, ?_, ?_, ?_, ?_, ?_, ?_, ?_, ?_, ?_, ?_, ?_, ?_, ?_⟩ <;> first | assumption | exact sm.1 | exact sm.2.1 | exact sm.2.2 | exact ri_empty hI en es eg hz352
    refine Ok_if (fun _ => ?_) (fun _ => ?_)
    · refine Ok_inB (vp_of (by omega) (by omega)) ?_
      refine Ok_bind (ok_L_told i272 i273 i274 f275 l306 (xs (i268 + (1 : Int32)).toNatClampNeg) (by assumption)) (fun z353 hz353 => ?_)
      refine Ok_inB (vp_of (by omega) (by omega)) ?_
      refine Ok_bind (ok_X8_told i295 i298 i299 f304 (xs (i268 + (1 : Int32)).toNatClampNeg) (by assumption) (by assumption) (by assumption)) (fun z355 hz355 => ?_)
      refine go _ _ _ _ _ _ _ _ _ _ _ _ _ _ _ _ _ _ _ _ _ _ _ _ _ _ _ _ _ _ _ _ _ _ _ ⟨?_, ?_, ?_, ?_, ?_, ?_, ?_, ?_, ?_, ?_, ?_, ?_, ?_, ?_⟩ <;> first | assumption
    refine Ok_if (fun _ => ?_) (fun _ => ?_)
    · refine Ok_inB (vp_of (by omega) (by omega)) ?_
      refine Ok_inB (vp_of (by omega) (by omega)) ?_
      refine Ok_inB (vp_of (by omega) (by omega)) ?_
      refine Ok_bind (ok_L_pair i272 f275 f276 l306 (xs (i268 + (1 : Int32)).toNatClampNeg) (xs (i268 + (2 : Int32)).toNatClampNeg) (xs (i268 + (3 : Int32)).toNatClampNeg) (by assumption)) (fun z356 hz356 => ?_)
      refine Ok_inB (vp_of (by omega) (by omega)) ?_
      refine Ok_inB (vp_of (by omega) (by omega)) ?_
      refine Ok_inB (vp_of (by omega) (by omega)) ?_
      refine Ok_bind (ok_X8_pair i295 f304 f305 (xs (i268 + (1 : Int32)).toNatClampNeg) (xs (i268 + (2 : Int32)).toNatClampNeg) (xs (i268 + (3 : Int32)).toNatClampNeg) (by assumption)) (fun z358 hz358 => ?_)
      refine go _ _ _ _ _ _ _ _ _ _ _ _ _ _ _ _ _ _ _ _ _ _ _ _ _ _ _ _ _ _ _ _ _ _ _ ⟨?_, ?_, ?_, ?_, ?_, ?_, ?_, ?_, ?_, ?_, ?_, ?_, ?_, ?_⟩ <;> first | assumption
    refine Ok_if (fun _ => ?_) (fun _ => ?_)
    · refine Ok_inB (vp_of (by omega) (by omega)) ?_
      refine Ok_inB (vp_of (by omega) (by omega)) ?_
      refine Ok_bind (ok_L_ofPlace i272 f275 f276 l306 (xs (i268 + (1 : Int32)).toNatClampNeg) (xs (i268 + (2 : Int32)).toNatClampNeg) (by assumption)) (fun z359 hz359 => ?_)
      refine Ok_inB (vp_of (by omega) (by omega)) ?_
      refine Ok_inB (vp_of (by omega) (by omega)) ?_
      refine Ok_bind (ok_X8_ofPlace i295 f304 f305 (xs (i268 + (1 : Int32)).toNatClampNeg) (xs (i268 + (2 : Int32)).toNatClampNeg) (by assumption)) (fun z361 hz361 => ?_)
      refine go _ _ _ _ _ _ _ _ _ _ _ _ _ _ _ _ _ _ _ _ _ _ _ _ _ _ _ _ _ _ _ _ _ _ _ ⟨?_, ?_, ?_, ?_, ?_, ?_, ?_, ?_, ?_, ?_, ?_, ?_, ?_, ?_⟩ <;> first | assumption
    refine Ok_if (fun _ => ?_) (fun _ => ?_)
    · refine Ok_inB (vp_of (by omega) (by omega)) ?_
      refine Ok_bind (ok_L_roomText i272 f275 i291 i292 n293 f294 (xs (i268 + (1 : Int32)).toNatClampNeg) (by assumption) (by assumption)) (fun z362 hz362 => ?_)
      refine Ok_inB (vp_of (by omega) (by omega)) ?_
      refine Ok_bind (roomText_iv hI en) (fun z365 hz365 => ?_)
      refine go _ _ _ _ _ _ _ _ _ _ _ _ _ _ _ _ _ _ _ _ _ _ _ _ _ _ _ _ _ _ _ _ _ _ _ ⟨?_, ?_, ?_, ?_, ?_, ?_, ?_, ?_, ?_, ?_, ?_, ?_, ?_, ?_⟩ <;> first | assumption | exact hz362
    refine Ok_if (fun _ => ?_) (fun _ => ?_)
    · refine Ok_inB (vp_of (by omega) (by omega)) ?_
      refine Ok_bind (ok_L_cut i272 i273 i274 f275 l306 (xs (i268 + (1 : Int32)).toNatClampNeg) (by assumption)) (fun z367 hz367 => ?_)
      refine Ok_inB (vp_of (by omega) (by omega)) ?_
      refine Ok_bind (ok_X8_cut i295 i298 i299 f304 (xs (i268 + (1 : Int32)).toNatClampNeg) (by assumption) (by assumption) (by assumption)) (fun z369 hz369 => ?_)
      refine go _ _ _ _ _ _ _ _ _ _ _ _ _ _ _ _ _ _ _ _ _ _ _ _ _ _ _ _ _ _ _ _ _ _ _ ⟨?_, ?_, ?_, ?_, ?_, ?_, ?_, ?_, ?_, ?_, ?_, ?_, ?_, ?_⟩ <;> first | assumption
    refine Ok_if (fun _ => ?_) (fun _ => ?_)
    · refine Ok_bind (ok_X6_least i272 i273 i274 f275 (by assumption)) (fun z370 hz370 => ?_)
      refine Ok_bind (ok_X8_least_ i295 i298 i299 f304 (by assumption) (by assumption) (by assumption)) (fun z371 hz371 => ?_)
      refine go _ _ _ _ _ _ _ _ _ _ _ _ _ _ _ _ _ _ _ _ _ _ _ _ _ _ _ _ _ _ _ _ _ _ _ ⟨?_, ?_, ?_, ?_, ?_, ?_, ?_, ?_, ?_, ?_, ?_, ?_, ?_, ?_⟩ <;> first | assumption
    refine Ok_if (fun _ => ?_) (fun _ => ?_)
    · refine Ok_inB (vp_of (by omega) (by omega)) ?_
      refine Ok_bind (ok_L_isLeast i272 i273 i274 f275 l306 (xs (i268 + (1 : Int32)).toNatClampNeg) (by assumption)) (fun z372 hz372 => ?_)
      refine Ok_inB (vp_of (by omega) (by omega)) ?_
      refine Ok_bind (ok_X8_isLeast i295 i298 i299 f304 (xs (i268 + (1 : Int32)).toNatClampNeg) (by assumption) (by assumption) (by assumption)) (fun z374 hz374 => ?_)
      refine go _ _ _ _ _ _ _ _ _ _ _ _ _ _ _ _ _ _ _ _ _ _ _ _ _ _ _ _ _ _ _ _ _ _ _ ⟨?_, ?_, ?_, ?_, ?_, ?_, ?_, ?_, ?_, ?_, ?_, ?_, ?_, ?_⟩ <;> first | assumption
    refine Ok_if (fun _ => ?_) (fun _ => ?_)
    · refine Ok_bind (ok_X6_leasts i272 i273 i274 f275 (by assumption)) (fun z375 hz375 => ?_)
      refine Ok_bind (ok_X8_leasts i295 i298 i299 f304 (by assumption) (by assumption) (by assumption)) (fun z376 hz376 => ?_)
      refine go _ _ _ _ _ _ _ _ _ _ _ _ _ _ _ _ _ _ _ _ _ _ _ _ _ _ _ _ _ _ _ _ _ _ _ ⟨?_, ?_, ?_, ?_, ?_, ?_, ?_, ?_, ?_, ?_, ?_, ?_, ?_, ?_⟩ <;> first | assumption
    refine Ok_if (fun _ => ?_) (fun _ => ?_)
    · refine Ok_inB (vp_of (by omega) (by omega)) ?_
      refine Ok_bind (ok_L_nthLeast i272 i273 i274 f275 l306 (xs (i268 + (1 : Int32)).toNatClampNeg) (by assumption)) (fun z377 hz377 => ?_)
      refine Ok_inB (vp_of (by omega) (by omega)) ?_
      refine Ok_bind (ok_X8_nthLeast i295 i298 i299 f304 (xs (i268 + (1 : Int32)).toNatClampNeg) (by assumption) (by assumption) (by assumption)) (fun z379 hz379 => ?_)
      refine go _ _ _ _ _ _ _ _ _ _ _ _ _ _ _ _ _ _ _ _ _ _ _ _ _ _ _ _ _ _ _ _ _ _ _ ⟨?_, ?_, ?_, ?_, ?_, ?_, ?_, ?_, ?_, ?_, ?_, ?_, ?_, ?_⟩ <;> first | assumption
    refine Ok_if (fun _ => ?_) (fun _ => ?_)
    · refine Ok_inB (vp_of (by omega) (by omega)) ?_
      refine Ok_jn (fun k380 wk380 => ?_)
      have go2 : ∀ (i382 : Int32), Ok (k380 i382) (fun _ => True) := by
        intro i382
        rw [wk380]
        show Ok ((fX6_end i272 i273 i274 f275 i382).bind (fun z383 => inB (i268 + (1 : Int32)) L (jn (fun (i386 : Int32) => (fX8_end i295 i298 i299 f304 i386).bind (fun z387 => k308 i269 i270 i271 i272 i273 i274 f275 f276 i277 i278 i279 f280 f281 i282 i283 f284 f285 i286 i287 i288 f289 i291 i292 n293 f294 i295 i298 i299 i300 i301 i302 (0 : Int32) f304 f305 l306)) (fun (k384 : Int32 → Option Unit) => if (xs (i268 + (1 : Int32)).toNatClampNeg) = (0 : Int32) then (k384 (0 : Int32)) else (k384 (1 : Int32)))))) _
        refine Ok_bind (ok_X6_end i272 i273 i274 f275 i382 (by assumption)) (fun z383 hz383 => ?_)
        refine Ok_inB (vp_of (by omega) (by omega)) ?_
        refine Ok_jn (fun k384 wk384 => ?_)
        have go2 : ∀ (i386 : Int32), Ok (k384 i386) (fun _ => True) := by
          intro i386
          rw [wk384]
          show Ok ((fX8_end i295 i298 i299 f304 i386).bind (fun z387 => k308 i269 i270 i271 i272 i273 i274 f275 f276 i277 i278 i279 f280 f281 i282 i283 f284 f285 i286 i287 i288 f289 i291 i292 n293 f294 i295 i298 i299 i300 i301 i302 (0 : Int32) f304 f305 l306)) _
          refine Ok_bind (ok_X8_end i295 i298 i299 f304 i386 (by assumption) (by assumption) (by assumption)) (fun z387 hz387 => ?_)
          refine go _ _ _ _ _ _ _ _ _ _ _ _ _ _ _ _ _ _ _ _ _ _ _ _ _ _ _ _ _ _ _ _ _ _ _ ⟨?_, ?_, ?_, ?_, ?_, ?_, ?_, ?_, ?_, ?_, ?_, ?_, ?_, ?_⟩ <;> first | assumption
        exact Ok_if (fun _ => go2 _) (fun _ => go2 _)
      exact Ok_if (fun _ => go2 _) (fun _ => go2 _)
    refine Ok_if (fun _ => ?_) (fun _ => ?_)
    · refine Ok_bind (ok_X6_value i272 i273 f276 (by assumption)) (fun z388 hz388 => ?_)
      refine Ok_bind (ok_X8_value i295 i298 f305 (by assumption) (by assumption)) (fun z389 hz389 => ?_)
      refine go _ _ _ _ _ _ _ _ _ _ _ _ _ _ _ _ _ _ _ _ _ _ _ _ _ _ _ _ _ _ _ _ _ _ _ ⟨?_, ?_, ?_, ?_, ?_, ?_, ?_, ?_, ?_, ?_, ?_, ?_, ?_, ?_⟩ <;> first | assumption
    refine Ok_if (fun _ => ?_) (fun _ => ?_)
    · refine Ok_inB (vp_of (by omega) (by omega)) ?_
      refine Ok_bind (ok2_L_most i272 i273 i274 f275 f276 i277 i278 i279 f280 f281 i282 i283 f284 f285 l306 (xs (i268 + (1 : Int32)).toNatClampNeg) (by assumption) (by assumption) (by assumption)) (fun z390 hz390 => ?_)
      refine Ok_inB (vp_of (by omega) (by omega)) ?_
      refine Ok_bind (ok_X8_most i295 i298 i299 f304 (xs (i268 + (1 : Int32)).toNatClampNeg) (by assumption) (by assumption) (by assumption)) (fun z392 hz392 => ?_)
      refine go _ _ _ _ _ _ _ _ _ _ _ _ _ _ _ _ _ _ _ _ _ _ _ _ _ _ _ _ _ _ _ _ _ _ _ ⟨?_, ?_, ?_, ?_, ?_, ?_, ?_, ?_, ?_, ?_, ?_, ?_, ?_, ?_⟩ <;> first | assumption | exact hz390.1 | exact hz390.2
    refine Ok_if (fun _ => ?_) (fun _ => ?_)
    · refine Ok_bind (ok_X6_isMost i272 i273 i274 f275 f276 f280 f281 i282 i283 f284 f285 (by assumption) (by assumption) (by assumption)) (fun z393 hz393 => ?_)
      refine Ok_bind (ok_X8_isMost i295 i298 i299 f304 f305 (by assumption) (by assumption) (by assumption)) (fun z394 hz394 => ?_)
      refine go _ _ _ _ _ _ _ _ _ _ _ _ _ _ _ _ _ _ _ _ _ _ _ _ _ _ _ _ _ _ _ _ _ _ _ ⟨?_, ?_, ?_, ?_, ?_, ?_, ?_, ?_, ?_, ?_, ?_, ?_, ?_, ?_⟩ <;> first | assumption | exact hz393.1 | exact hz393.2
    refine Ok_if (fun _ => ?_) (fun _ => ?_)
    · refine Ok_inB (vp_of (by omega) (by omega)) ?_
      refine Ok_bind (ok_L_track i272 i273 i274 f275 f276 i282 i283 f284 f285 i291 i292 n293 f294 (xs (i268 + (1 : Int32)).toNatClampNeg) (by assumption) (by assumption) (by assumption) (by assumption)) (fun z395 hz395 => ?_)
      refine Ok_inB (vp_of (by omega) (by omega)) ?_
      refine Ok_bind (track_iv hI en es eg) (fun z398 hz398 => ?_)
      refine go _ _ _ _ _ _ _ _ _ _ _ _ _ _ _ _ _ _ _ _ _ _ _ _ _ _ _ _ _ _ _ _ _ _ _ ⟨?_, ?_, ?_, ?_, ?_, ?_, ?_, ?_, ?_, ?_, ?_, ?_, ?_, ?_⟩ <;> first | assumption | exact hz395.1 | exact hz395.2.1 | exact hz395.2.2
    refine Ok_if (fun _ => ?_) (fun _ => ?_)
    · refine Ok_inB (vp_of (by omega) (by omega)) ?_
      refine Ok_bind (ok_L_layer i272 i273 f275 f276 i282 f285 l306 (xs (i268 + (1 : Int32)).toNatClampNeg) (by assumption) (by assumption)) (fun z400 hz400 => ?_)
      refine Ok_inB (vp_of (by omega) (by omega)) ?_
      refine Ok_bind (ok_X8_layer i295 i298 f304 f305 (xs (i268 + (1 : Int32)).toNatClampNeg) (by assumption) (by assumption)) (fun z402 hz402 => ?_)
      refine go _ _ _ _ _ _ _ _ _ _ _ _ _ _ _ _ _ _ _ _ _ _ _ _ _ _ _ _ _ _ _ _ _ _ _ ⟨?_, ?_, ?_, ?_, ?_, ?_, ?_, ?_, ?_, ?_, ?_, ?_, ?_, ?_⟩ <;> first | assumption | exact hz400
    refine Ok_if (fun _ => ?_) (fun _ => ?_)
    · refine Ok_inB (vp_of (by omega) (by omega)) ?_
      refine Ok_bind (ok_L_through i272 i273 i274 f276 l306 (xs (i268 + (1 : Int32)).toNatClampNeg) (by assumption)) (fun z403 hz403 => ?_)
      refine Ok_inB (vp_of (by omega) (by omega)) ?_
      refine Ok_bind (ok_X8_through_ i295 i298 i299 f305 (xs (i268 + (1 : Int32)).toNatClampNeg) (by assumption) (by assumption) (by assumption)) (fun z405 hz405 => ?_)
      refine go _ _ _ _ _ _ _ _ _ _ _ _ _ _ _ _ _ _ _ _ _ _ _ _ _ _ _ _ _ _ _ _ _ _ _ ⟨?_, ?_, ?_, ?_, ?_, ?_, ?_, ?_, ?_, ?_, ?_, ?_, ?_, ?_⟩ <;> first | assumption
    refine Ok_if (fun _ => ?_) (fun _ => ?_)
    · refine Ok_inB (vp_of (by omega) (by omega)) ?_
      refine Ok_jn (fun k406 wk406 => ?_)
      have go2 : ∀ (i408 : Int32), Ok (k406 i408) (fun _ => True) := by
        intro i408
        rw [wk406]
        show Ok ((fX6_parts i272 i273 i274 f275 f276 f280 f281 i286 i287 i288 f289 i408).bind (fun z409 => inB (i268 + (1 : Int32)) L (jn (fun (i412 : Int32) => (fX8_parts i295 i298 i299 f305 i412).bind (fun z413 => k308 i269 i270 i271 i272 i273 i274 f275 f276 i272 i273 i274 z409.2.1 z409.2.2.1 i282 i283 f284 f285 z409.2.2.2.1 z409.2.2.2.2.1 z409.2.2.2.2.2.1 z409.2.2.2.2.2.2 i291 i292 n293 f294 i295 i298 i299 i300 i301 i302 (0 : Int32) f304 f305 l306)) (fun (k410 : Int32 → Option Unit) => if (xs (i268 + (1 : Int32)).toNatClampNeg) = (0 : Int32) then (k410 (0 : Int32)) else (k410 (1 : Int32)))))) _
        refine Ok_bind (ok_X6_parts i272 i273 i274 f275 f276 f280 f281 i286 i287 i288 f289 i408 (by assumption) (by assumption)) (fun z409 hz409 => ?_)
        refine Ok_inB (vp_of (by omega) (by omega)) ?_
        refine Ok_jn (fun k410 wk410 => ?_)
        have go2 : ∀ (i412 : Int32), Ok (k410 i412) (fun _ => True) := by
          intro i412
          rw [wk410]
          show Ok ((fX8_parts i295 i298 i299 f305 i412).bind (fun z413 => k308 i269 i270 i271 i272 i273 i274 f275 f276 i272 i273 i274 z409.2.1 z409.2.2.1 i282 i283 f284 f285 z409.2.2.2.1 z409.2.2.2.2.1 z409.2.2.2.2.2.1 z409.2.2.2.2.2.2 i291 i292 n293 f294 i295 i298 i299 i300 i301 i302 (0 : Int32) f304 f305 l306)) _
          refine Ok_bind (ok_X8_parts i295 i298 i299 f305 i412 (by assumption) (by assumption) (by assumption) (by assumption)) (fun z413 hz413 => ?_)
          refine go _ _ _ _ _ _ _ _ _ _ _ _ _ _ _ _ _ _ _ _ _ _ _ _ _ _ _ _ _ _ _ _ _ _ _ ⟨?_, ?_, ?_, ?_, ?_, ?_, ?_, ?_, ?_, ?_, ?_, ?_, ?_, ?_⟩ <;> first | assumption | exact hz409
        exact Ok_if (fun _ => go2 _) (fun _ => go2 _)
      exact Ok_if (fun _ => go2 _) (fun _ => go2 _)
    refine Ok_if (fun _ => ?_) (fun _ => ?_)
    · refine Ok_bind (ok_X6_partsText i272 i273 i274 f275 f276 f280 f281 i286 i287 i288 f289 i291 i292 n293 f294 (by assumption) (by assumption) (by assumption)) (fun z414 hz414 => ?_)
      refine Ok_bind (ok_X8_partsText i295 i298 i299 f305 (by assumption) (by assumption) (by assumption) (by assumption)) (fun z417 hz417 => ?_)
      refine go _ _ _ _ _ _ _ _ _ _ _ _ _ _ _ _ _ _ _ _ _ _ _ _ _ _ _ _ _ _ _ _ _ _ _ ⟨?_, ?_, ?_, ?_, ?_, ?_, ?_, ?_, ?_, ?_, ?_, ?_, ?_, ?_⟩ <;> first | assumption | exact hz414.1 | exact hz414.2
    refine Ok_if (fun _ => ?_) (fun _ => ?_)
    · refine Ok_inB (vp_of (by omega) (by omega)) ?_
      refine Ok_bind (ok_L_flowText i272 f276 i291 i292 n293 f294 (xs (i268 + (1 : Int32)).toNatClampNeg) (by assumption) (by assumption)) (fun z419 hz419 => ?_)
      refine Ok_inB (vp_of (by omega) (by omega)) ?_
      refine Ok_bind (flowText_iv hI en) (fun z422 hz422 => ?_)
      refine go _ _ _ _ _ _ _ _ _ _ _ _ _ _ _ _ _ _ _ _ _ _ _ _ _ _ _ _ _ _ _ _ _ _ _ ⟨?_, ?_, ?_, ?_, ?_, ?_, ?_, ?_, ?_, ?_, ?_, ?_, ?_, ?_⟩ <;> first | assumption | exact hz419
    refine Ok_if (fun _ => ?_) (fun _ => ?_)
    · refine Ok_inB (vp_of (by omega) (by omega)) ?_
      refine Ok_inB (vp_of (by omega) (by omega)) ?_
      refine Ok_inB (vp_of (by omega) (by omega)) ?_
      refine Ok_bind (ok2_L_would i272 i273 i274 f275 f276 i277 i278 i279 f280 f281 i282 i283 f284 f285 l306 (xs (i268 + (1 : Int32)).toNatClampNeg) (xs (i268 + (2 : Int32)).toNatClampNeg) (xs (i268 + (3 : Int32)).toNatClampNeg) (by assumption) (by assumption) (by assumption)) (fun z424 hz424 => ?_)
      refine Ok_inB (vp_of (by omega) (by omega)) ?_
      refine Ok_inB (vp_of (by omega) (by omega)) ?_
      refine Ok_inB (vp_of (by omega) (by omega)) ?_
      refine Ok_bind (would_keep hI en es eg) (fun z426 hz426 => ?_)
      refine go _ _ _ _ _ _ _ _ _ _ _ _ _ _ _ _ _ _ _ _ _ _ _ _ _ _ _ _ _ _ _ _ _ _ _ ⟨?_, ?_, ?_, ?_, ?_, ?_, ?_, ?_, ?_, ?_, ?_, ?_, ?_, ?_⟩ <;> first | assumption | exact hz424.1 | exact hz424.2 | exact hRo.trans hz426.symm | exact ri_would hI en es eg hz426
    refine Ok_if (fun _ => ?_) (fun _ => ?_)
    · refine Ok_inB (vp_of (by omega) (by omega)) ?_
      refine Ok_inB (vp_of (by omega) (by omega)) ?_
      refine Ok_bind (ok2_L_between i272 f275 f276 i277 i278 i279 f280 f281 i282 i283 f284 f285 l306 (xs (i268 + (1 : Int32)).toNatClampNeg) (xs (i268 + (2 : Int32)).toNatClampNeg) (by assumption) (by assumption) (by assumption)) (fun z427 hz427 => ?_)
      refine Ok_inB (vp_of (by omega) (by omega)) ?_
      refine Ok_inB (vp_of (by omega) (by omega)) ?_
      refine Ok_bind (ok_X8_between i295 f304 (xs (i268 + (1 : Int32)).toNatClampNeg) (xs (i268 + (2 : Int32)).toNatClampNeg) (by assumption)) (fun z429 hz429 => ?_)
      refine go _ _ _ _ _ _ _ _ _ _ _ _ _ _ _ _ _ _ _ _ _ _ _ _ _ _ _ _ _ _ _ _ _ _ _ ⟨?_, ?_, ?_, ?_, ?_, ?_, ?_, ?_, ?_, ?_, ?_, ?_, ?_, ?_⟩ <;> first | assumption | exact hz427.1 | exact hz427.2
    refine Ok_if (fun _ => ?_) (fun _ => ?_)
    · refine Ok_bind (ok_X6_about i272 i273 i274 f275 f276 f280 f281 i282 i283 f284 f285 (by assumption) (by assumption) (by assumption)) (fun z430 hz430 => ?_)
      refine Ok_bind (ok_X8_about i295 i298 i299 f304 (by assumption) (by assumption) (by assumption)) (fun z431 hz431 => ?_)
      refine go _ _ _ _ _ _ _ _ _ _ _ _ _ _ _ _ _ _ _ _ _ _ _ _ _ _ _ _ _ _ _ _ _ _ _ ⟨?_, ?_, ?_, ?_, ?_, ?_, ?_, ?_, ?_, ?_, ?_, ?_, ?_, ?_⟩ <;> first | assumption | exact hz430.1 | exact hz430.2
    refine Ok_if (fun _ => ?_) (fun _ => ?_)
    · refine Ok_inB (vp_of (by omega) (by omega)) ?_
      refine Ok_bind (ok2_L_apart i272 i273 i274 f275 f276 i277 i278 i279 f280 f281 i282 i283 f284 f285 l306 (xs (i268 + (1 : Int32)).toNatClampNeg) (by assumption) (by assumption) (by assumption)) (fun z432 hz432 => ?_)
      refine Ok_inB (vp_of (by omega) (by omega)) ?_
      refine Ok_bind (ok_X8_apart i295 i298 i299 f304 (xs (i268 + (1 : Int32)).toNatClampNeg) (by assumption) (by assumption) (by assumption)) (fun z434 hz434 => ?_)
      refine go _ _ _ _ _ _ _ _ _ _ _ _ _ _ _ _ _ _ _ _ _ _ _ _ _ _ _ _ _ _ _ _ _ _ _ ⟨?_, ?_, ?_, ?_, ?_, ?_, ?_, ?_, ?_, ?_, ?_, ?_, ?_, ?_⟩ <;> first | assumption | exact hz432.1 | exact hz432.2
    refine Ok_if (fun _ => ?_) (fun _ => ?_)
    · refine Ok_inB (vp_of (by omega) (by omega)) ?_
      refine Ok_bind (chouse_iv _ _ _ _ _) (fun z435 hz435 => ?_)
      refine Ok_inB (vp_of (by omega) (by omega)) ?_
      refine Ok_bind (house_iv _ _ _ _) (fun z437 hz437 => ?_)
      have sm := sim_house hz435 hz437 hdo hre hkn
      refine cmp_thrown (sm.1) ?_
      show Ok (k308 i269 i270 i271 i272 i273 i274 f275 f276 i277 i278 i279 f280 f281 i282 i283 f284 f285 i286 i287 i288 f289 i291 i292 n293 f294 i295 i298 i299 i300 i301 i302 z437.2 f304 f305 z435.2) _
      refine go _ _ _ _ _ _ _ _ _ _ _ _ _ _ _ _ _ _ _ _ _ _ _ _ _ _ _ _ _ _ _ _ _ _ _ ⟨?_, ?_, ?_, ?_, ?_, ?_, ?_, ?_, ?_, ?_, ?_, ?_, ?_, ?_⟩ <;> first | assumption
    refine Ok_if (fun _ => ?_) (fun _ => ?_)
    · refine Ok_bind ((Ok_some rfl : Ok (some (i271 + (1 : Int32), i271 + (1 : Int32))) (fun z => z = (i271 + (1 : Int32), i271 + (1 : Int32))))) (fun z441 hz441 => ?_)
      refine Ok_bind ((Ok_some rfl : Ok (some (i302 + (1 : Int32), i302 + (1 : Int32))) (fun z => z = (i302 + (1 : Int32), i302 + (1 : Int32))))) (fun z442 hz442 => ?_)
      refine go _ _ _ _ _ _ _ _ _ _ _ _ _ _ _ _ _ _ _ _ _ _ _ _ _ _ _ _ _ _ _ _ _ _ _ ⟨?_, ?_, ?_, ?_, ?_, ?_, ?_, ?_, ?_, ?_, ?_, ?_, ?_, ?_⟩ <;> first | assumption | (rw [hz441, hz442, hkn])
    refine Ok_if (fun _ => ?_) (fun _ => ?_)
    · refine Ok_bind (ok_X6_isSound i272 i273 i274 f275 f276 f280 f281 i282 i283 f284 f285 i286 i287 i288 f289 (by assumption) (by assumption) (by assumption) (by assumption)) (fun z443 hz443 => ?_)
      refine Ok_bind (ok_X8_isSound i295 i298 i299 f304 f305 (by assumption) (by assumption) (by assumption) (by assumption)) (fun z444 hz444 => ?_)
      refine go _ _ _ _ _ _ _ _ _ _ _ _ _ _ _ _ _ _ _ _ _ _ _ _ _ _ _ _ _ _ _ _ _ _ _ ⟨?_, ?_, ?_, ?_, ?_, ?_, ?_, ?_, ?_, ?_, ?_, ?_, ?_, ?_⟩ <;> first | assumption | exact hz443.1 | exact hz443.2.1 | exact hz443.2.2
    refine Ok_if (fun _ => ?_) (fun _ => ?_)
    · refine Ok_bind (ok_X6_digest i269 i270 i271 i272 i273 i274 f275 f276 f280 f281 i282 i283 f284 f285 i286 i287 i288 f289 i291 i292 n293 f294 (by assumption) (by assumption) (by assumption) (by assumption) (by assumption)) (fun z445 hz445 => ?_)
      refine Ok_bind (ok_X8_digest i295 i298 i299 i300 i301 i302 f304 f305 (by assumption) (by assumption) (by assumption) (by assumption)) (fun z447 hz447 => ?_)
      refine go _ _ _ _ _ _ _ _ _ _ _ _ _ _ _ _ _ _ _ _ _ _ _ _ _ _ _ _ _ _ _ _ _ _ _ ⟨?_, ?_, ?_, ?_, ?_, ?_, ?_, ?_, ?_, ?_, ?_, ?_, ?_, ?_⟩ <;> first | assumption | exact hz445.1 | exact hz445.2.1 | exact hz445.2.2.1 | exact hz445.2.2.2
    refine go _ _ _ _ _ _ _ _ _ _ _ _ _ _ _ _ _ _ _ _ _ _ _ _ _ _ _ _ _ _ _ _ _ _ _ ⟨?_, ?_, ?_, ?_, ?_, ?_, ?_, ?_, ?_, ?_, ?_, ?_, ?_, ?_⟩ <;> first | assumption
theorem law_true {L : Nat} (hL : L ≤ 320) (xs : Nat → Int32) : fL_law L xs = some () := by
  have h : Ok (fL_law L xs) (fun _ => True) := by
    unfold fL_law
    refine Ok_bind cinit_iv (fun z2 h2 => Ok_bind (R := fun z => z = 5) ⟨_, x8_init, rfl⟩ (fun z23 h23 => Ok_bind (R := fun _ => True) ⟨_, rfl, trivial⟩ (fun z27 _ => ?_)))
    subst h23
    exact law_loop hL xs 66 _ _ _ _ _ _ _ _ _ _ _ _ _ _ _ _ _ _ _ _ _ _ _ _ _ _ _ _ _ _ _ _ _ _ _ _ ⟨by decide, by decide, by decide, by decide, CT_init, rfl, rfl, h2.1, rfl, rfl, rfl, zero_same h2.2.1 (fun _ _ _ _ => rfl), zero_same h2.2.2 (fun _ _ _ _ => rfl), ri_init⟩ ⟨by decide, by show (0 : Int) ≤ L; omega⟩ (by show (L : Int) - 0 < 5 * 66; omega)
  obtain ⟨z, h1, -⟩ := h
  rw [h1]
