/-! by program: the law's loop, with the whole relation of class and reference -/
def LF (i4 i14 i15 i20 i23 : Int32) (n24 : Nat) (f25 : Nat → Int32) (j1 j2 j3 j4 j5 : Int32) (f7 f8 : Nat → Int32) (i26 i27 i28 i29 i30 i31 : Int32) (f33 f34 : Nat → Int32) : Prop := (2 ≤ i4.toInt ∧ i4.toInt ≤ 9) ∧ (0 ≤ i14.toInt ∧ i14.toInt ≤ 9) ∧ (0 ≤ i15.toInt ∧ i15.toInt ≤ 10) ∧ (0 ≤ i20.toInt ∧ i20.toInt ≤ 10) ∧ CT n24 i23 f25 ∧ i4 = i26 ∧ j1 = i27 ∧ j2 = i28 ∧ j3 = i29 ∧ j4 = i30 ∧ j5 = i31 ∧ same f7 f33 ∧ same f8 f34 ∧ RIv i26 i27 i28 f33 f34
set_option maxRecDepth 20000 in
set_option maxHeartbeats 4000000 in
theorem law_loop {L : Nat} (hL : L ≤ 320) (xs : Nat → Int32) : ∀ (n : Nat) (i271 : Int32) (i272 : Int32) (i273 : Int32) (i274 : Int32) (i275 : Int32) (i276 : Int32) (i277 : Int32) (f278 : Nat → Int32) (f279 : Nat → Int32) (i280 : Int32) (i281 : Int32) (i282 : Int32) (f283 : Nat → Int32) (f284 : Nat → Int32) (i285 : Int32) (i286 : Int32) (f287 : Nat → Int32) (f288 : Nat → Int32) (i289 : Int32) (i290 : Int32) (i291 : Int32) (f292 : Nat → Int32) (i294 : Int32) (i295 : Int32) (n296 : Nat) (f297 : Nat → Int32) (i298 : Int32) (i301 : Int32) (i302 : Int32) (i303 : Int32) (i304 : Int32) (i305 : Int32) (i306 : Int32) (f307 : Nat → Int32) (f308 : Nat → Int32) (l309 : Int64), LF i275 i285 i286 i291 i295 n296 f297 i276 i277 i272 i273 i274 f278 f279 i298 i301 i302 i303 i304 i305 f307 f308 → (0 ≤ i271.toInt ∧ i271.toInt ≤ L) → (L : Int) - i271.toInt < 5 * n → Ok (LL_law_L27 L xs n i271 i272 i273 i274 i275 i276 i277 f278 f279 i280 i281 i282 f283 f284 i285 i286 f287 f288 i289 i290 i291 f292 i294 i295 n296 f297 i298 i301 i302 i303 i304 i305 i306 f307 f308 l309) (fun _ => True) := by
  intro n
  have eL := ofNat_iv (n := L) (by omega)
  have t5 : (5 : Int32).toInt = 5 := rfl
  have es5 : (Int32.ofNat L - (5 : Int32)).toInt = L - 5 := by rw [sub_iv (by omega) (by omega), eL, t5]
  induction n with
  | zero => intro i271 i272 i273 i274 i275 i276 i277 f278 f279 i280 i281 i282 f283 f284 i285 i286 f287 f288 i289 i290 i291 f292 i294 i295 n296 f297 i298 i301 i302 i303 i304 i305 i306 f307 f308 l309 _ h1 h2; omega
  | succ n ih =>
    intro i271 i272 i273 i274 i275 i276 i277 f278 f279 i280 i281 i282 f283 f284 i285 i286 f287 f288 i289 i290 i291 f292 i294 i295 n296 f297 i298 i301 i302 i303 i304 i305 i306 f307 f308 l309 hLF hix hms
    show Ok (BL_law_L27 L xs i271 i272 i273 i274 i275 i276 i277 f278 f279 i280 i281 i282 f283 f284 i285 i286 f287 f288 i289 i290 i291 f292 i294 i295 n296 f297 i298 i301 i302 i303 i304 i305 i306 f307 f308 l309 (fun i271 i272 i273 i274 i275 i276 i277 f278 f279 i280 i281 i282 f283 f284 i285 i286 f287 f288 i289 i290 i291 f292 i294 i295 n296 f297 i298 i301 i302 i303 i304 i305 i306 f307 f308 l309 => LL_law_L27 L xs n i271 i272 i273 i274 i275 i276 i277 f278 f279 i280 i281 i282 f283 f284 i285 i286 f287 f288 i289 i290 i291 f292 i294 i295 n296 f297 i298 i301 i302 i303 i304 i305 i306 f307 f308 l309)) _
    unfold BL_law_L27
    obtain ⟨hi275, hi285, hi286, hi291, hCT, hmm, hso, hgo, hdo, hre, hkn, hRo, hFl, hRI⟩ := hLF
    obtain ⟨hPF, hi298, hi301, hi302⟩ := hRI.x
    obtain ⟨nn, ss, gg, en, es, eg, hI⟩ := id hRI
    have en2 : i275.toInt = nn := by rw [hmm]; exact en
    have es2 : i276.toInt = ss := by rw [hso]; exact es
    have eg2 : i277.toInt = gg := by rw [hgo]; exact eg
    have hmany := hi275
    refine Ok_if (fun _ => Ok_some trivial) (fun hle => ?_)
    have hle := i32nlt hle
    have a1 : (i271 + (1 : Int32)).toInt = i271.toInt + 1 := add_iv (y := 1) (by have t : (1 : Int32).toInt = 1 := rfl; omega) (by have t : (1 : Int32).toInt = 1 := rfl; omega)
    have a2 : (i271 + (2 : Int32)).toInt = i271.toInt + 2 := add_iv (y := 2) (by have t : (2 : Int32).toInt = 2 := rfl; omega) (by have t : (2 : Int32).toInt = 2 := rfl; omega)
    have a3 : (i271 + (3 : Int32)).toInt = i271.toInt + 3 := add_iv (y := 3) (by have t : (3 : Int32).toInt = 3 := rfl; omega) (by have t : (3 : Int32).toInt = 3 := rfl; omega)
    have a4 : (i271 + (4 : Int32)).toInt = i271.toInt + 4 := add_iv (y := 4) (by have t : (4 : Int32).toInt = 4 := rfl; omega) (by have t : (4 : Int32).toInt = 4 := rfl; omega)
    have a5 : (i271 + (5 : Int32)).toInt = i271.toInt + 5 := add_iv (y := 5) (by omega) (by omega)
    refine Ok_inB (vp_of (by omega) (by omega)) (Ok_jn (fun k311 wk311 => ?_))
    have go : ∀ (i457 : Int32) (i458 : Int32) (i459 : Int32) (i460 : Int32) (i461 : Int32) (i462 : Int32) (f463 : Nat → Int32) (f464 : Nat → Int32) (i465 : Int32) (i466 : Int32) (i467 : Int32) (f468 : Nat → Int32) (f469 : Nat → Int32) (i470 : Int32) (i471 : Int32) (f472 : Nat → Int32) (f473 : Nat → Int32) (i474 : Int32) (i475 : Int32) (i476 : Int32) (f477 : Nat → Int32) (i478 : Int32) (i479 : Int32) (n480 : Nat) (f481 : Nat → Int32) (i482 : Int32) (i483 : Int32) (i484 : Int32) (i485 : Int32) (i486 : Int32) (i487 : Int32) (i488 : Int32) (f489 : Nat → Int32) (f490 : Nat → Int32) (l491 : Int64), LF i460 i470 i471 i476 i479 n480 f481 i461 i462 i457 i458 i459 f463 f464 i482 i483 i484 i485 i486 i487 f489 f490 → Ok (k311 i457 i458 i459 i460 i461 i462 f463 f464 i465 i466 i467 f468 f469 i470 i471 f472 f473 i474 i475 i476 f477 i478 i479 n480 f481 i482 i483 i484 i485 i486 i487 i488 f489 f490 l491) (fun _ => True) := by
      intro i457 i458 i459 i460 i461 i462 f463 f464 i465 i466 i467 f468 f469 i470 i471 f472 f473 i474 i475 i476 f477 i478 i479 n480 f481 i482 i483 i484 i485 i486 i487 i488 f489 f490 l491 hLF2
      rw [wk311]
      exact ih (i271 + (5 : Int32)) i457 i458 i459 i460 i461 i462 f463 f464 i465 i466 i467 f468 f469 i470 i471 f472 f473 i474 i475 i476 f477 i478 i479 n480 f481 i482 i483 i484 i485 i486 i487 i488 f489 f490 l491 hLF2 (by omega) (by omega)
    clear wk311
    refine Ok_if (fun _ => ?_) (fun _ => ?_)
    · refine Ok_inB (vp_of (by omega) (by omega)) ?_
      refine Ok_bind (cplaces_iv i272 i275 i276 i277 f278 f279 l309 (xs (i271 + (1 : Int32)).toNatClampNeg)) (fun z313 hz313 => ?_)
      refine Ok_inB (vp_of (by omega) (by omega)) ?_
      refine Ok_bind (ok_X8_places2 i298 i301 i302 i303 f307 f308 (xs (i271 + (1 : Int32)).toNatClampNeg)) (fun z315 hz315 => ?_)
      have sm := sim_places hz313 hz315 hdo hmm hso hgo hRo hFl hmany
      refine go _ _ _ _ _ _ _ _ _ _ _ _ _ _ _ _ _ _ _ _ _ _ _ _ _ _ _ _ _ _ _ _ _ _ _ ⟨?_, ?_, ?_, ?_, ?_, ?_, ?_, ?_, ?_, ?_, ?_, ?_, ?_, ?_⟩ <;> first | assumption | exact sm.1 | exact sm.2.1 | exact sm.2.2.1 | exact sm.2.2.2.1 | exact sm.2.2.2.2.1 | exact sm.2.2.2.2.2.1 | exact sm.2.2.2.2.2.2.1 | exact sm.2.2.2.2.2.2.2 | exact ri_places hI en es eg hz315
    refine Ok_if (fun _ => ?_) (fun _ => ?_)
    · refine Ok_inB (vp_of (by omega) (by omega)) ?_
      refine Ok_inB (vp_of (by omega) (by omega)) ?_
      refine Ok_bind (cends_iv hI hFl en2 es2) (fun z318 hz318 => ?_)
      refine Ok_inB (vp_of (by omega) (by omega)) ?_
      refine Ok_inB (vp_of (by omega) (by omega)) ?_
      refine Ok_bind (ends_iv hI en es) (fun z320 hz320 => ?_)
      have sm := sim_ends hz318 hz320 hdo hso hgo hFl
      refine go _ _ _ _ _ _ _ _ _ _ _ _ _ _ _ _ _ _ _ _ _ _ _ _ _ _ _ _ _ _ _ _ _ _ _ ⟨?_, ?_, ?_, ?_, ?_, ?_, ?_, ?_, ?_, ?_, ?_, ?_, ?_, ?_⟩ <;> first | assumption | exact sm.1 | exact sm.2.1 | exact sm.2.2.1 | exact sm.2.2.2.1 | exact sm.2.2.2.2 | exact ri_ends hI en es eg hz320
    refine Ok_if (fun _ => ?_) (fun _ => ?_)
    · refine Ok_inB (vp_of (by omega) (by omega)) ?_
      refine Ok_inB (vp_of (by omega) (by omega)) ?_
      refine Ok_inB (vp_of (by omega) (by omega)) ?_
      refine Ok_bind (croomL_iv hI hRo hFl en2) (fun z321 hz321 => ?_)
      refine Ok_inB (vp_of (by omega) (by omega)) ?_
      refine Ok_inB (vp_of (by omega) (by omega)) ?_
      refine Ok_inB (vp_of (by omega) (by omega)) ?_
      refine Ok_bind (room_iv hI en) (fun z323 hz323 => ?_)
      have sm := sim_room hz321 hz323 hdo hre hRo
      refine go _ _ _ _ _ _ _ _ _ _ _ _ _ _ _ _ _ _ _ _ _ _ _ _ _ _ _ _ _ _ _ _ _ _ _ ⟨?_, ?_, ?_, ?_, ?_, ?_, ?_, ?_, ?_, ?_, ?_, ?_, ?_, ?_⟩ <;> first | assumption | exact sm.1 | exact sm.2.1 | exact sm.2.2.1 | exact sm.2.2.2 | exact ri_room hI en es eg hz323
    refine Ok_if (fun _ => ?_) (fun _ => ?_)
    · refine Ok_inB (vp_of (by omega) (by omega)) ?_
      refine Ok_inB (vp_of (by omega) (by omega)) ?_
      refine Ok_inB (vp_of (by omega) (by omega)) ?_
      refine Ok_bind (cwiden_iv hI hRo hFl en2) (fun z324 hz324 => ?_)
      refine Ok_inB (vp_of (by omega) (by omega)) ?_
      refine Ok_inB (vp_of (by omega) (by omega)) ?_
      refine Ok_inB (vp_of (by omega) (by omega)) ?_
      refine Ok_bind (widen_iv hI en) (fun z326 hz326 => ?_)
      have sm := sim_widen hz324 hz326 hdo hre hRo
      refine go _ _ _ _ _ _ _ _ _ _ _ _ _ _ _ _ _ _ _ _ _ _ _ _ _ _ _ _ _ _ _ _ _ _ _ ⟨?_, ?_, ?_, ?_, ?_, ?_, ?_, ?_, ?_, ?_, ?_, ?_, ?_, ?_⟩ <;> first | assumption | exact sm.1 | exact sm.2.1 | exact sm.2.2.1 | exact sm.2.2.2 | exact ri_widen hI en es eg hz326
    refine Ok_if (fun _ => ?_) (fun _ => ?_)
    · refine Ok_inB (vp_of (by omega) (by omega)) ?_
      refine Ok_bind (ccircle_iv hI hRo hFl en2) (fun z327 hz327 => ?_)
      refine Ok_inB (vp_of (by omega) (by omega)) ?_
      refine Ok_bind (circle_iv hI en) (fun z329 hz329 => ?_)
      have sm := sim_circle hz327 hz329 hdo hre hRo
      refine go _ _ _ _ _ _ _ _ _ _ _ _ _ _ _ _ _ _ _ _ _ _ _ _ _ _ _ _ _ _ _ _ _ _ _ ⟨?_, ?_, ?_, ?_, ?_, ?_, ?_, ?_, ?_, ?_, ?_, ?_, ?_, ?_⟩ <;> first | assumption | exact sm.1 | exact sm.2.1 | exact sm.2.2.1 | exact sm.2.2.2 | exact ri_circle hI en es eg hz329
    refine Ok_if (fun _ => ?_) (fun _ => ?_)
    · refine Ok_inB (vp_of (by omega) (by omega)) ?_
      refine Ok_bind (cstrew_iv (F := f308) hI hRo en2) (fun z330 hz330 => ?_)
      refine Ok_inB (vp_of (by omega) (by omega)) ?_
      refine Ok_bind (strew_iv hI en) (fun z332 hz332 => ?_)
      have sm := sim_strew hI.1.2 hz330 hz332 hdo hRo hFl
      refine go _ _ _ _ _ _ _ _ _ _ _ _ _ _ _ _ _ _ _ _ _ _ _ _ _ _ _ _ _ _ _ _ _ _ _ ⟨?_, ?_, ?_, ?_, ?_, ?_, ?_, ?_, ?_, ?_, ?_, ?_, ?_, ?_⟩ <;> first | assumption | exact sm.1 | exact sm.2.1 | exact sm.2.2.1 | exact sm.2.2.2 | exact ri_strew hI en es eg hz332
    refine Ok_if (fun _ => ?_) (fun _ => ?_)
    · refine Ok_bind (cturnRound_iv hI hRo hFl en2 eg2) (fun z333 hz333 => ?_)
      refine Ok_bind (turnRound_iv hI en eg) (fun z334 hz334 => ?_)
      have sm := sim_turn hz333 hz334 hdo
      refine go _ _ _ _ _ _ _ _ _ _ _ _ _ _ _ _ _ _ _ _ _ _ _ _ _ _ _ _ _ _ _ _ _ _ _ ⟨?_, ?_, ?_, ?_, ?_, ?_, ?_, ?_, ?_, ?_, ?_, ?_, ?_, ?_⟩ <;> first | assumption | exact sm.1 | exact sm.2.1 | exact sm.2.2.1 | exact sm.2.2.2 | exact ri_turn hI en es eg hz334
    refine Ok_if (fun _ => ?_) (fun _ => ?_)
    · refine Ok_inB (vp_of (by omega) (by omega)) ?_
      refine Ok_inB (vp_of (by omega) (by omega)) ?_
      refine Ok_bind (cswapL_iv hI hRo hFl en2 es2 eg2) (fun z335 hz335 => ?_)
      refine Ok_inB (vp_of (by omega) (by omega)) ?_
      refine Ok_inB (vp_of (by omega) (by omega)) ?_
      refine Ok_bind (swap_iv hI en es eg) (fun z337 hz337 => ?_)
      have sm := sim_swap hz335 hz337 hdo hso hgo hRo hFl
      refine go _ _ _ _ _ _ _ _ _ _ _ _ _ _ _ _ _ _ _ _ _ _ _ _ _ _ _ _ _ _ _ _ _ _ _ ⟨?_, ?_, ?_, ?_, ?_, ?_, ?_, ?_, ?_, ?_, ?_, ?_, ?_, ?_⟩ <;> first | assumption | exact sm.1 | exact sm.2.1 | exact sm.2.2.1 | exact sm.2.2.2.1 | exact sm.2.2.2.2.1 | exact sm.2.2.2.2.2 | exact ri_swap hI en es eg hz337
    refine Ok_if (fun _ => ?_) (fun _ => ?_)
    · refine Ok_inB (vp_of (by omega) (by omega)) ?_
      refine Ok_bind (cstepL_iv hI hRo hFl en2 es2 eg2 hi285 hi286) (fun z340 hz340 => ?_)
      refine Ok_inB (vp_of (by omega) (by omega)) ?_
      refine Ok_bind (step_iv hI en es eg) (fun z342 hz342 => ?_)
      have sm := sim_step hz340.1 hz342 hdo hFl
      refine go _ _ _ _ _ _ _ _ _ _ _ _ _ _ _ _ _ _ _ _ _ _ _ _ _ _ _ _ _ _ _ _ _ _ _ ⟨?_, ?_, ?_, ?_, ?_, ?_, ?_, ?_, ?_, ?_, ?_, ?_, ?_, ?_⟩ <;> first | assumption | exact hz340.2.1 | exact hz340.2.2 | exact sm.1 | exact sm.2.1 | exact sm.2.2 | exact ri_step hI en es eg hz342
    refine Ok_if (fun _ => ?_) (fun _ => ?_)
    · refine Ok_inB (vp_of (by omega) (by omega)) ?_
      refine Ok_bind (cfillL_iv hI hRo hFl en2 es2 eg2 hi285 hi286) (fun z343 hz343 => ?_)
      refine Ok_inB (vp_of (by omega) (by omega)) ?_
      refine Ok_bind (fill_iv hI en es eg) (fun z345 hz345 => ?_)
      have sm := sim_fill hI.1.2 hz343.1 hz345 hdo hFl
      refine go _ _ _ _ _ _ _ _ _ _ _ _ _ _ _ _ _ _ _ _ _ _ _ _ _ _ _ _ _ _ _ _ _ _ _ ⟨?_, ?_, ?_, ?_, ?_, ?_, ?_, ?_, ?_, ?_, ?_, ?_, ?_, ?_⟩ <;> first | assumption | exact hz343.2.1 | exact hz343.2.2 | exact sm.1 | exact sm.2.1 | exact sm.2.2 | exact ri_fill hI en es eg hz345
    refine Ok_if (fun _ => ?_) (fun _ => ?_)
    · refine Ok_inB (vp_of (by omega) (by omega)) ?_
      refine Ok_inB (vp_of (by omega) (by omega)) ?_
      refine Ok_bind (csend_iv hI hRo hFl en2 es2 eg2) (fun z346 hz346 => ?_)
      refine Ok_inB (vp_of (by omega) (by omega)) ?_
      refine Ok_inB (vp_of (by omega) (by omega)) ?_
      refine Ok_bind (send_iv hI en es eg) (fun z348 hz348 => ?_)
      have sm := sim_send hI.1.2 hI.2.1.1 hz346 hz348 hdo hre hFl
      refine go _ _ _ _ _ _ _ _ _ _ _ _ _ _ _ _ _ _ _ _ _ _ _ _ _ _ _ _ _ _ _ _ _ _ _ ⟨?_, ?_, ?_, ?_, ?_, ?_, ?_, ?_, ?_, ?_, ?_, ?_, ?_, ?_⟩ <;> first | assumption | exact sm.1 | exact sm.2.1 | exact sm.2.2.1 | exact sm.2.2.2 | exact ri_send hI en es eg hz348
    refine Ok_if (fun _ => ?_) (fun _ => ?_)
    · refine Ok_inB (vp_of (by omega) (by omega)) ?_
      refine Ok_inB (vp_of (by omega) (by omega)) ?_
      refine Ok_inB (vp_of (by omega) (by omega)) ?_
      refine Ok_inB (vp_of (by omega) (by omega)) ?_
      refine Ok_bind (cround_iv hI hRo hFl en2) (fun z349 hz349 => ?_)
      refine Ok_inB (vp_of (by omega) (by omega)) ?_
      refine Ok_inB (vp_of (by omega) (by omega)) ?_
      refine Ok_inB (vp_of (by omega) (by omega)) ?_
      refine Ok_inB (vp_of (by omega) (by omega)) ?_
      refine Ok_bind (round_iv hI en) (fun z351 hz351 => ?_)
      have sm := sim_round hI.1.2 hz349 hz351 hdo hre hFl
      refine go _ _ _ _ _ _ _ _ _ _ _ _ _ _ _ _ _ _ _ _ _ _ _ _ _ _ _ _ _ _ _ _ _ _ _ ⟨?_, ?_, ?_, ?_, ?_, ?_, ?_, ?_, ?_, ?_, ?_, ?_, ?_, ?_⟩ <;> first | assumption | exact sm.1 | exact sm.2.1 | exact sm.2.2.1 | exact sm.2.2.2 | exact ri_round hI en es eg hz351
    refine Ok_if (fun _ => ?_) (fun _ => ?_)
    · refine Ok_bind (cpeel_iv hI hFl en2 es2 eg2 hi291) (fun z352 hz352 => ?_)
      refine Ok_bind (peel_iv hI en es eg) (fun z353 hz353 => ?_)
      have sm := sim_peel hI.2.1.1 hz352.1 hz353 hdo
      refine go _ _ _ _ _ _ _ _ _ _ _ _ _ _ _ _ _ _ _ _ _ _ _ _ _ _ _ _ _ _ _ _ _ _ _ ⟨?_, ?_, ?_, ?_, ?_, ?_, ?_, ?_, ?_, ?_, ?_, ?_, ?_, ?_⟩ <;> first | assumption | exact hz352.2 | exact sm.1 | exact sm.2.1 | exact sm.2.2 | exact ri_peel hI en es eg hz353
    refine Ok_if (fun _ => ?_) (fun _ => ?_)
    · refine Ok_bind (cempty_iv hI hFl en2 es2) (fun z354 hz354 => ?_)
      refine Ok_bind (empty_iv hI en es) (fun z355 hz355 => ?_)
      have sm := sim_empty hz354 hz355 hdo
      refine go _ _ _ _ _ _ _ _ _ _ _ _ _ _ _ _ _ _ _ _ _ _ _ _ _ _ _ _ _ _ _ _ _ _ _ ⟨?_, ?_, ?_, ?_, ?_, ?_, ?_, ?_, ?_, ?_, ?_, ?_, ?_, ?_⟩ <;> first | assumption | exact sm.1 | exact sm.2.1 | exact sm.2.2 | exact ri_empty hI en es eg hz355
    refine Ok_if (fun _ => ?_) (fun _ => ?_)
    · refine Ok_inB (vp_of (by omega) (by omega)) ?_
      refine Ok_bind (ok_L_told i275 i276 i277 f278 l309 (xs (i271 + (1 : Int32)).toNatClampNeg) (by assumption)) (fun z356 hz356 => ?_)
      refine Ok_inB (vp_of (by omega) (by omega)) ?_
      refine Ok_bind (ok_X8_told i298 i301 i302 f307 (xs (i271 + (1 : Int32)).toNatClampNeg) (by assumption) (by assumption) (by assumption)) (fun z358 hz358 => ?_)
      refine go _ _ _ _ _ _ _ _ _ _ _ _ _ _ _ _ _ _ _ _ _ _ _ _ _ _ _ _ _ _ _ _ _ _ _ ⟨?_, ?_, ?_, ?_, ?_, ?_, ?_, ?_, ?_, ?_, ?_, ?_, ?_, ?_⟩ <;> first | assumption
    refine Ok_if (fun _ => ?_) (fun _ => ?_)
    · refine Ok_inB (vp_of (by omega) (by omega)) ?_
      refine Ok_inB (vp_of (by omega) (by omega)) ?_
      refine Ok_inB (vp_of (by omega) (by omega)) ?_
      refine Ok_bind (ok_L_pair i275 f278 f279 l309 (xs (i271 + (1 : Int32)).toNatClampNeg) (xs (i271 + (2 : Int32)).toNatClampNeg) (xs (i271 + (3 : Int32)).toNatClampNeg) (by assumption)) (fun z359 hz359 => ?_)
      refine Ok_inB (vp_of (by omega) (by omega)) ?_
      refine Ok_inB (vp_of (by omega) (by omega)) ?_
      refine Ok_inB (vp_of (by omega) (by omega)) ?_
      refine Ok_bind (ok_X8_pair i298 f307 f308 (xs (i271 + (1 : Int32)).toNatClampNeg) (xs (i271 + (2 : Int32)).toNatClampNeg) (xs (i271 + (3 : Int32)).toNatClampNeg) (by assumption)) (fun z361 hz361 => ?_)
      refine go _ _ _ _ _ _ _ _ _ _ _ _ _ _ _ _ _ _ _ _ _ _ _ _ _ _ _ _ _ _ _ _ _ _ _ ⟨?_, ?_, ?_, ?_, ?_, ?_, ?_, ?_, ?_, ?_, ?_, ?_, ?_, ?_⟩ <;> first | assumption
    refine Ok_if (fun _ => ?_) (fun _ => ?_)
    · refine Ok_inB (vp_of (by omega) (by omega)) ?_
      refine Ok_inB (vp_of (by omega) (by omega)) ?_
      refine Ok_bind (ok_L_ofPlace i275 f278 f279 l309 (xs (i271 + (1 : Int32)).toNatClampNeg) (xs (i271 + (2 : Int32)).toNatClampNeg) (by assumption)) (fun z362 hz362 => ?_)
      refine Ok_inB (vp_of (by omega) (by omega)) ?_
      refine Ok_inB (vp_of (by omega) (by omega)) ?_
      refine Ok_bind (ok_X8_ofPlace i298 f307 f308 (xs (i271 + (1 : Int32)).toNatClampNeg) (xs (i271 + (2 : Int32)).toNatClampNeg) (by assumption)) (fun z364 hz364 => ?_)
      refine go _ _ _ _ _ _ _ _ _ _ _ _ _ _ _ _ _ _ _ _ _ _ _ _ _ _ _ _ _ _ _ _ _ _ _ ⟨?_, ?_, ?_, ?_, ?_, ?_, ?_, ?_, ?_, ?_, ?_, ?_, ?_, ?_⟩ <;> first | assumption
    refine Ok_if (fun _ => ?_) (fun _ => ?_)
    · refine Ok_inB (vp_of (by omega) (by omega)) ?_
      refine Ok_bind (ok_L_roomText i275 f278 i294 i295 n296 f297 (xs (i271 + (1 : Int32)).toNatClampNeg) (by assumption) (by assumption)) (fun z365 hz365 => ?_)
      refine Ok_inB (vp_of (by omega) (by omega)) ?_
      refine Ok_bind (roomText_iv hI en) (fun z368 hz368 => ?_)
      refine go _ _ _ _ _ _ _ _ _ _ _ _ _ _ _ _ _ _ _ _ _ _ _ _ _ _ _ _ _ _ _ _ _ _ _ ⟨?_, ?_, ?_, ?_, ?_, ?_, ?_, ?_, ?_, ?_, ?_, ?_, ?_, ?_⟩ <;> first | assumption | exact hz365
    refine Ok_if (fun _ => ?_) (fun _ => ?_)
    · refine Ok_inB (vp_of (by omega) (by omega)) ?_
      refine Ok_bind (ok_L_cut i275 i276 i277 f278 l309 (xs (i271 + (1 : Int32)).toNatClampNeg) (by assumption)) (fun z370 hz370 => ?_)
      refine Ok_inB (vp_of (by omega) (by omega)) ?_
      refine Ok_bind (ok_X8_cut i298 i301 i302 f307 (xs (i271 + (1 : Int32)).toNatClampNeg) (by assumption) (by assumption) (by assumption)) (fun z372 hz372 => ?_)
      refine go _ _ _ _ _ _ _ _ _ _ _ _ _ _ _ _ _ _ _ _ _ _ _ _ _ _ _ _ _ _ _ _ _ _ _ ⟨?_, ?_, ?_, ?_, ?_, ?_, ?_, ?_, ?_, ?_, ?_, ?_, ?_, ?_⟩ <;> first | assumption
    refine Ok_if (fun _ => ?_) (fun _ => ?_)
    · refine Ok_bind (ok_X6_least i275 i276 i277 f278 (by assumption)) (fun z373 hz373 => ?_)
      refine Ok_bind (ok_X8_least_ i298 i301 i302 f307 (by assumption) (by assumption) (by assumption)) (fun z374 hz374 => ?_)
      refine go _ _ _ _ _ _ _ _ _ _ _ _ _ _ _ _ _ _ _ _ _ _ _ _ _ _ _ _ _ _ _ _ _ _ _ ⟨?_, ?_, ?_, ?_, ?_, ?_, ?_, ?_, ?_, ?_, ?_, ?_, ?_, ?_⟩ <;> first | assumption
    refine Ok_if (fun _ => ?_) (fun _ => ?_)
    · refine Ok_inB (vp_of (by omega) (by omega)) ?_
      refine Ok_bind (cisLeastA_iv hI hRo en2 es2 eg2) (fun z375 hz375 => ?_)
      refine Ok_inB (vp_of (by omega) (by omega)) ?_
      refine Ok_bind (isLeastA_iv hI en es eg) (fun z377 hz377 => ?_)
      have sm := CQ.cmp2 (only1_eq _) hz375 hz377
      refine cmp_thrownB (sm.1) (fun e => rq_bit hz377 (sm.1.1.trans e)) ?_
      show Ok (k311 i272 i273 i274 i275 i276 i277 f278 f279 i280 i281 i282 f283 f284 i285 i286 f287 f288 i289 i290 i291 f292 i294 i295 n296 f297 i298 i301 i302 i303 i304 i305 z377.2 f307 f308 z375.2) _
      refine go _ _ _ _ _ _ _ _ _ _ _ _ _ _ _ _ _ _ _ _ _ _ _ _ _ _ _ _ _ _ _ _ _ _ _ ⟨?_, ?_, ?_, ?_, ?_, ?_, ?_, ?_, ?_, ?_, ?_, ?_, ?_, ?_⟩ <;> first | assumption
    refine Ok_if (fun _ => ?_) (fun _ => ?_)
    · refine Ok_bind (ok_X6_leasts i275 i276 i277 f278 (by assumption)) (fun z384 hz384 => ?_)
      refine Ok_bind (ok_X8_leasts i298 i301 i302 f307 (by assumption) (by assumption) (by assumption)) (fun z385 hz385 => ?_)
      refine go _ _ _ _ _ _ _ _ _ _ _ _ _ _ _ _ _ _ _ _ _ _ _ _ _ _ _ _ _ _ _ _ _ _ _ ⟨?_, ?_, ?_, ?_, ?_, ?_, ?_, ?_, ?_, ?_, ?_, ?_, ?_, ?_⟩ <;> first | assumption
    refine Ok_if (fun _ => ?_) (fun _ => ?_)
    · refine Ok_inB (vp_of (by omega) (by omega)) ?_
      refine Ok_bind (ok_L_nthLeast i275 i276 i277 f278 l309 (xs (i271 + (1 : Int32)).toNatClampNeg) (by assumption)) (fun z386 hz386 => ?_)
      refine Ok_inB (vp_of (by omega) (by omega)) ?_
      refine Ok_bind (ok_X8_nthLeast i298 i301 i302 f307 (xs (i271 + (1 : Int32)).toNatClampNeg) (by assumption) (by assumption) (by assumption)) (fun z388 hz388 => ?_)
      refine go _ _ _ _ _ _ _ _ _ _ _ _ _ _ _ _ _ _ _ _ _ _ _ _ _ _ _ _ _ _ _ _ _ _ _ ⟨?_, ?_, ?_, ?_, ?_, ?_, ?_, ?_, ?_, ?_, ?_, ?_, ?_, ?_⟩ <;> first | assumption
    refine Ok_if (fun _ => ?_) (fun _ => ?_)
    · refine Ok_inB (vp_of (by omega) (by omega)) ?_
      refine Ok_jn (fun k389 wk389 => ?_)
      have go2 : ∀ (i391 : Int32), Ok (k389 i391) (fun _ => True) := by
        intro i391
        rw [wk389]
        show Ok ((fX6_end i275 i276 i277 f278 i391).bind (fun z392 => inB (i271 + (1 : Int32)) L (jn (fun (i395 : Int32) => (fX8_end i298 i301 i302 f307 i395).bind (fun z396 => k311 i272 i273 i274 i275 i276 i277 f278 f279 i280 i281 i282 f283 f284 i285 i286 f287 f288 i289 i290 i291 f292 i294 i295 n296 f297 i298 i301 i302 i303 i304 i305 (0 : Int32) f307 f308 l309)) (fun (k393 : Int32 → Option Unit) => if (xs (i271 + (1 : Int32)).toNatClampNeg) = (0 : Int32) then (k393 (0 : Int32)) else (k393 (1 : Int32)))))) _
        refine Ok_bind (ok_X6_end i275 i276 i277 f278 i391 (by assumption)) (fun z392 hz392 => ?_)
        refine Ok_inB (vp_of (by omega) (by omega)) ?_
        refine Ok_jn (fun k393 wk393 => ?_)
        have go2 : ∀ (i395 : Int32), Ok (k393 i395) (fun _ => True) := by
          intro i395
          rw [wk393]
          show Ok ((fX8_end i298 i301 i302 f307 i395).bind (fun z396 => k311 i272 i273 i274 i275 i276 i277 f278 f279 i280 i281 i282 f283 f284 i285 i286 f287 f288 i289 i290 i291 f292 i294 i295 n296 f297 i298 i301 i302 i303 i304 i305 (0 : Int32) f307 f308 l309)) _
          refine Ok_bind (ok_X8_end i298 i301 i302 f307 i395 (by assumption) (by assumption) (by assumption)) (fun z396 hz396 => ?_)
          refine go _ _ _ _ _ _ _ _ _ _ _ _ _ _ _ _ _ _ _ _ _ _ _ _ _ _ _ _ _ _ _ _ _ _ _ ⟨?_, ?_, ?_, ?_, ?_, ?_, ?_, ?_, ?_, ?_, ?_, ?_, ?_, ?_⟩ <;> first | assumption
        exact Ok_if (fun _ => go2 _) (fun _ => go2 _)
      exact Ok_if (fun _ => go2 _) (fun _ => go2 _)
    refine Ok_if (fun _ => ?_) (fun _ => ?_)
    · refine Ok_bind (ok_X6_value i275 i276 f279 (by assumption)) (fun z397 hz397 => ?_)
      refine Ok_bind (ok_X8_value i298 i301 f308 (by assumption) (by assumption)) (fun z398 hz398 => ?_)
      refine go _ _ _ _ _ _ _ _ _ _ _ _ _ _ _ _ _ _ _ _ _ _ _ _ _ _ _ _ _ _ _ _ _ _ _ ⟨?_, ?_, ?_, ?_, ?_, ?_, ?_, ?_, ?_, ?_, ?_, ?_, ?_, ?_⟩ <;> first | assumption
    refine Ok_if (fun _ => ?_) (fun _ => ?_)
    · refine Ok_inB (vp_of (by omega) (by omega)) ?_
      refine Ok_bind (ok2_L_most i275 i276 i277 f278 f279 i280 i281 i282 f283 f284 i285 i286 f287 f288 l309 (xs (i271 + (1 : Int32)).toNatClampNeg) (by assumption) (by assumption) (by assumption)) (fun z399 hz399 => ?_)
      refine Ok_inB (vp_of (by omega) (by omega)) ?_
      refine Ok_bind (ok_X8_most i298 i301 i302 f307 (xs (i271 + (1 : Int32)).toNatClampNeg) (by assumption) (by assumption) (by assumption)) (fun z401 hz401 => ?_)
      refine go _ _ _ _ _ _ _ _ _ _ _ _ _ _ _ _ _ _ _ _ _ _ _ _ _ _ _ _ _ _ _ _ _ _ _ ⟨?_, ?_, ?_, ?_, ?_, ?_, ?_, ?_, ?_, ?_, ?_, ?_, ?_, ?_⟩ <;> first | assumption | exact hz399.1 | exact hz399.2
    refine Ok_if (fun _ => ?_) (fun _ => ?_)
    · refine Ok_bind (ok_X6_isMost i275 i276 i277 f278 f279 f283 f284 i285 i286 f287 f288 (by assumption) (by assumption) (by assumption)) (fun z402 hz402 => ?_)
      refine Ok_bind (ok_X8_isMost i298 i301 i302 f307 f308 (by assumption) (by assumption) (by assumption)) (fun z403 hz403 => ?_)
      refine go _ _ _ _ _ _ _ _ _ _ _ _ _ _ _ _ _ _ _ _ _ _ _ _ _ _ _ _ _ _ _ _ _ _ _ ⟨?_, ?_, ?_, ?_, ?_, ?_, ?_, ?_, ?_, ?_, ?_, ?_, ?_, ?_⟩ <;> first | assumption | exact hz402.1 | exact hz402.2
    refine Ok_if (fun _ => ?_) (fun _ => ?_)
    · refine Ok_inB (vp_of (by omega) (by omega)) ?_
      refine Ok_bind (ok_L_track i275 i276 i277 f278 f279 i285 i286 f287 f288 i294 i295 n296 f297 (xs (i271 + (1 : Int32)).toNatClampNeg) (by assumption) (by assumption) (by assumption) (by assumption)) (fun z404 hz404 => ?_)
      refine Ok_inB (vp_of (by omega) (by omega)) ?_
      refine Ok_bind (track_iv hI en es eg) (fun z407 hz407 => ?_)
      refine go _ _ _ _ _ _ _ _ _ _ _ _ _ _ _ _ _ _ _ _ _ _ _ _ _ _ _ _ _ _ _ _ _ _ _ ⟨?_, ?_, ?_, ?_, ?_, ?_, ?_, ?_, ?_, ?_, ?_, ?_, ?_, ?_⟩ <;> first | assumption | exact hz404.1 | exact hz404.2.1 | exact hz404.2.2
    refine Ok_if (fun _ => ?_) (fun _ => ?_)
    · refine Ok_inB (vp_of (by omega) (by omega)) ?_
      refine Ok_bind (ok_L_layer i275 i276 f278 f279 i285 f288 l309 (xs (i271 + (1 : Int32)).toNatClampNeg) (by assumption) (by assumption)) (fun z409 hz409 => ?_)
      refine Ok_inB (vp_of (by omega) (by omega)) ?_
      refine Ok_bind (ok_X8_layer i298 i301 f307 f308 (xs (i271 + (1 : Int32)).toNatClampNeg) (by assumption) (by assumption)) (fun z411 hz411 => ?_)
      refine go _ _ _ _ _ _ _ _ _ _ _ _ _ _ _ _ _ _ _ _ _ _ _ _ _ _ _ _ _ _ _ _ _ _ _ ⟨?_, ?_, ?_, ?_, ?_, ?_, ?_, ?_, ?_, ?_, ?_, ?_, ?_, ?_⟩ <;> first | assumption | exact hz409
    refine Ok_if (fun _ => ?_) (fun _ => ?_)
    · refine Ok_inB (vp_of (by omega) (by omega)) ?_
      refine Ok_bind (ok_L_through i275 i276 i277 f279 l309 (xs (i271 + (1 : Int32)).toNatClampNeg) (by assumption)) (fun z412 hz412 => ?_)
      refine Ok_inB (vp_of (by omega) (by omega)) ?_
      refine Ok_bind (ok_X8_through_ i298 i301 i302 f308 (xs (i271 + (1 : Int32)).toNatClampNeg) (by assumption) (by assumption) (by assumption)) (fun z414 hz414 => ?_)
      refine go _ _ _ _ _ _ _ _ _ _ _ _ _ _ _ _ _ _ _ _ _ _ _ _ _ _ _ _ _ _ _ _ _ _ _ ⟨?_, ?_, ?_, ?_, ?_, ?_, ?_, ?_, ?_, ?_, ?_, ?_, ?_, ?_⟩ <;> first | assumption
    refine Ok_if (fun _ => ?_) (fun _ => ?_)
    · refine Ok_inB (vp_of (by omega) (by omega)) ?_
      refine Ok_jn (fun k415 wk415 => ?_)
      have go2 : ∀ (i417 : Int32), Ok (k415 i417) (fun _ => True) := by
        intro i417
        rw [wk415]
        show Ok ((fX6_parts i275 i276 i277 f278 f279 f283 f284 i289 i290 i291 f292 i417).bind (fun z418 => inB (i271 + (1 : Int32)) L (jn (fun (i421 : Int32) => (fX8_parts i298 i301 i302 f308 i421).bind (fun z422 => k311 i272 i273 i274 i275 i276 i277 f278 f279 i275 i276 i277 z418.2.1 z418.2.2.1 i285 i286 f287 f288 z418.2.2.2.1 z418.2.2.2.2.1 z418.2.2.2.2.2.1 z418.2.2.2.2.2.2 i294 i295 n296 f297 i298 i301 i302 i303 i304 i305 (0 : Int32) f307 f308 l309)) (fun (k419 : Int32 → Option Unit) => if (xs (i271 + (1 : Int32)).toNatClampNeg) = (0 : Int32) then (k419 (0 : Int32)) else (k419 (1 : Int32)))))) _
        refine Ok_bind (ok_X6_parts i275 i276 i277 f278 f279 f283 f284 i289 i290 i291 f292 i417 (by assumption) (by assumption)) (fun z418 hz418 => ?_)
        refine Ok_inB (vp_of (by omega) (by omega)) ?_
        refine Ok_jn (fun k419 wk419 => ?_)
        have go2 : ∀ (i421 : Int32), Ok (k419 i421) (fun _ => True) := by
          intro i421
          rw [wk419]
          show Ok ((fX8_parts i298 i301 i302 f308 i421).bind (fun z422 => k311 i272 i273 i274 i275 i276 i277 f278 f279 i275 i276 i277 z418.2.1 z418.2.2.1 i285 i286 f287 f288 z418.2.2.2.1 z418.2.2.2.2.1 z418.2.2.2.2.2.1 z418.2.2.2.2.2.2 i294 i295 n296 f297 i298 i301 i302 i303 i304 i305 (0 : Int32) f307 f308 l309)) _
          refine Ok_bind (ok_X8_parts i298 i301 i302 f308 i421 (by assumption) (by assumption) (by assumption) (by assumption)) (fun z422 hz422 => ?_)
          refine go _ _ _ _ _ _ _ _ _ _ _ _ _ _ _ _ _ _ _ _ _ _ _ _ _ _ _ _ _ _ _ _ _ _ _ ⟨?_, ?_, ?_, ?_, ?_, ?_, ?_, ?_, ?_, ?_, ?_, ?_, ?_, ?_⟩ <;> first | assumption | exact hz418
        exact Ok_if (fun _ => go2 _) (fun _ => go2 _)
      exact Ok_if (fun _ => go2 _) (fun _ => go2 _)
    refine Ok_if (fun _ => ?_) (fun _ => ?_)
    · refine Ok_bind (ok_X6_partsText i275 i276 i277 f278 f279 f283 f284 i289 i290 i291 f292 i294 i295 n296 f297 (by assumption) (by assumption) (by assumption)) (fun z423 hz423 => ?_)
      refine Ok_bind (ok_X8_partsText i298 i301 i302 f308 (by assumption) (by assumption) (by assumption) (by assumption)) (fun z426 hz426 => ?_)
      refine go _ _ _ _ _ _ _ _ _ _ _ _ _ _ _ _ _ _ _ _ _ _ _ _ _ _ _ _ _ _ _ _ _ _ _ ⟨?_, ?_, ?_, ?_, ?_, ?_, ?_, ?_, ?_, ?_, ?_, ?_, ?_, ?_⟩ <;> first | assumption | exact hz423.1 | exact hz423.2
    refine Ok_if (fun _ => ?_) (fun _ => ?_)
    · refine Ok_inB (vp_of (by omega) (by omega)) ?_
      refine Ok_bind (ok_L_flowText i275 f279 i294 i295 n296 f297 (xs (i271 + (1 : Int32)).toNatClampNeg) (by assumption) (by assumption)) (fun z428 hz428 => ?_)
      refine Ok_inB (vp_of (by omega) (by omega)) ?_
      refine Ok_bind (flowText_iv hI en) (fun z431 hz431 => ?_)
      refine go _ _ _ _ _ _ _ _ _ _ _ _ _ _ _ _ _ _ _ _ _ _ _ _ _ _ _ _ _ _ _ _ _ _ _ ⟨?_, ?_, ?_, ?_, ?_, ?_, ?_, ?_, ?_, ?_, ?_, ?_, ?_, ?_⟩ <;> first | assumption | exact hz428
    refine Ok_if (fun _ => ?_) (fun _ => ?_)
    · refine Ok_inB (vp_of (by omega) (by omega)) ?_
      refine Ok_inB (vp_of (by omega) (by omega)) ?_
      refine Ok_inB (vp_of (by omega) (by omega)) ?_
      refine Ok_bind (ok2_L_would i275 i276 i277 f278 f279 i280 i281 i282 f283 f284 i285 i286 f287 f288 l309 (xs (i271 + (1 : Int32)).toNatClampNeg) (xs (i271 + (2 : Int32)).toNatClampNeg) (xs (i271 + (3 : Int32)).toNatClampNeg) (by assumption) (by assumption) (by assumption)) (fun z433 hz433 => ?_)
      refine Ok_inB (vp_of (by omega) (by omega)) ?_
      refine Ok_inB (vp_of (by omega) (by omega)) ?_
      refine Ok_inB (vp_of (by omega) (by omega)) ?_
      refine Ok_bind (would_keep hI en es eg) (fun z435 hz435 => ?_)
      refine go _ _ _ _ _ _ _ _ _ _ _ _ _ _ _ _ _ _ _ _ _ _ _ _ _ _ _ _ _ _ _ _ _ _ _ ⟨?_, ?_, ?_, ?_, ?_, ?_, ?_, ?_, ?_, ?_, ?_, ?_, ?_, ?_⟩ <;> first | assumption | exact hz433.1 | exact hz433.2 | exact hRo.trans hz435.symm | exact ri_would hI en es eg hz435
    refine Ok_if (fun _ => ?_) (fun _ => ?_)
    · refine Ok_inB (vp_of (by omega) (by omega)) ?_
      refine Ok_inB (vp_of (by omega) (by omega)) ?_
      refine Ok_bind (ok2_L_between i275 f278 f279 i280 i281 i282 f283 f284 i285 i286 f287 f288 l309 (xs (i271 + (1 : Int32)).toNatClampNeg) (xs (i271 + (2 : Int32)).toNatClampNeg) (by assumption) (by assumption) (by assumption)) (fun z436 hz436 => ?_)
      refine Ok_inB (vp_of (by omega) (by omega)) ?_
      refine Ok_inB (vp_of (by omega) (by omega)) ?_
      refine Ok_bind (ok_X8_between i298 f307 (xs (i271 + (1 : Int32)).toNatClampNeg) (xs (i271 + (2 : Int32)).toNatClampNeg) (by assumption)) (fun z438 hz438 => ?_)
      refine go _ _ _ _ _ _ _ _ _ _ _ _ _ _ _ _ _ _ _ _ _ _ _ _ _ _ _ _ _ _ _ _ _ _ _ ⟨?_, ?_, ?_, ?_, ?_, ?_, ?_, ?_, ?_, ?_, ?_, ?_, ?_, ?_⟩ <;> first | assumption | exact hz436.1 | exact hz436.2
    refine Ok_if (fun _ => ?_) (fun _ => ?_)
    · refine Ok_bind (ok_X6_about i275 i276 i277 f278 f279 f283 f284 i285 i286 f287 f288 (by assumption) (by assumption) (by assumption)) (fun z439 hz439 => ?_)
      refine Ok_bind (ok_X8_about i298 i301 i302 f307 (by assumption) (by assumption) (by assumption)) (fun z440 hz440 => ?_)
      refine go _ _ _ _ _ _ _ _ _ _ _ _ _ _ _ _ _ _ _ _ _ _ _ _ _ _ _ _ _ _ _ _ _ _ _ ⟨?_, ?_, ?_, ?_, ?_, ?_, ?_, ?_, ?_, ?_, ?_, ?_, ?_, ?_⟩ <;> first | assumption | exact hz439.1 | exact hz439.2
    refine Ok_if (fun _ => ?_) (fun _ => ?_)
    · refine Ok_inB (vp_of (by omega) (by omega)) ?_
      refine Ok_bind (ok2_L_apart i275 i276 i277 f278 f279 i280 i281 i282 f283 f284 i285 i286 f287 f288 l309 (xs (i271 + (1 : Int32)).toNatClampNeg) (by assumption) (by assumption) (by assumption)) (fun z441 hz441 => ?_)
      refine Ok_inB (vp_of (by omega) (by omega)) ?_
      refine Ok_bind (ok_X8_apart i298 i301 i302 f307 (xs (i271 + (1 : Int32)).toNatClampNeg) (by assumption) (by assumption) (by assumption)) (fun z443 hz443 => ?_)
      refine go _ _ _ _ _ _ _ _ _ _ _ _ _ _ _ _ _ _ _ _ _ _ _ _ _ _ _ _ _ _ _ _ _ _ _ ⟨?_, ?_, ?_, ?_, ?_, ?_, ?_, ?_, ?_, ?_, ?_, ?_, ?_, ?_⟩ <;> first | assumption | exact hz441.1 | exact hz441.2
    refine Ok_if (fun _ => ?_) (fun _ => ?_)
    · refine Ok_inB (vp_of (by omega) (by omega)) ?_
      refine Ok_bind (ok_L_house i272 i273 i274 l309 (xs (i271 + (1 : Int32)).toNatClampNeg)) (fun z444 hz444 => ?_)
      refine Ok_inB (vp_of (by omega) (by omega)) ?_
      refine Ok_bind (ok_X8_house i303 i304 i305 (xs (i271 + (1 : Int32)).toNatClampNeg)) (fun z446 hz446 => ?_)
      refine go _ _ _ _ _ _ _ _ _ _ _ _ _ _ _ _ _ _ _ _ _ _ _ _ _ _ _ _ _ _ _ _ _ _ _ ⟨?_, ?_, ?_, ?_, ?_, ?_, ?_, ?_, ?_, ?_, ?_, ?_, ?_, ?_⟩ <;> first | assumption
    refine Ok_if (fun _ => ?_) (fun _ => ?_)
    · refine Ok_bind ((Ok_some rfl : Ok (some (i274 + (1 : Int32), i274 + (1 : Int32))) (fun z => z = (i274 + (1 : Int32), i274 + (1 : Int32))))) (fun z447 hz447 => ?_)
      refine Ok_bind ((Ok_some rfl : Ok (some (i305 + (1 : Int32), i305 + (1 : Int32))) (fun z => z = (i305 + (1 : Int32), i305 + (1 : Int32))))) (fun z448 hz448 => ?_)
      refine go _ _ _ _ _ _ _ _ _ _ _ _ _ _ _ _ _ _ _ _ _ _ _ _ _ _ _ _ _ _ _ _ _ _ _ ⟨?_, ?_, ?_, ?_, ?_, ?_, ?_, ?_, ?_, ?_, ?_, ?_, ?_, ?_⟩ <;> first | assumption | (rw [hz447, hz448, hkn])
    refine Ok_if (fun _ => ?_) (fun _ => ?_)
    · refine Ok_bind (ok_X6_isSound i275 i276 i277 f278 f279 f283 f284 i285 i286 f287 f288 i289 i290 i291 f292 (by assumption) (by assumption) (by assumption) (by assumption)) (fun z449 hz449 => ?_)
      refine Ok_bind (ok_X8_isSound i298 i301 i302 f307 f308 (by assumption) (by assumption) (by assumption) (by assumption)) (fun z450 hz450 => ?_)
      refine go _ _ _ _ _ _ _ _ _ _ _ _ _ _ _ _ _ _ _ _ _ _ _ _ _ _ _ _ _ _ _ _ _ _ _ ⟨?_, ?_, ?_, ?_, ?_, ?_, ?_, ?_, ?_, ?_, ?_, ?_, ?_, ?_⟩ <;> first | assumption | exact hz449.1 | exact hz449.2.1 | exact hz449.2.2
    refine Ok_if (fun _ => ?_) (fun _ => ?_)
    · refine Ok_bind (ok_X6_digest i272 i273 i274 i275 i276 i277 f278 f279 f283 f284 i285 i286 f287 f288 i289 i290 i291 f292 i294 i295 n296 f297 (by assumption) (by assumption) (by assumption) (by assumption) (by assumption)) (fun z451 hz451 => ?_)
      refine Ok_bind (ok_X8_digest i298 i301 i302 i303 i304 i305 f307 f308 (by assumption) (by assumption) (by assumption) (by assumption)) (fun z453 hz453 => ?_)
      refine go _ _ _ _ _ _ _ _ _ _ _ _ _ _ _ _ _ _ _ _ _ _ _ _ _ _ _ _ _ _ _ _ _ _ _ ⟨?_, ?_, ?_, ?_, ?_, ?_, ?_, ?_, ?_, ?_, ?_, ?_, ?_, ?_⟩ <;> first | assumption | exact hz451.1 | exact hz451.2.1 | exact hz451.2.2.1 | exact hz451.2.2.2
    refine go _ _ _ _ _ _ _ _ _ _ _ _ _ _ _ _ _ _ _ _ _ _ _ _ _ _ _ _ _ _ _ _ _ _ _ ⟨?_, ?_, ?_, ?_, ?_, ?_, ?_, ?_, ?_, ?_, ?_, ?_, ?_, ?_⟩ <;> first | assumption
theorem law_true {L : Nat} (hL : L ≤ 320) (xs : Nat → Int32) : fL_law L xs = some () := by
  have h : Ok (fL_law L xs) (fun _ => True) := by
    unfold fL_law
    refine Ok_bind cinit_iv (fun z2 h2 => Ok_bind (R := fun z => z = 5) ⟨_, x8_init, rfl⟩ (fun z23 h23 => Ok_bind (R := fun _ => True) ⟨_, rfl, trivial⟩ (fun z27 _ => ?_)))
    subst h23
    exact law_loop hL xs 66 _ _ _ _ _ _ _ _ _ _ _ _ _ _ _ _ _ _ _ _ _ _ _ _ _ _ _ _ _ _ _ _ _ _ _ _ ⟨by decide, by decide, by decide, by decide, CT_init, rfl, rfl, h2.1, rfl, rfl, rfl, zero_same h2.2.1 (fun _ _ _ _ => rfl), zero_same h2.2.2 (fun _ _ _ _ => rfl), ri_init⟩ ⟨by decide, by show (0 : Int) ≤ L; omega⟩ (by show (L : Int) - 0 < 5 * 66; omega)
  obtain ⟨z, h1, -⟩ := h
  rw [h1]
