/-! by program: the law's loop, with the whole relation of class and reference -/
def LF (i4 i14 i15 i20 i23 : Int32) (n24 : Nat) (f25 : Nat → Int32) (j1 j2 j3 j4 j5 : Int32) (f7 f8 : Nat → Int32) (i26 i27 i28 i29 i30 i31 : Int32) (f33 f34 : Nat → Int32) : Prop := (2 ≤ i4.toInt ∧ i4.toInt ≤ 9) ∧ (0 ≤ i14.toInt ∧ i14.toInt ≤ 9) ∧ (0 ≤ i15.toInt ∧ i15.toInt ≤ 10) ∧ (0 ≤ i20.toInt ∧ i20.toInt ≤ 10) ∧ CT n24 i23 f25 ∧ i4 = i26 ∧ j1 = i27 ∧ j2 = i28 ∧ j3 = i29 ∧ j4 = i30 ∧ j5 = i31 ∧ same f7 f33 ∧ same f8 f34 ∧ RIv i26 i27 i28 f33 f34
set_option maxRecDepth 20000 in
set_option maxHeartbeats 4000000 in
theorem law_loop {L : Nat} (hL : L ≤ 320) (xs : Nat → Int32) : ∀ (n : Nat) (i265 : Int32) (i266 : Int32) (i267 : Int32) (i268 : Int32) (i269 : Int32) (i270 : Int32) (i271 : Int32) (f272 : Nat → Int32) (f273 : Nat → Int32) (i274 : Int32) (i275 : Int32) (i276 : Int32) (f277 : Nat → Int32) (f278 : Nat → Int32) (i279 : Int32) (i280 : Int32) (f281 : Nat → Int32) (f282 : Nat → Int32) (i283 : Int32) (i284 : Int32) (i285 : Int32) (f286 : Nat → Int32) (i288 : Int32) (i289 : Int32) (n290 : Nat) (f291 : Nat → Int32) (i292 : Int32) (i295 : Int32) (i296 : Int32) (i297 : Int32) (i298 : Int32) (i299 : Int32) (i300 : Int32) (f301 : Nat → Int32) (f302 : Nat → Int32) (l303 : Int64), LF i269 i279 i280 i285 i289 n290 f291 i270 i271 i266 i267 i268 f272 f273 i292 i295 i296 i297 i298 i299 f301 f302 → (0 ≤ i265.toInt ∧ i265.toInt ≤ L) → (L : Int) - i265.toInt < 5 * n → Ok (LL_law_L27 L xs n i265 i266 i267 i268 i269 i270 i271 f272 f273 i274 i275 i276 f277 f278 i279 i280 f281 f282 i283 i284 i285 f286 i288 i289 n290 f291 i292 i295 i296 i297 i298 i299 i300 f301 f302 l303) (fun _ => True) := by
  intro n
  have eL := ofNat_iv (n := L) (by omega)
  have t5 : (5 : Int32).toInt = 5 := rfl
  have es5 : (Int32.ofNat L - (5 : Int32)).toInt = L - 5 := by rw [sub_iv (by omega) (by omega), eL, t5]
  induction n with
  | zero => intro i265 i266 i267 i268 i269 i270 i271 f272 f273 i274 i275 i276 f277 f278 i279 i280 f281 f282 i283 i284 i285 f286 i288 i289 n290 f291 i292 i295 i296 i297 i298 i299 i300 f301 f302 l303 _ h1 h2; omega
  | succ n ih =>
    intro i265 i266 i267 i268 i269 i270 i271 f272 f273 i274 i275 i276 f277 f278 i279 i280 f281 f282 i283 i284 i285 f286 i288 i289 n290 f291 i292 i295 i296 i297 i298 i299 i300 f301 f302 l303 hLF hix hms
    show Ok (BL_law_L27 L xs i265 i266 i267 i268 i269 i270 i271 f272 f273 i274 i275 i276 f277 f278 i279 i280 f281 f282 i283 i284 i285 f286 i288 i289 n290 f291 i292 i295 i296 i297 i298 i299 i300 f301 f302 l303 (fun i265 i266 i267 i268 i269 i270 i271 f272 f273 i274 i275 i276 f277 f278 i279 i280 f281 f282 i283 i284 i285 f286 i288 i289 n290 f291 i292 i295 i296 i297 i298 i299 i300 f301 f302 l303 => LL_law_L27 L xs n i265 i266 i267 i268 i269 i270 i271 f272 f273 i274 i275 i276 f277 f278 i279 i280 f281 f282 i283 i284 i285 f286 i288 i289 n290 f291 i292 i295 i296 i297 i298 i299 i300 f301 f302 l303)) _
    unfold BL_law_L27
    obtain ⟨hi269, hi279, hi280, hi285, hCT, hmm, hso, hgo, hdo, hre, hkn, hRo, hFl, hRI⟩ := hLF
    obtain ⟨hPF, hi292, hi295, hi296⟩ := hRI.x
    obtain ⟨nn, ss, gg, en, es, eg, hI⟩ := id hRI
    have en2 : i269.toInt = nn := by rw [hmm]; exact en
    have es2 : i270.toInt = ss := by rw [hso]; exact es
    have eg2 : i271.toInt = gg := by rw [hgo]; exact eg
    have hmany := hi269
    refine Ok_if (fun _ => Ok_some trivial) (fun hle => ?_)
    have hle := i32nlt hle
    have a1 : (i265 + (1 : Int32)).toInt = i265.toInt + 1 := add_iv (y := 1) (by have t : (1 : Int32).toInt = 1 := rfl; omega) (by have t : (1 : Int32).toInt = 1 := rfl; omega)
    have a2 : (i265 + (2 : Int32)).toInt = i265.toInt + 2 := add_iv (y := 2) (by have t : (2 : Int32).toInt = 2 := rfl; omega) (by have t : (2 : Int32).toInt = 2 := rfl; omega)
    have a3 : (i265 + (3 : Int32)).toInt = i265.toInt + 3 := add_iv (y := 3) (by have t : (3 : Int32).toInt = 3 := rfl; omega) (by have t : (3 : Int32).toInt = 3 := rfl; omega)
    have a4 : (i265 + (4 : Int32)).toInt = i265.toInt + 4 := add_iv (y := 4) (by have t : (4 : Int32).toInt = 4 := rfl; omega) (by have t : (4 : Int32).toInt = 4 := rfl; omega)
    have a5 : (i265 + (5 : Int32)).toInt = i265.toInt + 5 := add_iv (y := 5) (by omega) (by omega)
    refine Ok_inB (vp_of (by omega) (by omega)) (Ok_jn (fun k305 wk305 => ?_))
    have go : ∀ (i445 : Int32) (i446 : Int32) (i447 : Int32) (i448 : Int32) (i449 : Int32) (i450 : Int32) (f451 : Nat → Int32) (f452 : Nat → Int32) (i453 : Int32) (i454 : Int32) (i455 : Int32) (f456 : Nat → Int32) (f457 : Nat → Int32) (i458 : Int32) (i459 : Int32) (f460 : Nat → Int32) (f461 : Nat → Int32) (i462 : Int32) (i463 : Int32) (i464 : Int32) (f465 : Nat → Int32) (i466 : Int32) (i467 : Int32) (n468 : Nat) (f469 : Nat → Int32) (i470 : Int32) (i471 : Int32) (i472 : Int32) (i473 : Int32) (i474 : Int32) (i475 : Int32) (i476 : Int32) (f477 : Nat → Int32) (f478 : Nat → Int32) (l479 : Int64), LF i448 i458 i459 i464 i467 n468 f469 i449 i450 i445 i446 i447 f451 f452 i470 i471 i472 i473 i474 i475 f477 f478 → Ok (k305 i445 i446 i447 i448 i449 i450 f451 f452 i453 i454 i455 f456 f457 i458 i459 f460 f461 i462 i463 i464 f465 i466 i467 n468 f469 i470 i471 i472 i473 i474 i475 i476 f477 f478 l479) (fun _ => True) := by
      intro i445 i446 i447 i448 i449 i450 f451 f452 i453 i454 i455 f456 f457 i458 i459 f460 f461 i462 i463 i464 f465 i466 i467 n468 f469 i470 i471 i472 i473 i474 i475 i476 f477 f478 l479 hLF2
      rw [wk305]
      exact ih (i265 + (5 : Int32)) i445 i446 i447 i448 i449 i450 f451 f452 i453 i454 i455 f456 f457 i458 i459 f460 f461 i462 i463 i464 f465 i466 i467 n468 f469 i470 i471 i472 i473 i474 i475 i476 f477 f478 l479 hLF2 (by omega) (by omega)
    clear wk305
    refine Ok_if (fun _ => ?_) (fun _ => ?_)
    · refine Ok_inB (vp_of (by omega) (by omega)) ?_
      refine Ok_bind (cplaces_iv i266 i269 i270 i271 f272 f273 l303 (xs (i265 + (1 : Int32)).toNatClampNeg)) (fun z307 hz307 => ?_)
      refine Ok_inB (vp_of (by omega) (by omega)) ?_
      refine Ok_bind (ok_X8_places2 i292 i295 i296 i297 f301 f302 (xs (i265 + (1 : Int32)).toNatClampNeg)) (fun z309 hz309 => ?_)
      have sm := sim_places hz307 hz309 hdo hmm hso hgo hRo hFl hmany
      refine go _ _ _ _ _ _ _ _ _ _ _ _ _ _ _ _ _ _ _ _ _ _ _ _ _ _ _ _ _ _ _ _ _ _ _ ⟨?_, ?_, ?_, ?_, ?_, ?_, ?_, ?_, ?_, ?_, ?_, ?_, ?_, ?_⟩ <;> first | assumption | exact sm.1 | exact sm.2.1 | exact sm.2.2.1 | exact sm.2.2.2.1 | exact sm.2.2.2.2.1 | exact sm.2.2.2.2.2.1 | exact sm.2.2.2.2.2.2.1 | exact sm.2.2.2.2.2.2.2 | exact ri_places hI en es eg hz309
    refine Ok_if (fun _ => ?_) (fun _ => ?_)
    · refine Ok_inB (vp_of (by omega) (by omega)) ?_
      refine Ok_inB (vp_of (by omega) (by omega)) ?_
      refine Ok_bind (cends_iv hI hFl en2 es2) (fun z312 hz312 => ?_)
      refine Ok_inB (vp_of (by omega) (by omega)) ?_
      refine Ok_inB (vp_of (by omega) (by omega)) ?_
      refine Ok_bind (ends_iv hI en es) (fun z314 hz314 => ?_)
      have sm := sim_ends hz312 hz314 hdo hso hgo hFl
      refine go _ _ _ _ _ _ _ _ _ _ _ _ _ _ _ _ _ _ _ _ _ _ _ _ _ _ _ _ _ _ _ _ _ _ _ ⟨?_, ?_, ?_, ?_, ?_, ?_, ?_, ?_, ?_, ?_, ?_, ?_, ?_, ?_⟩ <;> first | assumption | exact sm.1 | exact sm.2.1 | exact sm.2.2.1 | exact sm.2.2.2.1 | exact sm.2.2.2.2 | exact ri_ends hI en es eg hz314
    refine Ok_if (fun _ => ?_) (fun _ => ?_)
    · refine Ok_inB (vp_of (by omega) (by omega)) ?_
      refine Ok_inB (vp_of (by omega) (by omega)) ?_
      refine Ok_inB (vp_of (by omega) (by omega)) ?_
      refine Ok_bind (croomL_iv hI hRo hFl en2) (fun z315 hz315 => ?_)
      refine Ok_inB (vp_of (by omega) (by omega)) ?_
      refine Ok_inB (vp_of (by omega) (by omega)) ?_
      refine Ok_inB (vp_of (by omega) (by omega)) ?_
      refine Ok_bind (room_iv hI en) (fun z317 hz317 => ?_)
      have sm := sim_room hz315 hz317 hdo hre hRo
      refine go _ _ _ _ _ _ _ _ _ _ _ _ _ _ _ _ _ _ _ _ _ _ _ _ _ _ _ _ _ _ _ _ _ _ _ ⟨?_, ?_, ?_, ?_, ?_, ?_, ?_, ?_, ?_, ?_, ?_, ?_, ?_, ?_⟩ <;> first | assumption | exact sm.1 | exact sm.2.1 | exact sm.2.2.1 | exact sm.2.2.2 | exact ri_room hI en es eg hz317
    refine Ok_if (fun _ => ?_) (fun _ => ?_)
    · refine Ok_inB (vp_of (by omega) (by omega)) ?_
      refine Ok_inB (vp_of (by omega) (by omega)) ?_
      refine Ok_inB (vp_of (by omega) (by omega)) ?_
      refine Ok_bind (cwiden_iv hI hRo hFl en2) (fun z318 hz318 => ?_)
      refine Ok_inB (vp_of (by omega) (by omega)) ?_
      refine Ok_inB (vp_of (by omega) (by omega)) ?_
      refine Ok_inB (vp_of (by omega) (by omega)) ?_
      refine Ok_bind (widen_iv hI en) (fun z320 hz320 => ?_)
      have sm := sim_widen hz318 hz320 hdo hre hRo
      refine go _ _ _ _ _ _ _ _ _ _ _ _ _ _ _ _ _ _ _ _ _ _ _ _ _ _ _ _ _ _ _ _ _ _ _ ⟨?_, ?_, ?_, ?_, ?_, ?_, ?_, ?_, ?_, ?_, ?_, ?_, ?_, ?_⟩ <;> first | assumption | exact sm.1 | exact sm.2.1 | exact sm.2.2.1 | exact sm.2.2.2 | exact ri_widen hI en es eg hz320
    refine Ok_if (fun _ => ?_) (fun _ => ?_)
    · refine Ok_inB (vp_of (by omega) (by omega)) ?_
      refine Ok_bind (ccircle_iv hI hRo hFl en2) (fun z321 hz321 => ?_)
      refine Ok_inB (vp_of (by omega) (by omega)) ?_
      refine Ok_bind (circle_iv hI en) (fun z323 hz323 => ?_)
      have sm := sim_circle hz321 hz323 hdo hre hRo
      refine go _ _ _ _ _ _ _ _ _ _ _ _ _ _ _ _ _ _ _ _ _ _ _ _ _ _ _ _ _ _ _ _ _ _ _ ⟨?_, ?_, ?_, ?_, ?_, ?_, ?_, ?_, ?_, ?_, ?_, ?_, ?_, ?_⟩ <;> first | assumption | exact sm.1 | exact sm.2.1 | exact sm.2.2.1 | exact sm.2.2.2 | exact ri_circle hI en es eg hz323
    refine Ok_if (fun _ => ?_) (fun _ => ?_)
    · refine Ok_inB (vp_of (by omega) (by omega)) ?_
      refine Ok_bind (cstrew_iv (F := f302) hI hRo en2) (fun z324 hz324 => ?_)
      refine Ok_inB (vp_of (by omega) (by omega)) ?_
      refine Ok_bind (strew_iv hI en) (fun z326 hz326 => ?_)
      have sm := sim_strew hI.1.2 hz324 hz326 hdo hRo hFl
      refine go _ _ _ _ _ _ _ _ _ _ _ _ _ _ _ _ _ _ _ _ _ _ _ _ _ _ _ _ _ _ _ _ _ _ _ ⟨?_, ?_, ?_, ?_, ?_, ?_, ?_, ?_, ?_, ?_, ?_, ?_, ?_, ?_⟩ <;> first | assumption | exact sm.1 | exact sm.2.1 | exact sm.2.2.1 | exact sm.2.2.2 | exact ri_strew hI en es eg hz326
    refine Ok_if (fun _ => ?_) (fun _ => ?_)
    · refine Ok_bind (cturnRound_iv hI hRo hFl en2 eg2) (fun z327 hz327 => ?_)
      refine Ok_bind (turnRound_iv hI en eg) (fun z328 hz328 => ?_)
      have sm := sim_turn hz327 hz328 hdo
      refine go _ _ _ _ _ _ _ _ _ _ _ _ _ _ _ _ _ _ _ _ _ _ _ _ _ _ _ _ _ _ _ _ _ _ _ ⟨?_, ?_, ?_, ?_, ?_, ?_, ?_, ?_, ?_, ?_, ?_, ?_, ?_, ?_⟩ <;> first | assumption | exact sm.1 | exact sm.2.1 | exact sm.2.2.1 | exact sm.2.2.2 | exact ri_turn hI en es eg hz328
    refine Ok_if (fun _ => ?_) (fun _ => ?_)
    · refine Ok_inB (vp_of (by omega) (by omega)) ?_
      refine Ok_inB (vp_of (by omega) (by omega)) ?_
      refine Ok_bind (cswapL_iv hI hRo hFl en2 es2 eg2) (fun z329 hz329 => ?_)
      refine Ok_inB (vp_of (by omega) (by omega)) ?_
      refine Ok_inB (vp_of (by omega) (by omega)) ?_
      refine Ok_bind (swap_iv hI en es eg) (fun z331 hz331 => ?_)
      have sm := sim_swap hz329 hz331 hdo hso hgo hRo hFl
      refine go _ _ _ _ _ _ _ _ _ _ _ _ _ _ _ _ _ _ _ _ _ _ _ _ _ _ _ _ _ _ _ _ _ _ _ ⟨?_, ?_, ?_, ?_, ?_, ?_, ?_, ?_, ?_, ?_, ?_, ?_, ?_, ?_⟩ <;> first | assumption | exact sm.1 | exact sm.2.1 | exact sm.2.2.1 | exact sm.2.2.2.1 | exact sm.2.2.2.2.1 | exact sm.2.2.2.2.2 | exact ri_swap hI en es eg hz331
    refine Ok_if (fun _ => ?_) (fun _ => ?_)
    · refine Ok_inB (vp_of (by omega) (by omega)) ?_
      refine Ok_bind (cstepL_iv hI hRo hFl en2 es2 eg2 hi279 hi280) (fun z334 hz334 => ?_)
      refine Ok_inB (vp_of (by omega) (by omega)) ?_
      refine Ok_bind (step_iv hI en es eg) (fun z336 hz336 => ?_)
      have sm := sim_step hz334.1 hz336 hdo hFl
      refine go _ _ _ _ _ _ _ _ _ _ _ _ _ _ _ _ _ _ _ _ _ _ _ _ _ _ _ _ _ _ _ _ _ _ _ ⟨?_, ?_, ?_, ?_, ?_, ?_, ?_, ?_, ?_, ?_, ?_, ?_, ?_, ?_⟩ <;> first | assumption | exact hz334.2.1 | exact hz334.2.2 | exact sm.1 | exact sm.2.1 | exact sm.2.2 | exact ri_step hI en es eg hz336
    refine Ok_if (fun _ => ?_) (fun _ => ?_)
    · refine Ok_inB (vp_of (by omega) (by omega)) ?_
      refine Ok_bind (cfillL_iv hI hRo hFl en2 es2 eg2 hi279 hi280) (fun z337 hz337 => ?_)
      refine Ok_inB (vp_of (by omega) (by omega)) ?_
      refine Ok_bind (fill_iv hI en es eg) (fun z339 hz339 => ?_)
      have sm := sim_fill hI.1.2 hz337.1 hz339 hdo hFl
      refine go _ _ _ _ _ _ _ _ _ _ _ _ _ _ _ _ _ _ _ _ _ _ _ _ _ _ _ _ _ _ _ _ _ _ _ ⟨?_, ?_, ?_, ?_, ?_, ?_, ?_, ?_, ?_, ?_, ?_, ?_, ?_, ?_⟩ <;> first | assumption | exact hz337.2.1 | exact hz337.2.2 | exact sm.1 | exact sm.2.1 | exact sm.2.2 | exact ri_fill hI en es eg hz339
    refine Ok_if (fun _ => ?_) (fun _ => ?_)
    · refine Ok_inB (vp_of (by omega) (by omega)) ?_
      refine Ok_inB (vp_of (by omega) (by omega)) ?_
      refine Ok_bind (csend_iv hI hRo hFl en2 es2 eg2) (fun z340 hz340 => ?_)
      refine Ok_inB (vp_of (by omega) (by omega)) ?_
      refine Ok_inB (vp_of (by omega) (by omega)) ?_
      refine Ok_bind (send_iv hI en es eg) (fun z342 hz342 => ?_)
      have sm := sim_send hI.1.2 hI.2.1.1 hz340 hz342 hdo hre hFl
      refine go _ _ _ _ _ _ _ _ _ _ _ _ _ _ _ _ _ _ _ _ _ _ _ _ _ _ _ _ _ _ _ _ _ _ _ ⟨?_, ?_, ?_, ?_, ?_, ?_, ?_, ?_, ?_, ?_, ?_, ?_, ?_, ?_⟩ <;> first | assumption | exact sm.1 | exact sm.2.1 | exact sm.2.2.1 | exact sm.2.2.2 | exact ri_send hI en es eg hz342
    refine Ok_if (fun _ => ?_) (fun _ => ?_)
    · refine Ok_inB (vp_of (by omega) (by omega)) ?_
      refine Ok_inB (vp_of (by omega) (by omega)) ?_
      refine Ok_inB (vp_of (by omega) (by omega)) ?_
      refine Ok_inB (vp_of (by omega) (by omega)) ?_
      refine Ok_bind (cround_iv hI hRo hFl en2) (fun z343 hz343 => ?_)
      refine Ok_inB (vp_of (by omega) (by omega)) ?_
      refine Ok_inB (vp_of (by omega) (by omega)) ?_
      refine Ok_inB (vp_of (by omega) (by omega)) ?_
      refine Ok_inB (vp_of (by omega) (by omega)) ?_
      refine Ok_bind (round_iv hI en) (fun z345 hz345 => ?_)
      have sm := sim_round hI.1.2 hz343 hz345 hdo hre hFl
      refine go _ _ _ _ _ _ _ _ _ _ _ _ _ _ _ _ _ _ _ _ _ _ _ _ _ _ _ _ _ _ _ _ _ _ _ ⟨?_, ?_, ?_, ?_, ?_, ?_, ?_, ?_, ?_, ?_, ?_, ?_, ?_, ?_⟩ <;> first | assumption | exact sm.1 | exact sm.2.1 | exact sm.2.2.1 | exact sm.2.2.2 | exact ri_round hI en es eg hz345
    refine Ok_if (fun _ => ?_) (fun _ => ?_)
    · refine Ok_bind (cpeel_iv hI hFl en2 es2 eg2 hi285) (fun z346 hz346 => ?_)
      refine Ok_bind (peel_iv hI en es eg) (fun z347 hz347 => ?_)
      have sm := sim_peel hI.2.1.1 hz346.1 hz347 hdo
      refine go _ _ _ _ _ _ _ _ _ _ _ _ _ _ _ _ _ _ _ _ _ _ _ _ _ _ _ _ _ _ _ _ _ _ _ ⟨?_, ?_, ?_, ?_, ?_, ?_, ?_, ?_, ?_, ?_, ?_, ?_, ?_, ?_⟩ <;> first | assumption | exact hz346.2 | exact sm.1 | exact sm.2.1 | exact sm.2.2 | exact ri_peel hI en es eg hz347
    refine Ok_if (fun _ => ?_) (fun _ => ?_)
    · refine Ok_bind (cempty_iv hI hFl en2 es2) (fun z348 hz348 => ?_)
      refine Ok_bind (empty_iv hI en es) (fun z349 hz349 => ?_)
      have sm := sim_empty hz348 hz349 hdo
      refine go _ _ _ _ _ _ _ _ _ _ _ _ _ _ _ _ _ _ _ _ _ _ _ _ _ _ _ _ _ _ _ _ _ _ _ ⟨?_, ?_, ?_, ?_, ?_, ?_, ?_, ?_, ?_, ?_, ?_, ?_, ?_, ?_⟩ <;> first | assumption | exact sm.1 | exact sm.2.1 | exact sm.2.2 | exact ri_empty hI en es eg hz349
    refine Ok_if (fun _ => ?_) (fun _ => ?_)
    · refine Ok_inB (vp_of (by omega) (by omega)) ?_
      refine Ok_bind (ok_L_told i269 i270 i271 f272 l303 (xs (i265 + (1 : Int32)).toNatClampNeg) (by assumption)) (fun z350 hz350 => ?_)
      refine Ok_inB (vp_of (by omega) (by omega)) ?_
      refine Ok_bind (ok_X8_told i292 i295 i296 f301 (xs (i265 + (1 : Int32)).toNatClampNeg) (by assumption) (by assumption) (by assumption)) (fun z352 hz352 => ?_)
      refine go _ _ _ _ _ _ _ _ _ _ _ _ _ _ _ _ _ _ _ _ _ _ _ _ _ _ _ _ _ _ _ _ _ _ _ ⟨?_, ?_, ?_, ?_, ?_, ?_, ?_, ?_, ?_, ?_, ?_, ?_, ?_, ?_⟩ <;> first | assumption
    refine Ok_if (fun _ => ?_) (fun _ => ?_)
    · refine Ok_inB (vp_of (by omega) (by omega)) ?_
      refine Ok_inB (vp_of (by omega) (by omega)) ?_
      refine Ok_inB (vp_of (by omega) (by omega)) ?_
      refine Ok_bind (ok_L_pair i269 f272 f273 l303 (xs (i265 + (1 : Int32)).toNatClampNeg) (xs (i265 + (2 : Int32)).toNatClampNeg) (xs (i265 + (3 : Int32)).toNatClampNeg) (by assumption)) (fun z353 hz353 => ?_)
      refine Ok_inB (vp_of (by omega) (by omega)) ?_
      refine Ok_inB (vp_of (by omega) (by omega)) ?_
      refine Ok_inB (vp_of (by omega) (by omega)) ?_
      refine Ok_bind (ok_X8_pair i292 f301 f302 (xs (i265 + (1 : Int32)).toNatClampNeg) (xs (i265 + (2 : Int32)).toNatClampNeg) (xs (i265 + (3 : Int32)).toNatClampNeg) (by assumption)) (fun z355 hz355 => ?_)
      refine go _ _ _ _ _ _ _ _ _ _ _ _ _ _ _ _ _ _ _ _ _ _ _ _ _ _ _ _ _ _ _ _ _ _ _ ⟨?_, ?_, ?_, ?_, ?_, ?_, ?_, ?_, ?_, ?_, ?_, ?_, ?_, ?_⟩ <;> first | assumption
    refine Ok_if (fun _ => ?_) (fun _ => ?_)
    · refine Ok_inB (vp_of (by omega) (by omega)) ?_
      refine Ok_inB (vp_of (by omega) (by omega)) ?_
      refine Ok_bind (ok_L_ofPlace i269 f272 f273 l303 (xs (i265 + (1 : Int32)).toNatClampNeg) (xs (i265 + (2 : Int32)).toNatClampNeg) (by assumption)) (fun z356 hz356 => ?_)
      refine Ok_inB (vp_of (by omega) (by omega)) ?_
      refine Ok_inB (vp_of (by omega) (by omega)) ?_
      refine Ok_bind (ok_X8_ofPlace i292 f301 f302 (xs (i265 + (1 : Int32)).toNatClampNeg) (xs (i265 + (2 : Int32)).toNatClampNeg) (by assumption)) (fun z358 hz358 => ?_)
      refine go _ _ _ _ _ _ _ _ _ _ _ _ _ _ _ _ _ _ _ _ _ _ _ _ _ _ _ _ _ _ _ _ _ _ _ ⟨?_, ?_, ?_, ?_, ?_, ?_, ?_, ?_, ?_, ?_, ?_, ?_, ?_, ?_⟩ <;> first | assumption
    refine Ok_if (fun _ => ?_) (fun _ => ?_)
    · refine Ok_inB (vp_of (by omega) (by omega)) ?_
      refine Ok_bind (ok_L_roomText i269 f272 i288 i289 n290 f291 (xs (i265 + (1 : Int32)).toNatClampNeg) (by assumption) (by assumption)) (fun z359 hz359 => ?_)
      refine Ok_inB (vp_of (by omega) (by omega)) ?_
      refine Ok_bind (roomText_iv hI en) (fun z362 hz362 => ?_)
      refine go _ _ _ _ _ _ _ _ _ _ _ _ _ _ _ _ _ _ _ _ _ _ _ _ _ _ _ _ _ _ _ _ _ _ _ ⟨?_, ?_, ?_, ?_, ?_, ?_, ?_, ?_, ?_, ?_, ?_, ?_, ?_, ?_⟩ <;> first | assumption | exact hz359
    refine Ok_if (fun _ => ?_) (fun _ => ?_)
    · refine Ok_inB (vp_of (by omega) (by omega)) ?_
      refine Ok_bind (ok_L_cut i269 i270 i271 f272 l303 (xs (i265 + (1 : Int32)).toNatClampNeg) (by assumption)) (fun z364 hz364 => ?_)
      refine Ok_inB (vp_of (by omega) (by omega)) ?_
      refine Ok_bind (ok_X8_cut i292 i295 i296 f301 (xs (i265 + (1 : Int32)).toNatClampNeg) (by assumption) (by assumption) (by assumption)) (fun z366 hz366 => ?_)
      refine go _ _ _ _ _ _ _ _ _ _ _ _ _ _ _ _ _ _ _ _ _ _ _ _ _ _ _ _ _ _ _ _ _ _ _ ⟨?_, ?_, ?_, ?_, ?_, ?_, ?_, ?_, ?_, ?_, ?_, ?_, ?_, ?_⟩ <;> first | assumption
    refine Ok_if (fun _ => ?_) (fun _ => ?_)
    · refine Ok_bind (ok_X6_least i269 i270 i271 f272 (by assumption)) (fun z367 hz367 => ?_)
      refine Ok_bind (ok_X8_least_ i292 i295 i296 f301 (by assumption) (by assumption) (by assumption)) (fun z368 hz368 => ?_)
      refine go _ _ _ _ _ _ _ _ _ _ _ _ _ _ _ _ _ _ _ _ _ _ _ _ _ _ _ _ _ _ _ _ _ _ _ ⟨?_, ?_, ?_, ?_, ?_, ?_, ?_, ?_, ?_, ?_, ?_, ?_, ?_, ?_⟩ <;> first | assumption
    refine Ok_if (fun _ => ?_) (fun _ => ?_)
    · refine Ok_inB (vp_of (by omega) (by omega)) ?_
      refine Ok_bind (ok_L_isLeast i269 i270 i271 f272 l303 (xs (i265 + (1 : Int32)).toNatClampNeg) (by assumption)) (fun z369 hz369 => ?_)
      refine Ok_inB (vp_of (by omega) (by omega)) ?_
      refine Ok_bind (ok_X8_isLeast i292 i295 i296 f301 (xs (i265 + (1 : Int32)).toNatClampNeg) (by assumption) (by assumption) (by assumption)) (fun z371 hz371 => ?_)
      refine go _ _ _ _ _ _ _ _ _ _ _ _ _ _ _ _ _ _ _ _ _ _ _ _ _ _ _ _ _ _ _ _ _ _ _ ⟨?_, ?_, ?_, ?_, ?_, ?_, ?_, ?_, ?_, ?_, ?_, ?_, ?_, ?_⟩ <;> first | assumption
    refine Ok_if (fun _ => ?_) (fun _ => ?_)
    · refine Ok_bind (ok_X6_leasts i269 i270 i271 f272 (by assumption)) (fun z372 hz372 => ?_)
      refine Ok_bind (ok_X8_leasts i292 i295 i296 f301 (by assumption) (by assumption) (by assumption)) (fun z373 hz373 => ?_)
      refine go _ _ _ _ _ _ _ _ _ _ _ _ _ _ _ _ _ _ _ _ _ _ _ _ _ _ _ _ _ _ _ _ _ _ _ ⟨?_, ?_, ?_, ?_, ?_, ?_, ?_, ?_, ?_, ?_, ?_, ?_, ?_, ?_⟩ <;> first | assumption
    refine Ok_if (fun _ => ?_) (fun _ => ?_)
    · refine Ok_inB (vp_of (by omega) (by omega)) ?_
      refine Ok_bind (ok_L_nthLeast i269 i270 i271 f272 l303 (xs (i265 + (1 : Int32)).toNatClampNeg) (by assumption)) (fun z374 hz374 => ?_)
      refine Ok_inB (vp_of (by omega) (by omega)) ?_
      refine Ok_bind (ok_X8_nthLeast i292 i295 i296 f301 (xs (i265 + (1 : Int32)).toNatClampNeg) (by assumption) (by assumption) (by assumption)) (fun z376 hz376 => ?_)
      refine go _ _ _ _ _ _ _ _ _ _ _ _ _ _ _ _ _ _ _ _ _ _ _ _ _ _ _ _ _ _ _ _ _ _ _ ⟨?_, ?_, ?_, ?_, ?_, ?_, ?_, ?_, ?_, ?_, ?_, ?_, ?_, ?_⟩ <;> first | assumption
    refine Ok_if (fun _ => ?_) (fun _ => ?_)
    · refine Ok_inB (vp_of (by omega) (by omega)) ?_
      refine Ok_jn (fun k377 wk377 => ?_)
      have go2 : ∀ (i379 : Int32), Ok (k377 i379) (fun _ => True) := by
        intro i379
        rw [wk377]
        show Ok ((fX6_end i269 i270 i271 f272 i379).bind (fun z380 => inB (i265 + (1 : Int32)) L (jn (fun (i383 : Int32) => (fX8_end i292 i295 i296 f301 i383).bind (fun z384 => k305 i266 i267 i268 i269 i270 i271 f272 f273 i274 i275 i276 f277 f278 i279 i280 f281 f282 i283 i284 i285 f286 i288 i289 n290 f291 i292 i295 i296 i297 i298 i299 (0 : Int32) f301 f302 l303)) (fun (k381 : Int32 → Option Unit) => if (xs (i265 + (1 : Int32)).toNatClampNeg) = (0 : Int32) then (k381 (0 : Int32)) else (k381 (1 : Int32)))))) _
        refine Ok_bind (ok_X6_end i269 i270 i271 f272 i379 (by assumption)) (fun z380 hz380 => ?_)
        refine Ok_inB (vp_of (by omega) (by omega)) ?_
        refine Ok_jn (fun k381 wk381 => ?_)
        have go2 : ∀ (i383 : Int32), Ok (k381 i383) (fun _ => True) := by
          intro i383
          rw [wk381]
          show Ok ((fX8_end i292 i295 i296 f301 i383).bind (fun z384 => k305 i266 i267 i268 i269 i270 i271 f272 f273 i274 i275 i276 f277 f278 i279 i280 f281 f282 i283 i284 i285 f286 i288 i289 n290 f291 i292 i295 i296 i297 i298 i299 (0 : Int32) f301 f302 l303)) _
          refine Ok_bind (ok_X8_end i292 i295 i296 f301 i383 (by assumption) (by assumption) (by assumption)) (fun z384 hz384 => ?_)
          refine go _ _ _ _ _ _ _ _ _ _ _ _ _ _ _ _ _ _ _ _ _ _ _ _ _ _ _ _ _ _ _ _ _ _ _ ⟨?_, ?_, ?_, ?_, ?_, ?_, ?_, ?_, ?_, ?_, ?_, ?_, ?_, ?_⟩ <;> first | assumption
        exact Ok_if (fun _ => go2 _) (fun _ => go2 _)
      exact Ok_if (fun _ => go2 _) (fun _ => go2 _)
    refine Ok_if (fun _ => ?_) (fun _ => ?_)
    · refine Ok_bind (ok_X6_value i269 i270 f273 (by assumption)) (fun z385 hz385 => ?_)
      refine Ok_bind (ok_X8_value i292 i295 f302 (by assumption) (by assumption)) (fun z386 hz386 => ?_)
      refine go _ _ _ _ _ _ _ _ _ _ _ _ _ _ _ _ _ _ _ _ _ _ _ _ _ _ _ _ _ _ _ _ _ _ _ ⟨?_, ?_, ?_, ?_, ?_, ?_, ?_, ?_, ?_, ?_, ?_, ?_, ?_, ?_⟩ <;> first | assumption
    refine Ok_if (fun _ => ?_) (fun _ => ?_)
    · refine Ok_inB (vp_of (by omega) (by omega)) ?_
      refine Ok_bind (ok2_L_most i269 i270 i271 f272 f273 i274 i275 i276 f277 f278 i279 i280 f281 f282 l303 (xs (i265 + (1 : Int32)).toNatClampNeg) (by assumption) (by assumption) (by assumption)) (fun z387 hz387 => ?_)
      refine Ok_inB (vp_of (by omega) (by omega)) ?_
      refine Ok_bind (ok_X8_most i292 i295 i296 f301 (xs (i265 + (1 : Int32)).toNatClampNeg) (by assumption) (by assumption) (by assumption)) (fun z389 hz389 => ?_)
      refine go _ _ _ _ _ _ _ _ _ _ _ _ _ _ _ _ _ _ _ _ _ _ _ _ _ _ _ _ _ _ _ _ _ _ _ ⟨?_, ?_, ?_, ?_, ?_, ?_, ?_, ?_, ?_, ?_, ?_, ?_, ?_, ?_⟩ <;> first | assumption | exact hz387.1 | exact hz387.2
    refine Ok_if (fun _ => ?_) (fun _ => ?_)
    · refine Ok_bind (cisMost_iv hI hRo hFl en2 es2 eg2) (fun z390 hz390 => ?_)
      refine Ok_bind (isMost_iv hI en es eg) (fun z391 hz391 => ?_)
      have sm := And.intro (hz390.1.trans hz391.symm) trivial
      refine cmp_int (sm.1) ?_
      refine go _ _ _ _ _ _ _ _ _ _ _ _ _ _ _ _ _ _ _ _ _ _ _ _ _ _ _ _ _ _ _ _ _ _ _ ⟨?_, ?_, ?_, ?_, ?_, ?_, ?_, ?_, ?_, ?_, ?_, ?_, ?_, ?_⟩ <;> first | assumption | exact hz390.2.1 | exact hz390.2.2
    refine Ok_if (fun _ => ?_) (fun _ => ?_)
    · refine Ok_inB (vp_of (by omega) (by omega)) ?_
      refine Ok_bind (ok_L_track i269 i270 i271 f272 f273 i279 i280 f281 f282 i288 i289 n290 f291 (xs (i265 + (1 : Int32)).toNatClampNeg) (by assumption) (by assumption) (by assumption) (by assumption)) (fun z392 hz392 => ?_)
      refine Ok_inB (vp_of (by omega) (by omega)) ?_
      refine Ok_bind (track_iv hI en es eg) (fun z395 hz395 => ?_)
      refine go _ _ _ _ _ _ _ _ _ _ _ _ _ _ _ _ _ _ _ _ _ _ _ _ _ _ _ _ _ _ _ _ _ _ _ ⟨?_, ?_, ?_, ?_, ?_, ?_, ?_, ?_, ?_, ?_, ?_, ?_, ?_, ?_⟩ <;> first | assumption | exact hz392.1 | exact hz392.2.1 | exact hz392.2.2
    refine Ok_if (fun _ => ?_) (fun _ => ?_)
    · refine Ok_inB (vp_of (by omega) (by omega)) ?_
      refine Ok_bind (ok_L_layer i269 i270 f272 f273 i279 f282 l303 (xs (i265 + (1 : Int32)).toNatClampNeg) (by assumption) (by assumption)) (fun z397 hz397 => ?_)
      refine Ok_inB (vp_of (by omega) (by omega)) ?_
      refine Ok_bind (ok_X8_layer i292 i295 f301 f302 (xs (i265 + (1 : Int32)).toNatClampNeg) (by assumption) (by assumption)) (fun z399 hz399 => ?_)
      refine go _ _ _ _ _ _ _ _ _ _ _ _ _ _ _ _ _ _ _ _ _ _ _ _ _ _ _ _ _ _ _ _ _ _ _ ⟨?_, ?_, ?_, ?_, ?_, ?_, ?_, ?_, ?_, ?_, ?_, ?_, ?_, ?_⟩ <;> first | assumption | exact hz397
    refine Ok_if (fun _ => ?_) (fun _ => ?_)
    · refine Ok_inB (vp_of (by omega) (by omega)) ?_
      refine Ok_bind (ok_L_through i269 i270 i271 f273 l303 (xs (i265 + (1 : Int32)).toNatClampNeg) (by assumption)) (fun z400 hz400 => ?_)
      refine Ok_inB (vp_of (by omega) (by omega)) ?_
      refine Ok_bind (ok_X8_through_ i292 i295 i296 f302 (xs (i265 + (1 : Int32)).toNatClampNeg) (by assumption) (by assumption) (by assumption)) (fun z402 hz402 => ?_)
      refine go _ _ _ _ _ _ _ _ _ _ _ _ _ _ _ _ _ _ _ _ _ _ _ _ _ _ _ _ _ _ _ _ _ _ _ ⟨?_, ?_, ?_, ?_, ?_, ?_, ?_, ?_, ?_, ?_, ?_, ?_, ?_, ?_⟩ <;> first | assumption
    refine Ok_if (fun _ => ?_) (fun _ => ?_)
    · refine Ok_inB (vp_of (by omega) (by omega)) ?_
      refine Ok_jn (fun k403 wk403 => ?_)
      have go2 : ∀ (i405 : Int32), Ok (k403 i405) (fun _ => True) := by
        intro i405
        rw [wk403]
        show Ok ((fX6_parts i269 i270 i271 f272 f273 f277 f278 i283 i284 i285 f286 i405).bind (fun z406 => inB (i265 + (1 : Int32)) L (jn (fun (i409 : Int32) => (fX8_parts i292 i295 i296 f302 i409).bind (fun z410 => k305 i266 i267 i268 i269 i270 i271 f272 f273 i269 i270 i271 z406.2.1 z406.2.2.1 i279 i280 f281 f282 z406.2.2.2.1 z406.2.2.2.2.1 z406.2.2.2.2.2.1 z406.2.2.2.2.2.2 i288 i289 n290 f291 i292 i295 i296 i297 i298 i299 (0 : Int32) f301 f302 l303)) (fun (k407 : Int32 → Option Unit) => if (xs (i265 + (1 : Int32)).toNatClampNeg) = (0 : Int32) then (k407 (0 : Int32)) else (k407 (1 : Int32)))))) _
        refine Ok_bind (ok_X6_parts i269 i270 i271 f272 f273 f277 f278 i283 i284 i285 f286 i405 (by assumption) (by assumption)) (fun z406 hz406 => ?_)
        refine Ok_inB (vp_of (by omega) (by omega)) ?_
        refine Ok_jn (fun k407 wk407 => ?_)
        have go2 : ∀ (i409 : Int32), Ok (k407 i409) (fun _ => True) := by
          intro i409
          rw [wk407]
          show Ok ((fX8_parts i292 i295 i296 f302 i409).bind (fun z410 => k305 i266 i267 i268 i269 i270 i271 f272 f273 i269 i270 i271 z406.2.1 z406.2.2.1 i279 i280 f281 f282 z406.2.2.2.1 z406.2.2.2.2.1 z406.2.2.2.2.2.1 z406.2.2.2.2.2.2 i288 i289 n290 f291 i292 i295 i296 i297 i298 i299 (0 : Int32) f301 f302 l303)) _
          refine Ok_bind (ok_X8_parts i292 i295 i296 f302 i409 (by assumption) (by assumption) (by assumption) (by assumption)) (fun z410 hz410 => ?_)
          refine go _ _ _ _ _ _ _ _ _ _ _ _ _ _ _ _ _ _ _ _ _ _ _ _ _ _ _ _ _ _ _ _ _ _ _ ⟨?_, ?_, ?_, ?_, ?_, ?_, ?_, ?_, ?_, ?_, ?_, ?_, ?_, ?_⟩ <;> first | assumption | exact hz406
        exact Ok_if (fun _ => go2 _) (fun _ => go2 _)
      exact Ok_if (fun _ => go2 _) (fun _ => go2 _)
    refine Ok_if (fun _ => ?_) (fun _ => ?_)
    · refine Ok_bind (ok_X6_partsText i269 i270 i271 f272 f273 f277 f278 i283 i284 i285 f286 i288 i289 n290 f291 (by assumption) (by assumption) (by assumption)) (fun z411 hz411 => ?_)
      refine Ok_bind (ok_X8_partsText i292 i295 i296 f302 (by assumption) (by assumption) (by assumption) (by assumption)) (fun z414 hz414 => ?_)
      refine go _ _ _ _ _ _ _ _ _ _ _ _ _ _ _ _ _ _ _ _ _ _ _ _ _ _ _ _ _ _ _ _ _ _ _ ⟨?_, ?_, ?_, ?_, ?_, ?_, ?_, ?_, ?_, ?_, ?_, ?_, ?_, ?_⟩ <;> first | assumption | exact hz411.1 | exact hz411.2
    refine Ok_if (fun _ => ?_) (fun _ => ?_)
    · refine Ok_inB (vp_of (by omega) (by omega)) ?_
      refine Ok_bind (ok_L_flowText i269 f273 i288 i289 n290 f291 (xs (i265 + (1 : Int32)).toNatClampNeg) (by assumption) (by assumption)) (fun z416 hz416 => ?_)
      refine Ok_inB (vp_of (by omega) (by omega)) ?_
      refine Ok_bind (flowText_iv hI en) (fun z419 hz419 => ?_)
      refine go _ _ _ _ _ _ _ _ _ _ _ _ _ _ _ _ _ _ _ _ _ _ _ _ _ _ _ _ _ _ _ _ _ _ _ ⟨?_, ?_, ?_, ?_, ?_, ?_, ?_, ?_, ?_, ?_, ?_, ?_, ?_, ?_⟩ <;> first | assumption | exact hz416
    refine Ok_if (fun _ => ?_) (fun _ => ?_)
    · refine Ok_inB (vp_of (by omega) (by omega)) ?_
      refine Ok_inB (vp_of (by omega) (by omega)) ?_
      refine Ok_inB (vp_of (by omega) (by omega)) ?_
      refine Ok_bind (ok2_L_would i269 i270 i271 f272 f273 i274 i275 i276 f277 f278 i279 i280 f281 f282 l303 (xs (i265 + (1 : Int32)).toNatClampNeg) (xs (i265 + (2 : Int32)).toNatClampNeg) (xs (i265 + (3 : Int32)).toNatClampNeg) (by assumption) (by assumption) (by assumption)) (fun z421 hz421 => ?_)
      refine Ok_inB (vp_of (by omega) (by omega)) ?_
      refine Ok_inB (vp_of (by omega) (by omega)) ?_
      refine Ok_inB (vp_of (by omega) (by omega)) ?_
      refine Ok_bind (would_keep hI en es eg) (fun z423 hz423 => ?_)
      refine go _ _ _ _ _ _ _ _ _ _ _ _ _ _ _ _ _ _ _ _ _ _ _ _ _ _ _ _ _ _ _ _ _ _ _ ⟨?_, ?_, ?_, ?_, ?_, ?_, ?_, ?_, ?_, ?_, ?_, ?_, ?_, ?_⟩ <;> first | assumption | exact hz421.1 | exact hz421.2 | exact hRo.trans hz423.symm | exact ri_would hI en es eg hz423
    refine Ok_if (fun _ => ?_) (fun _ => ?_)
    · refine Ok_inB (vp_of (by omega) (by omega)) ?_
      refine Ok_inB (vp_of (by omega) (by omega)) ?_
      refine Ok_bind (ok2_L_between i269 f272 f273 i274 i275 i276 f277 f278 i279 i280 f281 f282 l303 (xs (i265 + (1 : Int32)).toNatClampNeg) (xs (i265 + (2 : Int32)).toNatClampNeg) (by assumption) (by assumption) (by assumption)) (fun z424 hz424 => ?_)
      refine Ok_inB (vp_of (by omega) (by omega)) ?_
      refine Ok_inB (vp_of (by omega) (by omega)) ?_
      refine Ok_bind (ok_X8_between i292 f301 (xs (i265 + (1 : Int32)).toNatClampNeg) (xs (i265 + (2 : Int32)).toNatClampNeg) (by assumption)) (fun z426 hz426 => ?_)
      refine go _ _ _ _ _ _ _ _ _ _ _ _ _ _ _ _ _ _ _ _ _ _ _ _ _ _ _ _ _ _ _ _ _ _ _ ⟨?_, ?_, ?_, ?_, ?_, ?_, ?_, ?_, ?_, ?_, ?_, ?_, ?_, ?_⟩ <;> first | assumption | exact hz424.1 | exact hz424.2
    refine Ok_if (fun _ => ?_) (fun _ => ?_)
    · refine Ok_bind (ok_X6_about i269 i270 i271 f272 f273 f277 f278 i279 i280 f281 f282 (by assumption) (by assumption) (by assumption)) (fun z427 hz427 => ?_)
      refine Ok_bind (ok_X8_about i292 i295 i296 f301 (by assumption) (by assumption) (by assumption)) (fun z428 hz428 => ?_)
      refine go _ _ _ _ _ _ _ _ _ _ _ _ _ _ _ _ _ _ _ _ _ _ _ _ _ _ _ _ _ _ _ _ _ _ _ ⟨?_, ?_, ?_, ?_, ?_, ?_, ?_, ?_, ?_, ?_, ?_, ?_, ?_, ?_⟩ <;> first | assumption | exact hz427.1 | exact hz427.2
    refine Ok_if (fun _ => ?_) (fun _ => ?_)
    · refine Ok_inB (vp_of (by omega) (by omega)) ?_
      refine Ok_bind (ok2_L_apart i269 i270 i271 f272 f273 i274 i275 i276 f277 f278 i279 i280 f281 f282 l303 (xs (i265 + (1 : Int32)).toNatClampNeg) (by assumption) (by assumption) (by assumption)) (fun z429 hz429 => ?_)
      refine Ok_inB (vp_of (by omega) (by omega)) ?_
      refine Ok_bind (ok_X8_apart i292 i295 i296 f301 (xs (i265 + (1 : Int32)).toNatClampNeg) (by assumption) (by assumption) (by assumption)) (fun z431 hz431 => ?_)
      refine go _ _ _ _ _ _ _ _ _ _ _ _ _ _ _ _ _ _ _ _ _ _ _ _ _ _ _ _ _ _ _ _ _ _ _ ⟨?_, ?_, ?_, ?_, ?_, ?_, ?_, ?_, ?_, ?_, ?_, ?_, ?_, ?_⟩ <;> first | assumption | exact hz429.1 | exact hz429.2
    refine Ok_if (fun _ => ?_) (fun _ => ?_)
    · refine Ok_inB (vp_of (by omega) (by omega)) ?_
      refine Ok_bind (ok_L_house i266 i267 i268 l303 (xs (i265 + (1 : Int32)).toNatClampNeg)) (fun z432 hz432 => ?_)
      refine Ok_inB (vp_of (by omega) (by omega)) ?_
      refine Ok_bind (ok_X8_house i297 i298 i299 (xs (i265 + (1 : Int32)).toNatClampNeg)) (fun z434 hz434 => ?_)
      refine go _ _ _ _ _ _ _ _ _ _ _ _ _ _ _ _ _ _ _ _ _ _ _ _ _ _ _ _ _ _ _ _ _ _ _ ⟨?_, ?_, ?_, ?_, ?_, ?_, ?_, ?_, ?_, ?_, ?_, ?_, ?_, ?_⟩ <;> first | assumption
    refine Ok_if (fun _ => ?_) (fun _ => ?_)
    · refine Ok_bind ((Ok_some rfl : Ok (some (i268 + (1 : Int32), i268 + (1 : Int32))) (fun z => z = (i268 + (1 : Int32), i268 + (1 : Int32))))) (fun z435 hz435 => ?_)
      refine Ok_bind ((Ok_some rfl : Ok (some (i299 + (1 : Int32), i299 + (1 : Int32))) (fun z => z = (i299 + (1 : Int32), i299 + (1 : Int32))))) (fun z436 hz436 => ?_)
      refine go _ _ _ _ _ _ _ _ _ _ _ _ _ _ _ _ _ _ _ _ _ _ _ _ _ _ _ _ _ _ _ _ _ _ _ ⟨?_, ?_, ?_, ?_, ?_, ?_, ?_, ?_, ?_, ?_, ?_, ?_, ?_, ?_⟩ <;> first | assumption | (rw [hz435, hz436, hkn])
    refine Ok_if (fun _ => ?_) (fun _ => ?_)
    · refine Ok_bind (ok_X6_isSound i269 i270 i271 f272 f273 f277 f278 i279 i280 f281 f282 i283 i284 i285 f286 (by assumption) (by assumption) (by assumption) (by assumption)) (fun z437 hz437 => ?_)
      refine Ok_bind (ok_X8_isSound i292 i295 i296 f301 f302 (by assumption) (by assumption) (by assumption) (by assumption)) (fun z438 hz438 => ?_)
      refine go _ _ _ _ _ _ _ _ _ _ _ _ _ _ _ _ _ _ _ _ _ _ _ _ _ _ _ _ _ _ _ _ _ _ _ ⟨?_, ?_, ?_, ?_, ?_, ?_, ?_, ?_, ?_, ?_, ?_, ?_, ?_, ?_⟩ <;> first | assumption | exact hz437.1 | exact hz437.2.1 | exact hz437.2.2
    refine Ok_if (fun _ => ?_) (fun _ => ?_)
    · refine Ok_bind (ok_X6_digest i266 i267 i268 i269 i270 i271 f272 f273 f277 f278 i279 i280 f281 f282 i283 i284 i285 f286 i288 i289 n290 f291 (by assumption) (by assumption) (by assumption) (by assumption) (by assumption)) (fun z439 hz439 => ?_)
      refine Ok_bind (ok_X8_digest i292 i295 i296 i297 i298 i299 f301 f302 (by assumption) (by assumption) (by assumption) (by assumption)) (fun z441 hz441 => ?_)
      refine go _ _ _ _ _ _ _ _ _ _ _ _ _ _ _ _ _ _ _ _ _ _ _ _ _ _ _ _ _ _ _ _ _ _ _ ⟨?_, ?_, ?_, ?_, ?_, ?_, ?_, ?_, ?_, ?_, ?_, ?_, ?_, ?_⟩ <;> first | assumption | exact hz439.1 | exact hz439.2.1 | exact hz439.2.2.1 | exact hz439.2.2.2
    refine go _ _ _ _ _ _ _ _ _ _ _ _ _ _ _ _ _ _ _ _ _ _ _ _ _ _ _ _ _ _ _ _ _ _ _ ⟨?_, ?_, ?_, ?_, ?_, ?_, ?_, ?_, ?_, ?_, ?_, ?_, ?_, ?_⟩ <;> first | assumption
theorem law_true {L : Nat} (hL : L ≤ 320) (xs : Nat → Int32) : fL_law L xs = some () := by
  have h : Ok (fL_law L xs) (fun _ => True) := by
    unfold fL_law
    refine Ok_bind cinit_iv (fun z2 h2 => Ok_bind (R := fun z => z = 5) ⟨_, x8_init, rfl⟩ (fun z23 h23 => Ok_bind (R := fun _ => True) ⟨_, rfl, trivial⟩ (fun z27 _ => ?_)))
    subst h23
    exact law_loop hL xs 66 _ _ _ _ _ _ _ _ _ _ _ _ _ _ _ _ _ _ _ _ _ _ _ _ _ _ _ _ _ _ _ _ _ _ _ _ ⟨by decide, by decide, by decide, by decide, CT_init, rfl, rfl, h2.1, rfl, rfl, rfl, zero_same h2.2.1 (fun _ _ _ _ => rfl), zero_same h2.2.2 (fun _ _ _ _ => rfl), ri_init⟩ ⟨by decide, by show (0 : Int) ≤ L; omega⟩ (by show (L : Int) - 0 < 5 * 66; omega)
  obtain ⟨z, h1, -⟩ := h
  rw [h1]
