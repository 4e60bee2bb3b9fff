/-! the law, case by case -/
theorem wl_bool {X : Nat × (Nat → Int32)} {pc : Nat} {lv : List (Nat × Value)} {st : List Value} {sh : px_Sh} {M : px_M} {L : px_L} {R : px_R} {n cu su : Nat} {x : Int32} (d1 : decode cL_law pc = .ok (.ifCond .eq 7, 3)) (d2 : decode cL_law (pc + 3) = .ok (.iconst 1, 1)) (d3 : decode cL_law (pc + 3 + 1) = .ok (.goto 4, 3)) (d4 : decode cL_law (pc + 7) = .ok (.iconst 0, 1)) (h : LW X (pc + 7 + 1) lv (.int (if x = 0 then 0 else 1) :: st) sh M L R n cu su) : LW X pc lv (.int x :: st) sh M L R n cu su := by
  refine wx_if_eq (tgt := pc + 7) d1 (by omega) (fun z => ?_) (fun z => ?_)
  · refine wx_iconst (v := 0) d4 (by decide) ?_
    rw [if_pos z] at h
    exact h
  · refine wx_iconst (v := 1) d2 (by decide) ?_
    refine wx_goto (tgt := pc + 7 + 1) d3 (by omega) ?_
    rw [if_neg z] at h
    exact h
theorem zb_if (x : Int32) : zb (if x = 0 then 0 else 1) = true := by split <;> rfl
section CASES
variable {X : Nat × (Nat → Int32)} {sh : px_Sh} {M : px_M} {L : px_L} {R : px_R} {n cu su c i : Nat}
theorem lcx_0 (hI : IA c sh M L R n cu su) (hc : c + 1 ≤ 512) (hi : i + 5 < X.1) (hX : X.1 ≤ 3072) (G : ∀ sh2 M2 L2 R2 n2 cu2 su2, IA (c + 1) sh2 M2 L2 R2 n2 cu2 su2 → LW X 3016 (lv0 i) [] sh2 M2 L2 R2 n2 cu2 su2) : LW X 240 (lv0 i) [] sh M L R n cu su := by
  have hr := hI.room (by omega)
  refine wx_aload_n dL_law_240 rfl ?_
  refine wl_arg (k := 1) dL_law_241 dL_law_242 dL_law_244 dL_law_245 dL_law_246 (by decide) (by omega) hX rfl rfl ?_
  refine wl_arg (k := 2) dL_law_247 dL_law_248 dL_law_250 dL_law_251 dL_law_252 (by decide) (by omega) hX rfl rfl ?_
  refine wx_aload_n dL_law_253 rfl ?_
  refine wl_K (k_strip hI (X.2 (i + 1)) (X.2 (i + 2))) hr dL_law_254 (px_mem 623 (by decide +kernel) rfl) mw_L_strip rfl (fun k sh1 M1 L1 R1 n1 cu1 su1 hK => ?_)
  refine wx_istore (lv' := (5, .int k) :: lv0 i) dL_law_257 (by decide) rfl ?_
  refine wx_aload_n dL_law_259 rfl ?_
  refine wl_arg (k := 1) dL_law_260 dL_law_261 dL_law_263 dL_law_264 dL_law_265 (by decide) (by omega) hX rfl rfl ?_
  refine wl_arg (k := 2) dL_law_266 dL_law_267 dL_law_269 dL_law_270 dL_law_271 (by decide) (by omega) hX rfl rfl ?_
  refine wl_M hK dL_law_272 ml_L_155 my_X12_strip iv_X12_strip rfl (fun v w sh2 M2 L2 R2 n2 cu2 su2 a1 a2 a3 a4 => ?_)
  exact tl_I a1 a2 a3 a4 hc dL_law_275 dL_law_277 dL_law_278 dL_law_281 dL_law_283 dL_law_288 dL_law_290 dL_law_293 dL_law_294 dL_law_295 dL_law_296 dL_law_298 dL_law_299 dL_law_300 dL_law_305 (by decide) (G _ _ _ _ _ _ _ a4)
theorem lcx_1 (hI : IA c sh M L R n cu su) (hc : c + 1 ≤ 512) (hi : i + 5 < X.1) (hX : X.1 ≤ 3072) (G : ∀ sh2 M2 L2 R2 n2 cu2 su2, IA (c + 1) sh2 M2 L2 R2 n2 cu2 su2 → LW X 3016 (lv0 i) [] sh2 M2 L2 R2 n2 cu2 su2) : LW X 308 (lv0 i) [] sh M L R n cu su := by
  have hr := hI.room (by omega)
  refine wx_aload_n dL_law_308 rfl ?_
  refine wl_arg (k := 1) dL_law_309 dL_law_310 dL_law_312 dL_law_313 dL_law_314 (by decide) (by omega) hX rfl rfl ?_
  refine wl_D (k_layer hI (X.2 (i + 1))) hI hr dL_law_315 ml_L_159 my_X11_layer iv_X11_layer rfl (fun k sh1 M1 L1 R1 n1 P2 hS1 hm hk => ?_)
  refine wx_aload_n dL_law_318 rfl ?_
  refine wl_arg (k := 1) dL_law_319 dL_law_320 dL_law_322 dL_law_323 dL_law_324 (by decide) (by omega) hX rfl rfl ?_
  exact wl_E hS1 hm hk hr dL_law_325 ml_L_162 my_X12_layer iv_X12_layer rfl dL_law_328 (by decide) (fun sh2 M2 L2 R2 n2 hI2 => G _ _ _ _ _ _ _ hI2)
theorem lcx_2 (hI : IA c sh M L R n cu su) (hc : c + 1 ≤ 512) (hi : i + 5 < X.1) (hX : X.1 ≤ 3072) (G : ∀ sh2 M2 L2 R2 n2 cu2 su2, IA (c + 1) sh2 M2 L2 R2 n2 cu2 su2 → LW X 3016 (lv0 i) [] sh2 M2 L2 R2 n2 cu2 su2) : LW X 333 (lv0 i) [] sh M L R n cu su := by
  have hr := hI.room (by omega)
  refine wx_aload_n dL_law_333 rfl ?_
  refine wl_arg (k := 1) dL_law_334 dL_law_335 dL_law_337 dL_law_338 dL_law_339 (by decide) (by omega) hX rfl rfl ?_
  refine wx_aload_n dL_law_340 rfl ?_
  refine wl_K (k_lies hI (X.2 (i + 1))) hr dL_law_341 (px_mem 733 (by decide +kernel) rfl) mw_L_lies rfl (fun k sh1 M1 L1 R1 n1 cu1 su1 hK => ?_)
  refine wx_istore (lv' := (5, .int k) :: lv0 i) dL_law_344 (by decide) rfl ?_
  refine wx_aload_n dL_law_346 rfl ?_
  refine wl_arg (k := 1) dL_law_347 dL_law_348 dL_law_350 dL_law_351 dL_law_352 (by decide) (by omega) hX rfl rfl ?_
  refine wl_M hK dL_law_353 ml_L_166 my_X12_lies iv_X12_lies rfl (fun v w sh2 M2 L2 R2 n2 cu2 su2 a1 a2 a3 a4 => ?_)
  exact tl_Z a1 a2 a3 a4 hc dL_law_356 dL_law_358 dL_law_359 dL_law_362 dL_law_364 dL_law_369 dL_law_371 dL_law_374 dL_law_375 dL_law_376 dL_law_377 dL_law_379 dL_law_382 dL_law_383 dL_law_386 dL_law_387 dL_law_388 dL_law_393 (by decide) (G _ _ _ _ _ _ _ a4)
theorem lcx_3 (hI : IA c sh M L R n cu su) (hc : c + 1 ≤ 512) (hi : i + 5 < X.1) (hX : X.1 ≤ 3072) (G : ∀ sh2 M2 L2 R2 n2 cu2 su2, IA (c + 1) sh2 M2 L2 R2 n2 cu2 su2 → LW X 3016 (lv0 i) [] sh2 M2 L2 R2 n2 cu2 su2) : LW X 396 (lv0 i) [] sh M L R n cu su := by
  have hr := hI.room (by omega)
  refine wx_aload_n dL_law_396 rfl ?_
  refine wl_arg (k := 1) dL_law_397 dL_law_398 dL_law_400 dL_law_401 dL_law_402 (by decide) (by omega) hX rfl rfl ?_
  refine wx_aload_n dL_law_403 rfl ?_
  refine wl_K (k_clear hI (X.2 (i + 1))) hr dL_law_404 (px_mem 768 (by decide +kernel) rfl) mw_L_clear rfl (fun k sh1 M1 L1 R1 n1 cu1 su1 hK => ?_)
  refine wx_istore (lv' := (5, .int k) :: lv0 i) dL_law_407 (by decide) rfl ?_
  refine wx_aload_n dL_law_409 rfl ?_
  refine wl_arg (k := 1) dL_law_410 dL_law_411 dL_law_413 dL_law_414 dL_law_415 (by decide) (by omega) hX rfl rfl ?_
  refine wl_M hK dL_law_416 ml_L_169 my_X12_clear iv_X12_clear rfl (fun v w sh2 M2 L2 R2 n2 cu2 su2 a1 a2 a3 a4 => ?_)
  exact tl_Z a1 a2 a3 a4 hc dL_law_419 dL_law_421 dL_law_422 dL_law_425 dL_law_427 dL_law_432 dL_law_434 dL_law_437 dL_law_438 dL_law_439 dL_law_440 dL_law_442 dL_law_445 dL_law_446 dL_law_449 dL_law_450 dL_law_451 dL_law_456 (by decide) (G _ _ _ _ _ _ _ a4)
theorem lcx_4 (hI : IA c sh M L R n cu su) (hc : c + 1 ≤ 512) (hi : i + 5 < X.1) (hX : X.1 ≤ 3072) (G : ∀ sh2 M2 L2 R2 n2 cu2 su2, IA (c + 1) sh2 M2 L2 R2 n2 cu2 su2 → LW X 3016 (lv0 i) [] sh2 M2 L2 R2 n2 cu2 su2) : LW X 459 (lv0 i) [] sh M L R n cu su := by
  have hr := hI.room (by omega)
  refine wx_aload_n dL_law_459 rfl ?_
  refine wl_arg (k := 1) dL_law_460 dL_law_461 dL_law_463 dL_law_464 dL_law_465 (by decide) (by omega) hX rfl rfl ?_
  refine wx_aload_n dL_law_466 rfl ?_
  refine wl_K (k_open hI (X.2 (i + 1))) hr dL_law_467 (px_mem 810 (by decide +kernel) rfl) mw_L_open rfl (fun k sh1 M1 L1 R1 n1 cu1 su1 hK => ?_)
  refine wx_istore (lv' := (5, .int k) :: lv0 i) dL_law_470 (by decide) rfl ?_
  refine wx_aload_n dL_law_472 rfl ?_
  refine wl_arg (k := 1) dL_law_473 dL_law_474 dL_law_476 dL_law_477 dL_law_478 (by decide) (by omega) hX rfl rfl ?_
  refine wl_M hK dL_law_479 ml_L_172 my_X12_open iv_X12_open rfl (fun v w sh2 M2 L2 R2 n2 cu2 su2 a1 a2 a3 a4 => ?_)
  exact tl_I a1 a2 a3 a4 hc dL_law_482 dL_law_484 dL_law_485 dL_law_488 dL_law_490 dL_law_495 dL_law_497 dL_law_500 dL_law_501 dL_law_502 dL_law_503 dL_law_505 dL_law_506 dL_law_507 dL_law_512 (by decide) (G _ _ _ _ _ _ _ a4)
theorem lcx_5 (hI : IA c sh M L R n cu su) (hc : c + 1 ≤ 512) (hi : i + 5 < X.1) (hX : X.1 ≤ 3072) (G : ∀ sh2 M2 L2 R2 n2 cu2 su2, IA (c + 1) sh2 M2 L2 R2 n2 cu2 su2 → LW X 3016 (lv0 i) [] sh2 M2 L2 R2 n2 cu2 su2) : LW X 515 (lv0 i) [] sh M L R n cu su := by
  have hr := hI.room (by omega)
  refine wx_aload_n dL_law_515 rfl ?_
  refine wx_aload_n dL_law_516 rfl ?_
  refine wl_K (k_orders hI) hr dL_law_517 (px_mem 822 (by decide +kernel) rfl) mw_L_orders rfl (fun k sh1 M1 L1 R1 n1 cu1 su1 hK => ?_)
  refine wx_istore (lv' := (5, .int k) :: lv0 i) dL_law_520 (by decide) rfl ?_
  refine wx_aload_n dL_law_522 rfl ?_
  refine wl_M hK dL_law_523 ml_L_176 my_X12_orders iv_X12_orders rfl (fun v w sh2 M2 L2 R2 n2 cu2 su2 a1 a2 a3 a4 => ?_)
  exact tl_I a1 a2 a3 a4 hc dL_law_526 dL_law_528 dL_law_529 dL_law_532 dL_law_534 dL_law_539 dL_law_541 dL_law_544 dL_law_545 dL_law_546 dL_law_547 dL_law_549 dL_law_550 dL_law_551 dL_law_556 (by decide) (G _ _ _ _ _ _ _ a4)
theorem lcx_6 (hI : IA c sh M L R n cu su) (hc : c + 1 ≤ 512) (hi : i + 5 < X.1) (hX : X.1 ≤ 3072) (G : ∀ sh2 M2 L2 R2 n2 cu2 su2, IA (c + 1) sh2 M2 L2 R2 n2 cu2 su2 → LW X 3016 (lv0 i) [] sh2 M2 L2 R2 n2 cu2 su2) : LW X 559 (lv0 i) [] sh M L R n cu su := by
  have hr := hI.room (by omega)
  refine wx_aload_n dL_law_559 rfl ?_
  refine wl_arg (k := 1) dL_law_560 dL_law_561 dL_law_563 dL_law_564 dL_law_565 (by decide) (by omega) hX rfl rfl ?_
  refine wx_aload_n dL_law_566 rfl ?_
  refine wl_K (k_safe hI (X.2 (i + 1))) hr dL_law_567 (px_mem 837 (by decide +kernel) rfl) mw_L_safe rfl (fun k sh1 M1 L1 R1 n1 cu1 su1 hK => ?_)
  refine wx_istore (lv' := (5, .int k) :: lv0 i) dL_law_570 (by decide) rfl ?_
  refine wx_aload_n dL_law_572 rfl ?_
  refine wl_arg (k := 1) dL_law_573 dL_law_574 dL_law_576 dL_law_577 dL_law_578 (by decide) (by omega) hX rfl rfl ?_
  refine wl_M hK dL_law_579 ml_L_179 my_X12_safe iv_X12_safe rfl (fun v w sh2 M2 L2 R2 n2 cu2 su2 a1 a2 a3 a4 => ?_)
  exact tl_I a1 a2 a3 a4 hc dL_law_582 dL_law_584 dL_law_585 dL_law_588 dL_law_590 dL_law_595 dL_law_597 dL_law_600 dL_law_601 dL_law_602 dL_law_603 dL_law_605 dL_law_606 dL_law_607 dL_law_612 (by decide) (G _ _ _ _ _ _ _ a4)
theorem lcx_7 (hI : IA c sh M L R n cu su) (hc : c + 1 ≤ 512) (hi : i + 5 < X.1) (hX : X.1 ≤ 3072) (G : ∀ sh2 M2 L2 R2 n2 cu2 su2, IA (c + 1) sh2 M2 L2 R2 n2 cu2 su2 → LW X 3016 (lv0 i) [] sh2 M2 L2 R2 n2 cu2 su2) : LW X 615 (lv0 i) [] sh M L R n cu su := by
  have hr := hI.room (by omega)
  refine wx_aload_n dL_law_615 rfl ?_
  refine wl_arg (k := 1) dL_law_616 dL_law_617 dL_law_619 dL_law_620 dL_law_621 (by decide) (by omega) hX rfl rfl ?_
  refine wl_arg (k := 2) dL_law_622 dL_law_623 dL_law_625 dL_law_626 dL_law_627 (by decide) (by omega) hX rfl rfl ?_
  refine wl_arg (k := 3) dL_law_628 dL_law_629 dL_law_631 dL_law_632 dL_law_633 (by decide) (by omega) hX rfl rfl ?_
  refine wl_arg (k := 4) dL_law_634 dL_law_635 dL_law_637 dL_law_638 dL_law_639 (by decide) (by omega) hX rfl rfl ?_
  refine wl_arg (k := 5) dL_law_640 dL_law_641 dL_law_643 dL_law_644 dL_law_645 (by decide) (by omega) hX rfl rfl ?_
  refine wx_aload_n dL_law_646 rfl ?_
  refine wl_K (k_panel hI (X.2 (i + 1)) (X.2 (i + 2)) (X.2 (i + 3)) (X.2 (i + 4)) (X.2 (i + 5))) hr dL_law_647 (px_mem 854 (by decide +kernel) rfl) mw_L_panel rfl (fun k sh1 M1 L1 R1 n1 cu1 su1 hK => ?_)
  refine wx_istore (lv' := (5, .int k) :: lv0 i) dL_law_650 (by decide) rfl ?_
  refine wx_aload_n dL_law_652 rfl ?_
  refine wl_arg (k := 1) dL_law_653 dL_law_654 dL_law_656 dL_law_657 dL_law_658 (by decide) (by omega) hX rfl rfl ?_
  refine wl_arg (k := 2) dL_law_659 dL_law_660 dL_law_662 dL_law_663 dL_law_664 (by decide) (by omega) hX rfl rfl ?_
  refine wl_arg (k := 3) dL_law_665 dL_law_666 dL_law_668 dL_law_669 dL_law_670 (by decide) (by omega) hX rfl rfl ?_
  refine wl_arg (k := 4) dL_law_671 dL_law_672 dL_law_674 dL_law_675 dL_law_676 (by decide) (by omega) hX rfl rfl ?_
  refine wl_arg (k := 5) dL_law_677 dL_law_678 dL_law_680 dL_law_681 dL_law_682 (by decide) (by omega) hX rfl rfl ?_
  refine wl_M hK dL_law_683 ml_L_183 my_X12_panel iv_X12_panel rfl (fun v w sh2 M2 L2 R2 n2 cu2 su2 a1 a2 a3 a4 => ?_)
  exact tl_I a1 a2 a3 a4 hc dL_law_686 dL_law_688 dL_law_689 dL_law_692 dL_law_694 dL_law_699 dL_law_701 dL_law_704 dL_law_705 dL_law_706 dL_law_707 dL_law_709 dL_law_710 dL_law_711 dL_law_716 (by decide) (G _ _ _ _ _ _ _ a4)
theorem lcx_8 (hI : IA c sh M L R n cu su) (hc : c + 1 ≤ 512) (hi : i + 5 < X.1) (hX : X.1 ≤ 3072) (G : ∀ sh2 M2 L2 R2 n2 cu2 su2, IA (c + 1) sh2 M2 L2 R2 n2 cu2 su2 → LW X 3016 (lv0 i) [] sh2 M2 L2 R2 n2 cu2 su2) : LW X 719 (lv0 i) [] sh M L R n cu su := by
  have hr := hI.room (by omega)
  refine wx_aload_n dL_law_719 rfl ?_
  refine wl_arg (k := 1) dL_law_720 dL_law_721 dL_law_723 dL_law_724 dL_law_725 (by decide) (by omega) hX rfl rfl ?_
  refine wl_arg (k := 2) dL_law_726 dL_law_727 dL_law_729 dL_law_730 dL_law_731 (by decide) (by omega) hX rfl rfl ?_
  refine wx_aload_n dL_law_732 rfl ?_
  refine wl_K (k_of hI (X.2 (i + 1)) (X.2 (i + 2))) hr dL_law_733 (px_mem 919 (by decide +kernel) rfl) mw_L_of rfl (fun k sh1 M1 L1 R1 n1 cu1 su1 hK => ?_)
  refine wx_istore (lv' := (5, .int k) :: lv0 i) dL_law_736 (by decide) rfl ?_
  refine wx_aload_n dL_law_738 rfl ?_
  refine wl_arg (k := 1) dL_law_739 dL_law_740 dL_law_742 dL_law_743 dL_law_744 (by decide) (by omega) hX rfl rfl ?_
  refine wl_arg (k := 2) dL_law_745 dL_law_746 dL_law_748 dL_law_749 dL_law_750 (by decide) (by omega) hX rfl rfl ?_
  refine wl_M hK dL_law_751 ml_L_186 my_X12_of iv_X12_of rfl (fun v w sh2 M2 L2 R2 n2 cu2 su2 a1 a2 a3 a4 => ?_)
  exact tl_I a1 a2 a3 a4 hc dL_law_754 dL_law_756 dL_law_757 dL_law_760 dL_law_762 dL_law_767 dL_law_769 dL_law_772 dL_law_773 dL_law_774 dL_law_775 dL_law_777 dL_law_778 dL_law_779 dL_law_784 (by decide) (G _ _ _ _ _ _ _ a4)
theorem lcx_9 (hI : IA c sh M L R n cu su) (hc : c + 1 ≤ 512) (hi : i + 5 < X.1) (hX : X.1 ≤ 3072) (G : ∀ sh2 M2 L2 R2 n2 cu2 su2, IA (c + 1) sh2 M2 L2 R2 n2 cu2 su2 → LW X 3016 (lv0 i) [] sh2 M2 L2 R2 n2 cu2 su2) : LW X 787 (lv0 i) [] sh M L R n cu su := by
  have hr := hI.room (by omega)
  refine wx_aload_n dL_law_787 rfl ?_
  refine wl_arg (k := 1) dL_law_788 dL_law_789 dL_law_791 dL_law_792 dL_law_793 (by decide) (by omega) hX rfl rfl ?_
  refine wx_aload_n dL_law_794 rfl ?_
  refine wl_K (k_tear hI (X.2 (i + 1))) hr dL_law_795 (px_mem 955 (by decide +kernel) rfl) mw_L_tear rfl (fun k sh1 M1 L1 R1 n1 cu1 su1 hK => ?_)
  refine wx_istore (lv' := (5, .int k) :: lv0 i) dL_law_798 (by decide) rfl ?_
  refine wx_aload_n dL_law_800 rfl ?_
  refine wl_arg (k := 1) dL_law_801 dL_law_802 dL_law_804 dL_law_805 dL_law_806 (by decide) (by omega) hX rfl rfl ?_
  refine wl_M hK dL_law_807 ml_L_189 my_X12_tear iv_X12_tear rfl (fun v w sh2 M2 L2 R2 n2 cu2 su2 a1 a2 a3 a4 => ?_)
  exact tl_Z a1 a2 a3 a4 hc dL_law_810 dL_law_812 dL_law_813 dL_law_816 dL_law_818 dL_law_823 dL_law_825 dL_law_828 dL_law_829 dL_law_830 dL_law_831 dL_law_833 dL_law_836 dL_law_837 dL_law_840 dL_law_841 dL_law_842 dL_law_847 (by decide) (G _ _ _ _ _ _ _ a4)
theorem lcx_10 (hI : IA c sh M L R n cu su) (hc : c + 1 ≤ 512) (hi : i + 5 < X.1) (hX : X.1 ≤ 3072) (G : ∀ sh2 M2 L2 R2 n2 cu2 su2, IA (c + 1) sh2 M2 L2 R2 n2 cu2 su2 → LW X 3016 (lv0 i) [] sh2 M2 L2 R2 n2 cu2 su2) : LW X 850 (lv0 i) [] sh M L R n cu su := by
  have hr := hI.room (by omega)
  refine wx_aload_n dL_law_850 rfl ?_
  refine wl_arg (k := 1) dL_law_851 dL_law_852 dL_law_854 dL_law_855 dL_law_856 (by decide) (by omega) hX rfl rfl ?_
  refine wx_aload_n dL_law_857 rfl ?_
  refine wl_K (k_flap hI (X.2 (i + 1))) hr dL_law_858 (px_mem 962 (by decide +kernel) rfl) mw_L_flap rfl (fun k sh1 M1 L1 R1 n1 cu1 su1 hK => ?_)
  refine wx_istore (lv' := (5, .int k) :: lv0 i) dL_law_861 (by decide) rfl ?_
  refine wx_aload_n dL_law_863 rfl ?_
  refine wl_arg (k := 1) dL_law_864 dL_law_865 dL_law_867 dL_law_868 dL_law_869 (by decide) (by omega) hX rfl rfl ?_
  refine wl_M hK dL_law_870 ml_L_192 my_X12_flap iv_X12_flap rfl (fun v w sh2 M2 L2 R2 n2 cu2 su2 a1 a2 a3 a4 => ?_)
  exact tl_I a1 a2 a3 a4 hc dL_law_873 dL_law_875 dL_law_876 dL_law_879 dL_law_881 dL_law_886 dL_law_888 dL_law_891 dL_law_892 dL_law_893 dL_law_894 dL_law_896 dL_law_897 dL_law_898 dL_law_903 (by decide) (G _ _ _ _ _ _ _ a4)
theorem lcx_11 (hI : IA c sh M L R n cu su) (hc : c + 1 ≤ 512) (hi : i + 5 < X.1) (hX : X.1 ≤ 3072) (G : ∀ sh2 M2 L2 R2 n2 cu2 su2, IA (c + 1) sh2 M2 L2 R2 n2 cu2 su2 → LW X 3016 (lv0 i) [] sh2 M2 L2 R2 n2 cu2 su2) : LW X 906 (lv0 i) [] sh M L R n cu su := by
  have hr := hI.room (by omega)
  refine wx_aload_n dL_law_906 rfl ?_
  refine wl_arg (k := 1) dL_law_907 dL_law_908 dL_law_910 dL_law_911 dL_law_912 (by decide) (by omega) hX rfl rfl ?_
  refine wl_arg (k := 2) dL_law_913 dL_law_914 dL_law_916 dL_law_917 dL_law_918 (by decide) (by omega) hX rfl rfl ?_
  refine wx_aload_n dL_law_919 rfl ?_
  refine wl_K (k_bend hI (X.2 (i + 1)) (X.2 (i + 2))) hr dL_law_920 (px_mem 973 (by decide +kernel) rfl) mw_L_bend rfl (fun k sh1 M1 L1 R1 n1 cu1 su1 hK => ?_)
  refine wx_istore (lv' := (5, .int k) :: lv0 i) dL_law_923 (by decide) rfl ?_
  refine wx_aload_n dL_law_925 rfl ?_
  refine wl_arg (k := 1) dL_law_926 dL_law_927 dL_law_929 dL_law_930 dL_law_931 (by decide) (by omega) hX rfl rfl ?_
  refine wl_arg (k := 2) dL_law_932 dL_law_933 dL_law_935 dL_law_936 dL_law_937 (by decide) (by omega) hX rfl rfl ?_
  refine wl_M hK dL_law_938 ml_L_195 my_X12_bend iv_X12_bend rfl (fun v w sh2 M2 L2 R2 n2 cu2 su2 a1 a2 a3 a4 => ?_)
  exact tl_I a1 a2 a3 a4 hc dL_law_941 dL_law_943 dL_law_944 dL_law_947 dL_law_949 dL_law_954 dL_law_956 dL_law_959 dL_law_960 dL_law_961 dL_law_962 dL_law_964 dL_law_965 dL_law_966 dL_law_971 (by decide) (G _ _ _ _ _ _ _ a4)
theorem lcx_12 (hI : IA c sh M L R n cu su) (hc : c + 1 ≤ 512) (hi : i + 5 < X.1) (hX : X.1 ≤ 3072) (G : ∀ sh2 M2 L2 R2 n2 cu2 su2, IA (c + 1) sh2 M2 L2 R2 n2 cu2 su2 → LW X 3016 (lv0 i) [] sh2 M2 L2 R2 n2 cu2 su2) : LW X 974 (lv0 i) [] sh M L R n cu su := by
  have hr := hI.room (by omega)
  refine wx_aload_n dL_law_974 rfl ?_
  refine wl_arg (k := 1) dL_law_975 dL_law_976 dL_law_978 dL_law_979 dL_law_980 (by decide) (by omega) hX rfl rfl ?_
  refine wl_arg (k := 2) dL_law_981 dL_law_982 dL_law_984 dL_law_985 dL_law_986 (by decide) (by omega) hX rfl rfl ?_
  refine wl_bool dL_law_987 dL_law_990 dL_law_991 dL_law_994 ?_
  refine wx_aload_n dL_law_995 rfl ?_
  refine wl_K (k_stuck hI (X.2 (i + 1)) (if X.2 (i + 2) = 0 then 0 else 1) (zb_if _)) hr dL_law_996 (px_mem 984 (by decide +kernel) rfl) mw_L_stuck rfl (fun k sh1 M1 L1 R1 n1 cu1 su1 hK => ?_)
  refine wx_istore (lv' := (5, .int k) :: lv0 i) dL_law_999 (by decide) rfl ?_
  refine wx_aload_n dL_law_1001 rfl ?_
  refine wl_arg (k := 1) dL_law_1002 dL_law_1003 dL_law_1005 dL_law_1006 dL_law_1007 (by decide) (by omega) hX rfl rfl ?_
  refine wl_arg (k := 2) dL_law_1008 dL_law_1009 dL_law_1011 dL_law_1012 dL_law_1013 (by decide) (by omega) hX rfl rfl ?_
  refine wl_bool dL_law_1014 dL_law_1017 dL_law_1018 dL_law_1021 ?_
  refine wl_M hK dL_law_1022 ml_L_199 my_X12_stuck iv_X12_stuck rfl (fun v w sh2 M2 L2 R2 n2 cu2 su2 a1 a2 a3 a4 => ?_)
  exact tl_Z a1 a2 a3 a4 hc dL_law_1025 dL_law_1027 dL_law_1028 dL_law_1031 dL_law_1033 dL_law_1038 dL_law_1040 dL_law_1043 dL_law_1044 dL_law_1045 dL_law_1046 dL_law_1048 dL_law_1051 dL_law_1052 dL_law_1055 dL_law_1056 dL_law_1057 dL_law_1062 (by decide) (G _ _ _ _ _ _ _ a4)
theorem lcx_13 (hI : IA c sh M L R n cu su) (hc : c + 1 ≤ 512) (hi : i + 5 < X.1) (hX : X.1 ≤ 3072) (G : ∀ sh2 M2 L2 R2 n2 cu2 su2, IA (c + 1) sh2 M2 L2 R2 n2 cu2 su2 → LW X 3016 (lv0 i) [] sh2 M2 L2 R2 n2 cu2 su2) : LW X 1065 (lv0 i) [] sh M L R n cu su := by
  have hr := hI.room (by omega)
  refine wx_aload_n dL_law_1065 rfl ?_
  refine wl_arg (k := 1) dL_law_1066 dL_law_1067 dL_law_1069 dL_law_1070 dL_law_1071 (by decide) (by omega) hX rfl rfl ?_
  refine wl_arg (k := 2) dL_law_1072 dL_law_1073 dL_law_1075 dL_law_1076 dL_law_1077 (by decide) (by omega) hX rfl rfl ?_
  refine wl_K (k_weights hI (X.2 (i + 1)) (X.2 (i + 2))) hr dL_law_1078 (px_mem 991 (by decide +kernel) rfl) mw_L_weights rfl (fun k sh1 M1 L1 R1 n1 cu1 su1 hK => ?_)
  refine wx_istore (lv' := (5, .int k) :: lv0 i) dL_law_1081 (by decide) rfl ?_
  refine wx_aload_n dL_law_1083 rfl ?_
  refine wl_arg (k := 1) dL_law_1084 dL_law_1085 dL_law_1087 dL_law_1088 dL_law_1089 (by decide) (by omega) hX rfl rfl ?_
  refine wl_arg (k := 2) dL_law_1090 dL_law_1091 dL_law_1093 dL_law_1094 dL_law_1095 (by decide) (by omega) hX rfl rfl ?_
  refine wl_M hK dL_law_1096 ml_L_203 my_X12_weights iv_X12_weights rfl (fun v w sh2 M2 L2 R2 n2 cu2 su2 a1 a2 a3 a4 => ?_)
  exact tl_V a1 a3 a4 hc dL_law_1099 dL_law_1100 dL_law_1103 dL_law_1105 dL_law_1110 (by decide) (G _ _ _ _ _ _ _ a4)
theorem lcx_14 (hI : IA c sh M L R n cu su) (hc : c + 1 ≤ 512) (hi : i + 5 < X.1) (hX : X.1 ≤ 3072) (G : ∀ sh2 M2 L2 R2 n2 cu2 su2, IA (c + 1) sh2 M2 L2 R2 n2 cu2 su2 → LW X 3016 (lv0 i) [] sh2 M2 L2 R2 n2 cu2 su2) : LW X 1113 (lv0 i) [] sh M L R n cu su := by
  have hr := hI.room (by omega)
  refine wx_aload_n dL_law_1113 rfl ?_
  refine wl_arg (k := 1) dL_law_1114 dL_law_1115 dL_law_1117 dL_law_1118 dL_law_1119 (by decide) (by omega) hX rfl rfl ?_
  refine wl_arg (k := 2) dL_law_1120 dL_law_1121 dL_law_1123 dL_law_1124 dL_law_1125 (by decide) (by omega) hX rfl rfl ?_
  refine wx_aload_n dL_law_1126 rfl ?_
  refine wl_K (k_push hI (X.2 (i + 1)) (X.2 (i + 2))) hr dL_law_1127 (px_mem 998 (by decide +kernel) rfl) mw_L_push rfl (fun k sh1 M1 L1 R1 n1 cu1 su1 hK => ?_)
  refine wx_istore (lv' := (5, .int k) :: lv0 i) dL_law_1130 (by decide) rfl ?_
  refine wx_aload_n dL_law_1132 rfl ?_
  refine wl_arg (k := 1) dL_law_1133 dL_law_1134 dL_law_1136 dL_law_1137 dL_law_1138 (by decide) (by omega) hX rfl rfl ?_
  refine wl_arg (k := 2) dL_law_1139 dL_law_1140 dL_law_1142 dL_law_1143 dL_law_1144 (by decide) (by omega) hX rfl rfl ?_
  refine wl_M hK dL_law_1145 ml_L_206 my_X12_push iv_X12_push rfl (fun v w sh2 M2 L2 R2 n2 cu2 su2 a1 a2 a3 a4 => ?_)
  exact tl_I a1 a2 a3 a4 hc dL_law_1148 dL_law_1150 dL_law_1151 dL_law_1154 dL_law_1156 dL_law_1161 dL_law_1163 dL_law_1166 dL_law_1167 dL_law_1168 dL_law_1169 dL_law_1171 dL_law_1172 dL_law_1173 dL_law_1178 (by decide) (G _ _ _ _ _ _ _ a4)
theorem lcx_15 (hI : IA c sh M L R n cu su) (hc : c + 1 ≤ 512) (hi : i + 5 < X.1) (hX : X.1 ≤ 3072) (G : ∀ sh2 M2 L2 R2 n2 cu2 su2, IA (c + 1) sh2 M2 L2 R2 n2 cu2 su2 → LW X 3016 (lv0 i) [] sh2 M2 L2 R2 n2 cu2 su2) : LW X 1181 (lv0 i) [] sh M L R n cu su := by
  have hr := hI.room (by omega)
  refine wx_aload_n dL_law_1181 rfl ?_
  refine wl_arg (k := 1) dL_law_1182 dL_law_1183 dL_law_1185 dL_law_1186 dL_law_1187 (by decide) (by omega) hX rfl rfl ?_
  refine wl_arg (k := 2) dL_law_1188 dL_law_1189 dL_law_1191 dL_law_1192 dL_law_1193 (by decide) (by omega) hX rfl rfl ?_
  refine wx_aload_n dL_law_1194 rfl ?_
  refine wl_K (k_turn hI (X.2 (i + 1)) (X.2 (i + 2))) hr dL_law_1195 (px_mem 1022 (by decide +kernel) rfl) mw_L_turn rfl (fun k sh1 M1 L1 R1 n1 cu1 su1 hK => ?_)
  refine wx_istore (lv' := (5, .int k) :: lv0 i) dL_law_1198 (by decide) rfl ?_
  refine wx_aload_n dL_law_1200 rfl ?_
  refine wl_arg (k := 1) dL_law_1201 dL_law_1202 dL_law_1204 dL_law_1205 dL_law_1206 (by decide) (by omega) hX rfl rfl ?_
  refine wl_arg (k := 2) dL_law_1207 dL_law_1208 dL_law_1210 dL_law_1211 dL_law_1212 (by decide) (by omega) hX rfl rfl ?_
  refine wl_M hK dL_law_1213 ml_L_209 my_X12_turn iv_X12_turn rfl (fun v w sh2 M2 L2 R2 n2 cu2 su2 a1 a2 a3 a4 => ?_)
  exact tl_I a1 a2 a3 a4 hc dL_law_1216 dL_law_1218 dL_law_1219 dL_law_1222 dL_law_1224 dL_law_1229 dL_law_1231 dL_law_1234 dL_law_1235 dL_law_1236 dL_law_1237 dL_law_1239 dL_law_1240 dL_law_1241 dL_law_1246 (by decide) (G _ _ _ _ _ _ _ a4)
theorem lcx_16 (hI : IA c sh M L R n cu su) (hc : c + 1 ≤ 512) (hi : i + 5 < X.1) (hX : X.1 ≤ 3072) (G : ∀ sh2 M2 L2 R2 n2 cu2 su2, IA (c + 1) sh2 M2 L2 R2 n2 cu2 su2 → LW X 3016 (lv0 i) [] sh2 M2 L2 R2 n2 cu2 su2) : LW X 1249 (lv0 i) [] sh M L R n cu su := by
  have hr := hI.room (by omega)
  refine wx_aload_n dL_law_1249 rfl ?_
  refine wl_arg (k := 1) dL_law_1250 dL_law_1251 dL_law_1253 dL_law_1254 dL_law_1255 (by decide) (by omega) hX rfl rfl ?_
  refine wl_arg (k := 2) dL_law_1256 dL_law_1257 dL_law_1259 dL_law_1260 dL_law_1261 (by decide) (by omega) hX rfl rfl ?_
  refine wx_aload_n dL_law_1262 rfl ?_
  refine wl_K (k_trim hI (X.2 (i + 1)) (X.2 (i + 2))) hr dL_law_1263 (px_mem 1041 (by decide +kernel) rfl) mw_L_trim rfl (fun k sh1 M1 L1 R1 n1 cu1 su1 hK => ?_)
  refine wx_istore (lv' := (5, .int k) :: lv0 i) dL_law_1266 (by decide) rfl ?_
  refine wx_aload_n dL_law_1268 rfl ?_
  refine wl_arg (k := 1) dL_law_1269 dL_law_1270 dL_law_1272 dL_law_1273 dL_law_1274 (by decide) (by omega) hX rfl rfl ?_
  refine wl_arg (k := 2) dL_law_1275 dL_law_1276 dL_law_1278 dL_law_1279 dL_law_1280 (by decide) (by omega) hX rfl rfl ?_
  refine wl_M hK dL_law_1281 ml_L_212 my_X12_trim iv_X12_trim rfl (fun v w sh2 M2 L2 R2 n2 cu2 su2 a1 a2 a3 a4 => ?_)
  exact tl_I a1 a2 a3 a4 hc dL_law_1284 dL_law_1286 dL_law_1287 dL_law_1290 dL_law_1292 dL_law_1297 dL_law_1299 dL_law_1302 dL_law_1303 dL_law_1304 dL_law_1305 dL_law_1307 dL_law_1308 dL_law_1309 dL_law_1314 (by decide) (G _ _ _ _ _ _ _ a4)
theorem lcx_17 (hI : IA c sh M L R n cu su) (hc : c + 1 ≤ 512) (hi : i + 5 < X.1) (hX : X.1 ≤ 3072) (G : ∀ sh2 M2 L2 R2 n2 cu2 su2, IA (c + 1) sh2 M2 L2 R2 n2 cu2 su2 → LW X 3016 (lv0 i) [] sh2 M2 L2 R2 n2 cu2 su2) : LW X 1317 (lv0 i) [] sh M L R n cu su := by
  have hr := hI.room (by omega)
  refine wx_aload_n dL_law_1317 rfl ?_
  refine wl_arg (k := 1) dL_law_1318 dL_law_1319 dL_law_1321 dL_law_1322 dL_law_1323 (by decide) (by omega) hX rfl rfl ?_
  refine wl_arg (k := 2) dL_law_1324 dL_law_1325 dL_law_1327 dL_law_1328 dL_law_1329 (by decide) (by omega) hX rfl rfl ?_
  refine wl_arg (k := 3) dL_law_1330 dL_law_1331 dL_law_1333 dL_law_1334 dL_law_1335 (by decide) (by omega) hX rfl rfl ?_
  refine wx_aload_n dL_law_1336 rfl ?_
  refine wl_K (k_world hI (X.2 (i + 1)) (X.2 (i + 2)) (X.2 (i + 3))) hr dL_law_1337 (px_mem 1071 (by decide +kernel) rfl) mw_L_world rfl (fun k sh1 M1 L1 R1 n1 cu1 su1 hK => ?_)
  refine wx_istore (lv' := (5, .int k) :: lv0 i) dL_law_1340 (by decide) rfl ?_
  refine wx_aload_n dL_law_1342 rfl ?_
  refine wl_arg (k := 1) dL_law_1343 dL_law_1344 dL_law_1346 dL_law_1347 dL_law_1348 (by decide) (by omega) hX rfl rfl ?_
  refine wl_arg (k := 2) dL_law_1349 dL_law_1350 dL_law_1352 dL_law_1353 dL_law_1354 (by decide) (by omega) hX rfl rfl ?_
  refine wl_arg (k := 3) dL_law_1355 dL_law_1356 dL_law_1358 dL_law_1359 dL_law_1360 (by decide) (by omega) hX rfl rfl ?_
  refine wl_M hK dL_law_1361 ml_L_216 my_X12_world iv_X12_world rfl (fun v w sh2 M2 L2 R2 n2 cu2 su2 a1 a2 a3 a4 => ?_)
  exact tl_I a1 a2 a3 a4 hc dL_law_1364 dL_law_1366 dL_law_1367 dL_law_1370 dL_law_1372 dL_law_1377 dL_law_1379 dL_law_1382 dL_law_1383 dL_law_1384 dL_law_1385 dL_law_1387 dL_law_1388 dL_law_1389 dL_law_1394 (by decide) (G _ _ _ _ _ _ _ a4)
theorem lcx_18 (hI : IA c sh M L R n cu su) (hc : c + 1 ≤ 512) (hi : i + 5 < X.1) (hX : X.1 ≤ 3072) (G : ∀ sh2 M2 L2 R2 n2 cu2 su2, IA (c + 1) sh2 M2 L2 R2 n2 cu2 su2 → LW X 3016 (lv0 i) [] sh2 M2 L2 R2 n2 cu2 su2) : LW X 1397 (lv0 i) [] sh M L R n cu su := by
  have hr := hI.room (by omega)
  refine wx_aload_n dL_law_1397 rfl ?_
  refine wl_arg (k := 1) dL_law_1398 dL_law_1399 dL_law_1401 dL_law_1402 dL_law_1403 (by decide) (by omega) hX rfl rfl ?_
  refine wl_arg (k := 2) dL_law_1404 dL_law_1405 dL_law_1407 dL_law_1408 dL_law_1409 (by decide) (by omega) hX rfl rfl ?_
  refine wx_aload_n dL_law_1410 rfl ?_
  refine wl_K (k_angle hI (X.2 (i + 1)) (X.2 (i + 2))) hr dL_law_1411 (px_mem 1100 (by decide +kernel) rfl) mw_L_angle rfl (fun k sh1 M1 L1 R1 n1 cu1 su1 hK => ?_)
  refine wx_istore (lv' := (5, .int k) :: lv0 i) dL_law_1414 (by decide) rfl ?_
  refine wx_aload_n dL_law_1416 rfl ?_
  refine wl_arg (k := 1) dL_law_1417 dL_law_1418 dL_law_1420 dL_law_1421 dL_law_1422 (by decide) (by omega) hX rfl rfl ?_
  refine wl_arg (k := 2) dL_law_1423 dL_law_1424 dL_law_1426 dL_law_1427 dL_law_1428 (by decide) (by omega) hX rfl rfl ?_
  refine wl_M hK dL_law_1429 ml_L_219 my_X12_angle iv_X12_angle rfl (fun v w sh2 M2 L2 R2 n2 cu2 su2 a1 a2 a3 a4 => ?_)
  exact tl_I a1 a2 a3 a4 hc dL_law_1432 dL_law_1434 dL_law_1435 dL_law_1438 dL_law_1440 dL_law_1445 dL_law_1447 dL_law_1450 dL_law_1451 dL_law_1452 dL_law_1453 dL_law_1455 dL_law_1456 dL_law_1457 dL_law_1462 (by decide) (G _ _ _ _ _ _ _ a4)
theorem lcx_19 (hI : IA c sh M L R n cu su) (hc : c + 1 ≤ 512) (hi : i + 5 < X.1) (hX : X.1 ≤ 3072) (G : ∀ sh2 M2 L2 R2 n2 cu2 su2, IA (c + 1) sh2 M2 L2 R2 n2 cu2 su2 → LW X 3016 (lv0 i) [] sh2 M2 L2 R2 n2 cu2 su2) : LW X 1465 (lv0 i) [] sh M L R n cu su := by
  have hr := hI.room (by omega)
  refine wx_aload_n dL_law_1465 rfl ?_
  refine wl_arg (k := 1) dL_law_1466 dL_law_1467 dL_law_1469 dL_law_1470 dL_law_1471 (by decide) (by omega) hX rfl rfl ?_
  refine wl_arg (k := 2) dL_law_1472 dL_law_1473 dL_law_1475 dL_law_1476 dL_law_1477 (by decide) (by omega) hX rfl rfl ?_
  refine wx_aload_n dL_law_1478 rfl ?_
  refine wl_K (k_least hI (X.2 (i + 1)) (X.2 (i + 2))) hr dL_law_1479 (px_mem 1109 (by decide +kernel) rfl) mw_L_least rfl (fun k sh1 M1 L1 R1 n1 cu1 su1 hK => ?_)
  refine wx_istore (lv' := (5, .int k) :: lv0 i) dL_law_1482 (by decide) rfl ?_
  refine wx_aload_n dL_law_1484 rfl ?_
  refine wl_arg (k := 1) dL_law_1485 dL_law_1486 dL_law_1488 dL_law_1489 dL_law_1490 (by decide) (by omega) hX rfl rfl ?_
  refine wl_arg (k := 2) dL_law_1491 dL_law_1492 dL_law_1494 dL_law_1495 dL_law_1496 (by decide) (by omega) hX rfl rfl ?_
  refine wl_M hK dL_law_1497 ml_L_222 my_X12_least iv_X12_least rfl (fun v w sh2 M2 L2 R2 n2 cu2 su2 a1 a2 a3 a4 => ?_)
  exact tl_I a1 a2 a3 a4 hc dL_law_1500 dL_law_1502 dL_law_1503 dL_law_1506 dL_law_1508 dL_law_1513 dL_law_1515 dL_law_1518 dL_law_1519 dL_law_1520 dL_law_1521 dL_law_1523 dL_law_1524 dL_law_1525 dL_law_1530 (by decide) (G _ _ _ _ _ _ _ a4)
theorem lcx_20 (hI : IA c sh M L R n cu su) (hc : c + 1 ≤ 512) (hi : i + 5 < X.1) (hX : X.1 ≤ 3072) (G : ∀ sh2 M2 L2 R2 n2 cu2 su2, IA (c + 1) sh2 M2 L2 R2 n2 cu2 su2 → LW X 3016 (lv0 i) [] sh2 M2 L2 R2 n2 cu2 su2) : LW X 1533 (lv0 i) [] sh M L R n cu su := by
  have hr := hI.room (by omega)
  refine wx_aload_n dL_law_1533 rfl ?_
  refine wl_arg (k := 1) dL_law_1534 dL_law_1535 dL_law_1537 dL_law_1538 dL_law_1539 (by decide) (by omega) hX rfl rfl ?_
  refine wx_aload_n dL_law_1540 rfl ?_
  refine wl_K (k_goal hI (X.2 (i + 1))) hr dL_law_1541 (px_mem 1193 (by decide +kernel) rfl) mw_L_goal rfl (fun k sh1 M1 L1 R1 n1 cu1 su1 hK => ?_)
  refine wx_istore (lv' := (5, .int k) :: lv0 i) dL_law_1544 (by decide) rfl ?_
  refine wx_aload_n dL_law_1546 rfl ?_
  refine wl_arg (k := 1) dL_law_1547 dL_law_1548 dL_law_1550 dL_law_1551 dL_law_1552 (by decide) (by omega) hX rfl rfl ?_
  refine wl_M hK dL_law_1553 ml_L_225 my_X12_goal iv_X12_goal rfl (fun v w sh2 M2 L2 R2 n2 cu2 su2 a1 a2 a3 a4 => ?_)
  exact tl_I a1 a2 a3 a4 hc dL_law_1556 dL_law_1558 dL_law_1559 dL_law_1562 dL_law_1564 dL_law_1569 dL_law_1571 dL_law_1574 dL_law_1575 dL_law_1576 dL_law_1577 dL_law_1579 dL_law_1580 dL_law_1581 dL_law_1586 (by decide) (G _ _ _ _ _ _ _ a4)
theorem lcx_21 (hI : IA c sh M L R n cu su) (hc : c + 1 ≤ 512) (hi : i + 5 < X.1) (hX : X.1 ≤ 3072) (G : ∀ sh2 M2 L2 R2 n2 cu2 su2, IA (c + 1) sh2 M2 L2 R2 n2 cu2 su2 → LW X 3016 (lv0 i) [] sh2 M2 L2 R2 n2 cu2 su2) : LW X 1589 (lv0 i) [] sh M L R n cu su := by
  have hr := hI.room (by omega)
  refine wx_aload_n dL_law_1589 rfl ?_
  refine wl_arg (k := 1) dL_law_1590 dL_law_1591 dL_law_1593 dL_law_1594 dL_law_1595 (by decide) (by omega) hX rfl rfl ?_
  refine wl_arg (k := 2) dL_law_1596 dL_law_1597 dL_law_1599 dL_law_1600 dL_law_1601 (by decide) (by omega) hX rfl rfl ?_
  refine wl_arg (k := 3) dL_law_1602 dL_law_1603 dL_law_1605 dL_law_1606 dL_law_1607 (by decide) (by omega) hX rfl rfl ?_
  refine wl_arg (k := 4) dL_law_1608 dL_law_1609 dL_law_1611 dL_law_1612 dL_law_1613 (by decide) (by omega) hX rfl rfl ?_
  refine wl_arg (k := 5) dL_law_1614 dL_law_1615 dL_law_1617 dL_law_1618 dL_law_1619 (by decide) (by omega) hX rfl rfl ?_
  refine wl_D (k_feed hI (X.2 (i + 1)) (X.2 (i + 2)) (X.2 (i + 3)) (X.2 (i + 4)) (X.2 (i + 5))) hI hr dL_law_1620 ml_L_226 my_X11_feed iv_X11_feed rfl (fun k sh1 M1 L1 R1 n1 P2 hS1 hm hk => ?_)
  refine wx_aload_n dL_law_1623 rfl ?_
  refine wl_arg (k := 1) dL_law_1624 dL_law_1625 dL_law_1627 dL_law_1628 dL_law_1629 (by decide) (by omega) hX rfl rfl ?_
  refine wl_arg (k := 2) dL_law_1630 dL_law_1631 dL_law_1633 dL_law_1634 dL_law_1635 (by decide) (by omega) hX rfl rfl ?_
  refine wl_arg (k := 3) dL_law_1636 dL_law_1637 dL_law_1639 dL_law_1640 dL_law_1641 (by decide) (by omega) hX rfl rfl ?_
  refine wl_arg (k := 4) dL_law_1642 dL_law_1643 dL_law_1645 dL_law_1646 dL_law_1647 (by decide) (by omega) hX rfl rfl ?_
  refine wl_arg (k := 5) dL_law_1648 dL_law_1649 dL_law_1651 dL_law_1652 dL_law_1653 (by decide) (by omega) hX rfl rfl ?_
  exact wl_E hS1 hm hk hr dL_law_1654 ml_L_229 my_X12_feed iv_X12_feed rfl dL_law_1657 (by decide) (fun sh2 M2 L2 R2 n2 hI2 => G _ _ _ _ _ _ _ hI2)
theorem lcx_22 (hI : IA c sh M L R n cu su) (hc : c + 1 ≤ 512) (hi : i + 5 < X.1) (hX : X.1 ≤ 3072) (G : ∀ sh2 M2 L2 R2 n2 cu2 su2, IA (c + 1) sh2 M2 L2 R2 n2 cu2 su2 → LW X 3016 (lv0 i) [] sh2 M2 L2 R2 n2 cu2 su2) : LW X 1662 (lv0 i) [] sh M L R n cu su := by
  have hr := hI.room (by omega)
  refine wx_aload_n dL_law_1662 rfl ?_
  refine wl_arg (k := 1) dL_law_1663 dL_law_1664 dL_law_1666 dL_law_1667 dL_law_1668 (by decide) (by omega) hX rfl rfl ?_
  refine wx_aload_n dL_law_1669 rfl ?_
  refine wl_K (k_rules hI (X.2 (i + 1))) hr dL_law_1670 (px_mem 1200 (by decide +kernel) rfl) mw_L_rules rfl (fun k sh1 M1 L1 R1 n1 cu1 su1 hK => ?_)
  refine wx_istore (lv' := (5, .int k) :: lv0 i) dL_law_1673 (by decide) rfl ?_
  refine wx_aload_n dL_law_1675 rfl ?_
  refine wl_arg (k := 1) dL_law_1676 dL_law_1677 dL_law_1679 dL_law_1680 dL_law_1681 (by decide) (by omega) hX rfl rfl ?_
  refine wl_M hK dL_law_1682 ml_L_232 my_X12_rules iv_X12_rules rfl (fun v w sh2 M2 L2 R2 n2 cu2 su2 a1 a2 a3 a4 => ?_)
  exact tl_I a1 a2 a3 a4 hc dL_law_1685 dL_law_1687 dL_law_1688 dL_law_1691 dL_law_1693 dL_law_1698 dL_law_1700 dL_law_1703 dL_law_1704 dL_law_1705 dL_law_1706 dL_law_1708 dL_law_1709 dL_law_1710 dL_law_1715 (by decide) (G _ _ _ _ _ _ _ a4)
theorem lcx_23 (hI : IA c sh M L R n cu su) (hc : c + 1 ≤ 512) (hi : i + 5 < X.1) (hX : X.1 ≤ 3072) (G : ∀ sh2 M2 L2 R2 n2 cu2 su2, IA (c + 1) sh2 M2 L2 R2 n2 cu2 su2 → LW X 3016 (lv0 i) [] sh2 M2 L2 R2 n2 cu2 su2) : LW X 1718 (lv0 i) [] sh M L R n cu su := by
  have hr := hI.room (by omega)
  refine wx_aload_n dL_law_1718 rfl ?_
  refine wl_D (k_fault hI) hI hr dL_law_1719 ml_L_233 my_X11_fault iv_X11_fault rfl (fun k sh1 M1 L1 R1 n1 P2 hS1 hm hk => ?_)
  refine wx_aload_n dL_law_1722 rfl ?_
  exact wl_E hS1 hm hk hr dL_law_1723 ml_L_236 my_X12_fault iv_X12_fault rfl dL_law_1726 (by decide) (fun sh2 M2 L2 R2 n2 hI2 => G _ _ _ _ _ _ _ hI2)
theorem lcx_24 (hI : IA c sh M L R n cu su) (hc : c + 1 ≤ 512) (hi : i + 5 < X.1) (hX : X.1 ≤ 3072) (G : ∀ sh2 M2 L2 R2 n2 cu2 su2, IA (c + 1) sh2 M2 L2 R2 n2 cu2 su2 → LW X 3016 (lv0 i) [] sh2 M2 L2 R2 n2 cu2 su2) : LW X 1731 (lv0 i) [] sh M L R n cu su := by
  have hr := hI.room (by omega)
  refine wx_aload_n dL_law_1731 rfl ?_
  refine wl_D (k_asks hI) hI hr dL_law_1732 ml_L_237 my_X11_asks iv_X11_asks rfl (fun k sh1 M1 L1 R1 n1 P2 hS1 hm hk => ?_)
  refine wx_aload_n dL_law_1735 rfl ?_
  exact wl_E hS1 hm hk hr dL_law_1736 ml_L_240 my_X12_asks iv_X12_asks rfl dL_law_1739 (by decide) (fun sh2 M2 L2 R2 n2 hI2 => G _ _ _ _ _ _ _ hI2)
theorem lcx_25 (hI : IA c sh M L R n cu su) (hc : c + 1 ≤ 512) (hi : i + 5 < X.1) (hX : X.1 ≤ 3072) (G : ∀ sh2 M2 L2 R2 n2 cu2 su2, IA (c + 1) sh2 M2 L2 R2 n2 cu2 su2 → LW X 3016 (lv0 i) [] sh2 M2 L2 R2 n2 cu2 su2) : LW X 1744 (lv0 i) [] sh M L R n cu su := by
  have hr := hI.room (by omega)
  refine wx_aload_n dL_law_1744 rfl ?_
  refine wl_arg (k := 1) dL_law_1745 dL_law_1746 dL_law_1748 dL_law_1749 dL_law_1750 (by decide) (by omega) hX rfl rfl ?_
  refine wl_arg (k := 2) dL_law_1751 dL_law_1752 dL_law_1754 dL_law_1755 dL_law_1756 (by decide) (by omega) hX rfl rfl ?_
  refine wx_aload_n dL_law_1757 rfl ?_
  refine wl_K (k_dust hI (X.2 (i + 1)) (X.2 (i + 2))) hr dL_law_1758 (px_mem 1333 (by decide +kernel) rfl) mw_L_dust rfl (fun k sh1 M1 L1 R1 n1 cu1 su1 hK => ?_)
  refine wx_istore (lv' := (5, .int k) :: lv0 i) dL_law_1761 (by decide) rfl ?_
  refine wx_aload_n dL_law_1763 rfl ?_
  refine wl_arg (k := 1) dL_law_1764 dL_law_1765 dL_law_1767 dL_law_1768 dL_law_1769 (by decide) (by omega) hX rfl rfl ?_
  refine wl_arg (k := 2) dL_law_1770 dL_law_1771 dL_law_1773 dL_law_1774 dL_law_1775 (by decide) (by omega) hX rfl rfl ?_
  refine wl_M hK dL_law_1776 ml_L_243 my_X12_dust iv_X12_dust rfl (fun v w sh2 M2 L2 R2 n2 cu2 su2 a1 a2 a3 a4 => ?_)
  exact tl_I a1 a2 a3 a4 hc dL_law_1779 dL_law_1781 dL_law_1782 dL_law_1785 dL_law_1787 dL_law_1792 dL_law_1794 dL_law_1797 dL_law_1798 dL_law_1799 dL_law_1800 dL_law_1802 dL_law_1803 dL_law_1804 dL_law_1809 (by decide) (G _ _ _ _ _ _ _ a4)
theorem lcx_26 (hI : IA c sh M L R n cu su) (hc : c + 1 ≤ 512) (hi : i + 5 < X.1) (hX : X.1 ≤ 3072) (G : ∀ sh2 M2 L2 R2 n2 cu2 su2, IA (c + 1) sh2 M2 L2 R2 n2 cu2 su2 → LW X 3016 (lv0 i) [] sh2 M2 L2 R2 n2 cu2 su2) : LW X 1812 (lv0 i) [] sh M L R n cu su := by
  have hr := hI.room (by omega)
  refine wx_aload_n dL_law_1812 rfl ?_
  refine wl_arg (k := 1) dL_law_1813 dL_law_1814 dL_law_1816 dL_law_1817 dL_law_1818 (by decide) (by omega) hX rfl rfl ?_
  refine wx_aload_n dL_law_1819 rfl ?_
  refine wl_K (k_fly hI (X.2 (i + 1))) hr dL_law_1820 (px_mem 1344 (by decide +kernel) rfl) mw_L_fly rfl (fun k sh1 M1 L1 R1 n1 cu1 su1 hK => ?_)
  refine wx_istore (lv' := (5, .int k) :: lv0 i) dL_law_1823 (by decide) rfl ?_
  refine wx_aload_n dL_law_1825 rfl ?_
  refine wl_arg (k := 1) dL_law_1826 dL_law_1827 dL_law_1829 dL_law_1830 dL_law_1831 (by decide) (by omega) hX rfl rfl ?_
  refine wl_M hK dL_law_1832 ml_L_246 my_X12_fly iv_X12_fly rfl (fun v w sh2 M2 L2 R2 n2 cu2 su2 a1 a2 a3 a4 => ?_)
  exact tl_I a1 a2 a3 a4 hc dL_law_1835 dL_law_1837 dL_law_1838 dL_law_1841 dL_law_1843 dL_law_1848 dL_law_1850 dL_law_1853 dL_law_1854 dL_law_1855 dL_law_1856 dL_law_1858 dL_law_1859 dL_law_1860 dL_law_1865 (by decide) (G _ _ _ _ _ _ _ a4)
theorem lcx_27 (hI : IA c sh M L R n cu su) (hc : c + 1 ≤ 512) (hi : i + 5 < X.1) (hX : X.1 ≤ 3072) (G : ∀ sh2 M2 L2 R2 n2 cu2 su2, IA (c + 1) sh2 M2 L2 R2 n2 cu2 su2 → LW X 3016 (lv0 i) [] sh2 M2 L2 R2 n2 cu2 su2) : LW X 1868 (lv0 i) [] sh M L R n cu su := by
  have hr := hI.room (by omega)
  refine wx_aload_n dL_law_1868 rfl ?_
  refine wl_arg (k := 1) dL_law_1869 dL_law_1870 dL_law_1872 dL_law_1873 dL_law_1874 (by decide) (by omega) hX rfl rfl ?_
  refine wl_arg (k := 2) dL_law_1875 dL_law_1876 dL_law_1878 dL_law_1879 dL_law_1880 (by decide) (by omega) hX rfl rfl ?_
  refine wx_aload_n dL_law_1881 rfl ?_
  refine wl_K (k_note hI (X.2 (i + 1)) (X.2 (i + 2))) hr dL_law_1882 (px_mem 1376 (by decide +kernel) rfl) mw_L_note rfl (fun k sh1 M1 L1 R1 n1 cu1 su1 hK => ?_)
  refine wx_istore (lv' := (5, .int k) :: lv0 i) dL_law_1885 (by decide) rfl ?_
  refine wx_aload_n dL_law_1887 rfl ?_
  refine wl_arg (k := 1) dL_law_1888 dL_law_1889 dL_law_1891 dL_law_1892 dL_law_1893 (by decide) (by omega) hX rfl rfl ?_
  refine wl_arg (k := 2) dL_law_1894 dL_law_1895 dL_law_1897 dL_law_1898 dL_law_1899 (by decide) (by omega) hX rfl rfl ?_
  refine wl_M hK dL_law_1900 ml_L_249 my_X12_note iv_X12_note rfl (fun v w sh2 M2 L2 R2 n2 cu2 su2 a1 a2 a3 a4 => ?_)
  exact tl_I a1 a2 a3 a4 hc dL_law_1903 dL_law_1905 dL_law_1906 dL_law_1909 dL_law_1911 dL_law_1916 dL_law_1918 dL_law_1921 dL_law_1922 dL_law_1923 dL_law_1924 dL_law_1926 dL_law_1927 dL_law_1928 dL_law_1933 (by decide) (G _ _ _ _ _ _ _ a4)
theorem lcx_28 (hI : IA c sh M L R n cu su) (hc : c + 1 ≤ 512) (hi : i + 5 < X.1) (hX : X.1 ≤ 3072) (G : ∀ sh2 M2 L2 R2 n2 cu2 su2, IA (c + 1) sh2 M2 L2 R2 n2 cu2 su2 → LW X 3016 (lv0 i) [] sh2 M2 L2 R2 n2 cu2 su2) : LW X 1936 (lv0 i) [] sh M L R n cu su := by
  have hr := hI.room (by omega)
  refine wx_aload_n dL_law_1936 rfl ?_
  refine wl_arg (k := 1) dL_law_1937 dL_law_1938 dL_law_1940 dL_law_1941 dL_law_1942 (by decide) (by omega) hX rfl rfl ?_
  refine wl_arg (k := 2) dL_law_1943 dL_law_1944 dL_law_1946 dL_law_1947 dL_law_1948 (by decide) (by omega) hX rfl rfl ?_
  refine wx_aload_n dL_law_1949 rfl ?_
  refine wl_K (k_coat hI (X.2 (i + 1)) (X.2 (i + 2))) hr dL_law_1950 (px_mem 1388 (by decide +kernel) rfl) mw_L_coat rfl (fun k sh1 M1 L1 R1 n1 cu1 su1 hK => ?_)
  refine wx_istore (lv' := (5, .int k) :: lv0 i) dL_law_1953 (by decide) rfl ?_
  refine wx_aload_n dL_law_1955 rfl ?_
  refine wl_arg (k := 1) dL_law_1956 dL_law_1957 dL_law_1959 dL_law_1960 dL_law_1961 (by decide) (by omega) hX rfl rfl ?_
  refine wl_arg (k := 2) dL_law_1962 dL_law_1963 dL_law_1965 dL_law_1966 dL_law_1967 (by decide) (by omega) hX rfl rfl ?_
  refine wl_M hK dL_law_1968 ml_L_252 my_X12_coat iv_X12_coat rfl (fun v w sh2 M2 L2 R2 n2 cu2 su2 a1 a2 a3 a4 => ?_)
  exact tl_I a1 a2 a3 a4 hc dL_law_1971 dL_law_1973 dL_law_1974 dL_law_1977 dL_law_1979 dL_law_1984 dL_law_1986 dL_law_1989 dL_law_1990 dL_law_1991 dL_law_1992 dL_law_1994 dL_law_1995 dL_law_1996 dL_law_2001 (by decide) (G _ _ _ _ _ _ _ a4)
theorem lcx_29 (hI : IA c sh M L R n cu su) (hc : c + 1 ≤ 512) (hi : i + 5 < X.1) (hX : X.1 ≤ 3072) (G : ∀ sh2 M2 L2 R2 n2 cu2 su2, IA (c + 1) sh2 M2 L2 R2 n2 cu2 su2 → LW X 3016 (lv0 i) [] sh2 M2 L2 R2 n2 cu2 su2) : LW X 2004 (lv0 i) [] sh M L R n cu su := by
  have hr := hI.room (by omega)
  refine wx_aload_n dL_law_2004 rfl ?_
  refine wl_arg (k := 1) dL_law_2005 dL_law_2006 dL_law_2008 dL_law_2009 dL_law_2010 (by decide) (by omega) hX rfl rfl ?_
  refine wl_arg (k := 2) dL_law_2011 dL_law_2012 dL_law_2014 dL_law_2015 dL_law_2016 (by decide) (by omega) hX rfl rfl ?_
  refine wl_arg (k := 3) dL_law_2017 dL_law_2018 dL_law_2020 dL_law_2021 dL_law_2022 (by decide) (by omega) hX rfl rfl ?_
  refine wx_aload_n dL_law_2023 rfl ?_
  refine wl_K (k_sight hI (X.2 (i + 1)) (X.2 (i + 2)) (X.2 (i + 3))) hr dL_law_2024 (px_mem 1399 (by decide +kernel) rfl) mw_L_sight rfl (fun k sh1 M1 L1 R1 n1 cu1 su1 hK => ?_)
  refine wx_istore (lv' := (5, .int k) :: lv0 i) dL_law_2027 (by decide) rfl ?_
  refine wx_aload_n dL_law_2029 rfl ?_
  refine wl_arg (k := 1) dL_law_2030 dL_law_2031 dL_law_2033 dL_law_2034 dL_law_2035 (by decide) (by omega) hX rfl rfl ?_
  refine wl_arg (k := 2) dL_law_2036 dL_law_2037 dL_law_2039 dL_law_2040 dL_law_2041 (by decide) (by omega) hX rfl rfl ?_
  refine wl_arg (k := 3) dL_law_2042 dL_law_2043 dL_law_2045 dL_law_2046 dL_law_2047 (by decide) (by omega) hX rfl rfl ?_
  refine wl_M hK dL_law_2048 ml_L_255 my_X12_sight iv_X12_sight rfl (fun v w sh2 M2 L2 R2 n2 cu2 su2 a1 a2 a3 a4 => ?_)
  exact tl_I a1 a2 a3 a4 hc dL_law_2051 dL_law_2053 dL_law_2054 dL_law_2057 dL_law_2059 dL_law_2064 dL_law_2066 dL_law_2069 dL_law_2070 dL_law_2071 dL_law_2072 dL_law_2074 dL_law_2075 dL_law_2076 dL_law_2081 (by decide) (G _ _ _ _ _ _ _ a4)
theorem lcx_30 (hI : IA c sh M L R n cu su) (hc : c + 1 ≤ 512) (hi : i + 5 < X.1) (hX : X.1 ≤ 3072) (G : ∀ sh2 M2 L2 R2 n2 cu2 su2, IA (c + 1) sh2 M2 L2 R2 n2 cu2 su2 → LW X 3016 (lv0 i) [] sh2 M2 L2 R2 n2 cu2 su2) : LW X 2084 (lv0 i) [] sh M L R n cu su := by
  have hr := hI.room (by omega)
  refine wx_aload_n dL_law_2084 rfl ?_
  refine wl_arg (k := 1) dL_law_2085 dL_law_2086 dL_law_2088 dL_law_2089 dL_law_2090 (by decide) (by omega) hX rfl rfl ?_
  refine wx_aload_n dL_law_2091 rfl ?_
  refine wl_K (k_fits hI (X.2 (i + 1))) hr dL_law_2092 (px_mem 1411 (by decide +kernel) rfl) mw_L_fits rfl (fun k sh1 M1 L1 R1 n1 cu1 su1 hK => ?_)
  refine wx_istore (lv' := (5, .int k) :: lv0 i) dL_law_2095 (by decide) rfl ?_
  refine wx_aload_n dL_law_2097 rfl ?_
  refine wl_arg (k := 1) dL_law_2098 dL_law_2099 dL_law_2101 dL_law_2102 dL_law_2103 (by decide) (by omega) hX rfl rfl ?_
  refine wl_M hK dL_law_2104 ml_L_258 my_X12_fits iv_X12_fits rfl (fun v w sh2 M2 L2 R2 n2 cu2 su2 a1 a2 a3 a4 => ?_)
  exact tl_I a1 a2 a3 a4 hc dL_law_2107 dL_law_2109 dL_law_2110 dL_law_2113 dL_law_2115 dL_law_2120 dL_law_2122 dL_law_2125 dL_law_2126 dL_law_2127 dL_law_2128 dL_law_2130 dL_law_2131 dL_law_2132 dL_law_2137 (by decide) (G _ _ _ _ _ _ _ a4)
theorem lcx_31 (hI : IA c sh M L R n cu su) (hc : c + 1 ≤ 512) (hi : i + 5 < X.1) (hX : X.1 ≤ 3072) (G : ∀ sh2 M2 L2 R2 n2 cu2 su2, IA (c + 1) sh2 M2 L2 R2 n2 cu2 su2 → LW X 3016 (lv0 i) [] sh2 M2 L2 R2 n2 cu2 su2) : LW X 2140 (lv0 i) [] sh M L R n cu su := by
  have hr := hI.room (by omega)
  refine wx_aload_n dL_law_2140 rfl ?_
  refine wl_arg (k := 1) dL_law_2141 dL_law_2142 dL_law_2144 dL_law_2145 dL_law_2146 (by decide) (by omega) hX rfl rfl ?_
  refine wl_arg (k := 2) dL_law_2147 dL_law_2148 dL_law_2150 dL_law_2151 dL_law_2152 (by decide) (by omega) hX rfl rfl ?_
  refine wx_aload_n dL_law_2153 rfl ?_
  refine wl_K (k_fit hI (X.2 (i + 1)) (X.2 (i + 2))) hr dL_law_2154 (px_mem 1452 (by decide +kernel) rfl) mw_L_fit rfl (fun k sh1 M1 L1 R1 n1 cu1 su1 hK => ?_)
  refine wx_istore (lv' := (5, .int k) :: lv0 i) dL_law_2157 (by decide) rfl ?_
  refine wx_aload_n dL_law_2159 rfl ?_
  refine wl_arg (k := 1) dL_law_2160 dL_law_2161 dL_law_2163 dL_law_2164 dL_law_2165 (by decide) (by omega) hX rfl rfl ?_
  refine wl_arg (k := 2) dL_law_2166 dL_law_2167 dL_law_2169 dL_law_2170 dL_law_2171 (by decide) (by omega) hX rfl rfl ?_
  refine wl_M hK dL_law_2172 ml_L_261 my_X12_fit iv_X12_fit rfl (fun v w sh2 M2 L2 R2 n2 cu2 su2 a1 a2 a3 a4 => ?_)
  exact tl_I a1 a2 a3 a4 hc dL_law_2175 dL_law_2177 dL_law_2178 dL_law_2181 dL_law_2183 dL_law_2188 dL_law_2190 dL_law_2193 dL_law_2194 dL_law_2195 dL_law_2196 dL_law_2198 dL_law_2199 dL_law_2200 dL_law_2205 (by decide) (G _ _ _ _ _ _ _ a4)
theorem lcx_32 (hI : IA c sh M L R n cu su) (hc : c + 1 ≤ 512) (hi : i + 5 < X.1) (hX : X.1 ≤ 3072) (G : ∀ sh2 M2 L2 R2 n2 cu2 su2, IA (c + 1) sh2 M2 L2 R2 n2 cu2 su2 → LW X 3016 (lv0 i) [] sh2 M2 L2 R2 n2 cu2 su2) : LW X 2208 (lv0 i) [] sh M L R n cu su := by
  have hr := hI.room (by omega)
  refine wx_aload_n dL_law_2208 rfl ?_
  refine wl_arg (k := 1) dL_law_2209 dL_law_2210 dL_law_2212 dL_law_2213 dL_law_2214 (by decide) (by omega) hX rfl rfl ?_
  refine wx_aload_n dL_law_2215 rfl ?_
  refine wl_K (k_shows hI (X.2 (i + 1))) hr dL_law_2216 (px_mem 1464 (by decide +kernel) rfl) mw_L_shows rfl (fun k sh1 M1 L1 R1 n1 cu1 su1 hK => ?_)
  refine wx_istore (lv' := (5, .int k) :: lv0 i) dL_law_2219 (by decide) rfl ?_
  refine wx_aload_n dL_law_2221 rfl ?_
  refine wl_arg (k := 1) dL_law_2222 dL_law_2223 dL_law_2225 dL_law_2226 dL_law_2227 (by decide) (by omega) hX rfl rfl ?_
  refine wl_M hK dL_law_2228 ml_L_264 my_X12_shows iv_X12_shows rfl (fun v w sh2 M2 L2 R2 n2 cu2 su2 a1 a2 a3 a4 => ?_)
  exact tl_I a1 a2 a3 a4 hc dL_law_2231 dL_law_2233 dL_law_2234 dL_law_2237 dL_law_2239 dL_law_2244 dL_law_2246 dL_law_2249 dL_law_2250 dL_law_2251 dL_law_2252 dL_law_2254 dL_law_2255 dL_law_2256 dL_law_2261 (by decide) (G _ _ _ _ _ _ _ a4)
theorem lcx_33 (hI : IA c sh M L R n cu su) (hc : c + 1 ≤ 512) (hi : i + 5 < X.1) (hX : X.1 ≤ 3072) (G : ∀ sh2 M2 L2 R2 n2 cu2 su2, IA (c + 1) sh2 M2 L2 R2 n2 cu2 su2 → LW X 3016 (lv0 i) [] sh2 M2 L2 R2 n2 cu2 su2) : LW X 2264 (lv0 i) [] sh M L R n cu su := by
  have hr := hI.room (by omega)
  refine wx_aload_n dL_law_2264 rfl ?_
  refine wl_arg (k := 1) dL_law_2265 dL_law_2266 dL_law_2268 dL_law_2269 dL_law_2270 (by decide) (by omega) hX rfl rfl ?_
  refine wl_arg (k := 2) dL_law_2271 dL_law_2272 dL_law_2274 dL_law_2275 dL_law_2276 (by decide) (by omega) hX rfl rfl ?_
  refine wl_arg (k := 3) dL_law_2277 dL_law_2278 dL_law_2280 dL_law_2281 dL_law_2282 (by decide) (by omega) hX rfl rfl ?_
  refine wl_bool dL_law_2283 dL_law_2286 dL_law_2287 dL_law_2290 ?_
  refine wx_aload_n dL_law_2291 rfl ?_
  refine wl_K (k_knot hI (X.2 (i + 1)) (X.2 (i + 2)) (if X.2 (i + 3) = 0 then 0 else 1) (zb_if _)) hr dL_law_2292 (px_mem 1479 (by decide +kernel) rfl) mw_L_knot rfl (fun k sh1 M1 L1 R1 n1 cu1 su1 hK => ?_)
  refine wx_istore (lv' := (5, .int k) :: lv0 i) dL_law_2295 (by decide) rfl ?_
  refine wx_aload_n dL_law_2297 rfl ?_
  refine wl_arg (k := 1) dL_law_2298 dL_law_2299 dL_law_2301 dL_law_2302 dL_law_2303 (by decide) (by omega) hX rfl rfl ?_
  refine wl_arg (k := 2) dL_law_2304 dL_law_2305 dL_law_2307 dL_law_2308 dL_law_2309 (by decide) (by omega) hX rfl rfl ?_
  refine wl_arg (k := 3) dL_law_2310 dL_law_2311 dL_law_2313 dL_law_2314 dL_law_2315 (by decide) (by omega) hX rfl rfl ?_
  refine wl_bool dL_law_2316 dL_law_2319 dL_law_2320 dL_law_2323 ?_
  refine wl_M hK dL_law_2324 ml_L_268 my_X12_knot iv_X12_knot rfl (fun v w sh2 M2 L2 R2 n2 cu2 su2 a1 a2 a3 a4 => ?_)
  exact tl_I a1 a2 a3 a4 hc dL_law_2327 dL_law_2329 dL_law_2330 dL_law_2333 dL_law_2335 dL_law_2340 dL_law_2342 dL_law_2345 dL_law_2346 dL_law_2347 dL_law_2348 dL_law_2350 dL_law_2351 dL_law_2352 dL_law_2357 (by decide) (G _ _ _ _ _ _ _ a4)
theorem lcx_34 (hI : IA c sh M L R n cu su) (hc : c + 1 ≤ 512) (hi : i + 5 < X.1) (hX : X.1 ≤ 3072) (G : ∀ sh2 M2 L2 R2 n2 cu2 su2, IA (c + 1) sh2 M2 L2 R2 n2 cu2 su2 → LW X 3016 (lv0 i) [] sh2 M2 L2 R2 n2 cu2 su2) : LW X 2360 (lv0 i) [] sh M L R n cu su := by
  have hr := hI.room (by omega)
  refine wx_aload_n dL_law_2360 rfl ?_
  refine wl_arg (k := 1) dL_law_2361 dL_law_2362 dL_law_2364 dL_law_2365 dL_law_2366 (by decide) (by omega) hX rfl rfl ?_
  refine wl_arg (k := 2) dL_law_2367 dL_law_2368 dL_law_2370 dL_law_2371 dL_law_2372 (by decide) (by omega) hX rfl rfl ?_
  refine wl_arg (k := 3) dL_law_2373 dL_law_2374 dL_law_2376 dL_law_2377 dL_law_2378 (by decide) (by omega) hX rfl rfl ?_
  refine wl_K (k_pull hI (X.2 (i + 1)) (X.2 (i + 2)) (X.2 (i + 3))) hr dL_law_2379 (px_mem 1490 (by decide +kernel) rfl) mw_L_pull rfl (fun k sh1 M1 L1 R1 n1 cu1 su1 hK => ?_)
  refine wx_istore (lv' := (5, .int k) :: lv0 i) dL_law_2382 (by decide) rfl ?_
  refine wx_aload_n dL_law_2384 rfl ?_
  refine wl_arg (k := 1) dL_law_2385 dL_law_2386 dL_law_2388 dL_law_2389 dL_law_2390 (by decide) (by omega) hX rfl rfl ?_
  refine wl_arg (k := 2) dL_law_2391 dL_law_2392 dL_law_2394 dL_law_2395 dL_law_2396 (by decide) (by omega) hX rfl rfl ?_
  refine wl_arg (k := 3) dL_law_2397 dL_law_2398 dL_law_2400 dL_law_2401 dL_law_2402 (by decide) (by omega) hX rfl rfl ?_
  refine wl_M hK dL_law_2403 ml_L_272 my_X12_pull iv_X12_pull rfl (fun v w sh2 M2 L2 R2 n2 cu2 su2 a1 a2 a3 a4 => ?_)
  exact tl_V a1 a3 a4 hc dL_law_2406 dL_law_2407 dL_law_2410 dL_law_2412 dL_law_2417 (by decide) (G _ _ _ _ _ _ _ a4)
theorem lcx_35 (hI : IA c sh M L R n cu su) (hc : c + 1 ≤ 512) (hi : i + 5 < X.1) (hX : X.1 ≤ 3072) (G : ∀ sh2 M2 L2 R2 n2 cu2 su2, IA (c + 1) sh2 M2 L2 R2 n2 cu2 su2 → LW X 3016 (lv0 i) [] sh2 M2 L2 R2 n2 cu2 su2) : LW X 2420 (lv0 i) [] sh M L R n cu su := by
  have hr := hI.room (by omega)
  refine wx_aload_n dL_law_2420 rfl ?_
  refine wl_arg (k := 1) dL_law_2421 dL_law_2422 dL_law_2424 dL_law_2425 dL_law_2426 (by decide) (by omega) hX rfl rfl ?_
  refine wl_arg (k := 2) dL_law_2427 dL_law_2428 dL_law_2430 dL_law_2431 dL_law_2432 (by decide) (by omega) hX rfl rfl ?_
  refine wx_aload_n dL_law_2433 rfl ?_
  refine wl_K (k_string hI (X.2 (i + 1)) (X.2 (i + 2))) hr dL_law_2434 (px_mem 1506 (by decide +kernel) rfl) mw_L_string rfl (fun k sh1 M1 L1 R1 n1 cu1 su1 hK => ?_)
  refine wx_istore (lv' := (5, .int k) :: lv0 i) dL_law_2437 (by decide) rfl ?_
  refine wx_aload_n dL_law_2439 rfl ?_
  refine wl_arg (k := 1) dL_law_2440 dL_law_2441 dL_law_2443 dL_law_2444 dL_law_2445 (by decide) (by omega) hX rfl rfl ?_
  refine wl_arg (k := 2) dL_law_2446 dL_law_2447 dL_law_2449 dL_law_2450 dL_law_2451 (by decide) (by omega) hX rfl rfl ?_
  refine wl_M hK dL_law_2452 ml_L_275 my_X12_string iv_X12_string rfl (fun v w sh2 M2 L2 R2 n2 cu2 su2 a1 a2 a3 a4 => ?_)
  exact tl_I a1 a2 a3 a4 hc dL_law_2455 dL_law_2457 dL_law_2458 dL_law_2461 dL_law_2463 dL_law_2468 dL_law_2470 dL_law_2473 dL_law_2474 dL_law_2475 dL_law_2476 dL_law_2478 dL_law_2479 dL_law_2480 dL_law_2485 (by decide) (G _ _ _ _ _ _ _ a4)
theorem lcx_36 (hI : IA c sh M L R n cu su) (hc : c + 1 ≤ 512) (hi : i + 5 < X.1) (hX : X.1 ≤ 3072) (G : ∀ sh2 M2 L2 R2 n2 cu2 su2, IA (c + 1) sh2 M2 L2 R2 n2 cu2 su2 → LW X 3016 (lv0 i) [] sh2 M2 L2 R2 n2 cu2 su2) : LW X 2488 (lv0 i) [] sh M L R n cu su := by
  have hr := hI.room (by omega)
  refine wx_aload_n dL_law_2488 rfl ?_
  refine wl_D (k_hangs hI) hI hr dL_law_2489 ml_L_276 my_X11_hangs iv_X11_hangs rfl (fun k sh1 M1 L1 R1 n1 P2 hS1 hm hk => ?_)
  refine wx_aload_n dL_law_2492 rfl ?_
  exact wl_E hS1 hm hk hr dL_law_2493 ml_L_280 my_X12_hangs iv_X12_hangs rfl dL_law_2496 (by decide) (fun sh2 M2 L2 R2 n2 hI2 => G _ _ _ _ _ _ _ hI2)
theorem lcx_37 (hI : IA c sh M L R n cu su) (hc : c + 1 ≤ 512) (hi : i + 5 < X.1) (hX : X.1 ≤ 3072) (G : ∀ sh2 M2 L2 R2 n2 cu2 su2, IA (c + 1) sh2 M2 L2 R2 n2 cu2 su2 → LW X 3016 (lv0 i) [] sh2 M2 L2 R2 n2 cu2 su2) : LW X 2501 (lv0 i) [] sh M L R n cu su := by
  have hr := hI.room (by omega)
  refine wx_aload_n dL_law_2501 rfl ?_
  refine wl_arg (k := 1) dL_law_2502 dL_law_2503 dL_law_2505 dL_law_2506 dL_law_2507 (by decide) (by omega) hX rfl rfl ?_
  refine wx_aload_n dL_law_2508 rfl ?_
  refine wl_K (k_slack hI (X.2 (i + 1))) hr dL_law_2509 (px_mem 1521 (by decide +kernel) rfl) mw_L_slack rfl (fun k sh1 M1 L1 R1 n1 cu1 su1 hK => ?_)
  refine wx_istore (lv' := (5, .int k) :: lv0 i) dL_law_2512 (by decide) rfl ?_
  refine wx_aload_n dL_law_2514 rfl ?_
  refine wl_arg (k := 1) dL_law_2515 dL_law_2516 dL_law_2518 dL_law_2519 dL_law_2520 (by decide) (by omega) hX rfl rfl ?_
  refine wl_M hK dL_law_2521 ml_L_283 my_X12_slack iv_X12_slack rfl (fun v w sh2 M2 L2 R2 n2 cu2 su2 a1 a2 a3 a4 => ?_)
  exact tl_Z a1 a2 a3 a4 hc dL_law_2524 dL_law_2526 dL_law_2527 dL_law_2530 dL_law_2532 dL_law_2537 dL_law_2539 dL_law_2542 dL_law_2543 dL_law_2544 dL_law_2545 dL_law_2547 dL_law_2550 dL_law_2551 dL_law_2554 dL_law_2555 dL_law_2556 dL_law_2561 (by decide) (G _ _ _ _ _ _ _ a4)
theorem lcx_38 (hI : IA c sh M L R n cu su) (hc : c + 1 ≤ 512) (hi : i + 5 < X.1) (hX : X.1 ≤ 3072) (G : ∀ sh2 M2 L2 R2 n2 cu2 su2, IA (c + 1) sh2 M2 L2 R2 n2 cu2 su2 → LW X 3016 (lv0 i) [] sh2 M2 L2 R2 n2 cu2 su2) : LW X 2564 (lv0 i) [] sh M L R n cu su := by
  have hr := hI.room (by omega)
  refine wx_aload_n dL_law_2564 rfl ?_
  refine wl_arg (k := 1) dL_law_2565 dL_law_2566 dL_law_2568 dL_law_2569 dL_law_2570 (by decide) (by omega) hX rfl rfl ?_
  refine wx_aload_n dL_law_2571 rfl ?_
  refine wl_K (k_taut hI (X.2 (i + 1))) hr dL_law_2572 (px_mem 1532 (by decide +kernel) rfl) mw_L_taut rfl (fun k sh1 M1 L1 R1 n1 cu1 su1 hK => ?_)
  refine wx_istore (lv' := (5, .int k) :: lv0 i) dL_law_2575 (by decide) rfl ?_
  refine wx_aload_n dL_law_2577 rfl ?_
  refine wl_arg (k := 1) dL_law_2578 dL_law_2579 dL_law_2581 dL_law_2582 dL_law_2583 (by decide) (by omega) hX rfl rfl ?_
  refine wl_M hK dL_law_2584 ml_L_286 my_X12_taut iv_X12_taut rfl (fun v w sh2 M2 L2 R2 n2 cu2 su2 a1 a2 a3 a4 => ?_)
  exact tl_Z a1 a2 a3 a4 hc dL_law_2587 dL_law_2589 dL_law_2590 dL_law_2593 dL_law_2595 dL_law_2600 dL_law_2602 dL_law_2605 dL_law_2606 dL_law_2607 dL_law_2608 dL_law_2610 dL_law_2613 dL_law_2614 dL_law_2617 dL_law_2618 dL_law_2619 dL_law_2624 (by decide) (G _ _ _ _ _ _ _ a4)
theorem lcx_39 (hI : IA c sh M L R n cu su) (hc : c + 1 ≤ 512) (hi : i + 5 < X.1) (hX : X.1 ≤ 3072) (G : ∀ sh2 M2 L2 R2 n2 cu2 su2, IA (c + 1) sh2 M2 L2 R2 n2 cu2 su2 → LW X 3016 (lv0 i) [] sh2 M2 L2 R2 n2 cu2 su2) : LW X 2627 (lv0 i) [] sh M L R n cu su := by
  have hr := hI.room (by omega)
  refine wx_aload_n dL_law_2627 rfl ?_
  refine wl_arg (k := 1) dL_law_2628 dL_law_2629 dL_law_2631 dL_law_2632 dL_law_2633 (by decide) (by omega) hX rfl rfl ?_
  refine wx_aload_n dL_law_2634 rfl ?_
  refine wl_K (k_ease hI (X.2 (i + 1))) hr dL_law_2635 (px_mem 1539 (by decide +kernel) rfl) mw_L_ease rfl (fun k sh1 M1 L1 R1 n1 cu1 su1 hK => ?_)
  refine wx_istore (lv' := (5, .int k) :: lv0 i) dL_law_2638 (by decide) rfl ?_
  refine wx_aload_n dL_law_2640 rfl ?_
  refine wl_arg (k := 1) dL_law_2641 dL_law_2642 dL_law_2644 dL_law_2645 dL_law_2646 (by decide) (by omega) hX rfl rfl ?_
  refine wl_M hK dL_law_2647 ml_L_289 my_X12_ease iv_X12_ease rfl (fun v w sh2 M2 L2 R2 n2 cu2 su2 a1 a2 a3 a4 => ?_)
  exact tl_J a1 a2 a3 a4 hc dL_law_2650 dL_law_2652 dL_law_2653 dL_law_2656 dL_law_2658 dL_law_2663 dL_law_2665 dL_law_2668 dL_law_2669 dL_law_2670 dL_law_2671 dL_law_2673 dL_law_2674 dL_law_2679 (by decide) (G _ _ _ _ _ _ _ a4)
theorem lcx_40 (hI : IA c sh M L R n cu su) (hc : c + 1 ≤ 512) (hi : i + 5 < X.1) (hX : X.1 ≤ 3072) (G : ∀ sh2 M2 L2 R2 n2 cu2 su2, IA (c + 1) sh2 M2 L2 R2 n2 cu2 su2 → LW X 3016 (lv0 i) [] sh2 M2 L2 R2 n2 cu2 su2) : LW X 2682 (lv0 i) [] sh M L R n cu su := by
  have hr := hI.room (by omega)
  refine wx_aload_n dL_law_2682 rfl ?_
  refine wl_D (k_cut hI) hI hr dL_law_2683 ml_L_290 my_X11_cut iv_X11_cut rfl (fun k sh1 M1 L1 R1 n1 P2 hS1 hm hk => ?_)
  refine wx_aload_n dL_law_2686 rfl ?_
  exact wl_E hS1 hm hk hr dL_law_2687 ml_L_293 my_X12_cut iv_X12_cut rfl dL_law_2690 (by decide) (fun sh2 M2 L2 R2 n2 hI2 => G _ _ _ _ _ _ _ hI2)
theorem lcx_41 (hI : IA c sh M L R n cu su) (hc : c + 1 ≤ 512) (hi : i + 5 < X.1) (hX : X.1 ≤ 3072) (G : ∀ sh2 M2 L2 R2 n2 cu2 su2, IA (c + 1) sh2 M2 L2 R2 n2 cu2 su2 → LW X 3016 (lv0 i) [] sh2 M2 L2 R2 n2 cu2 su2) : LW X 2695 (lv0 i) [] sh M L R n cu su := by
  have hr := hI.room (by omega)
  refine wx_aload_n dL_law_2695 rfl ?_
  refine wl_arg (k := 1) dL_law_2696 dL_law_2697 dL_law_2699 dL_law_2700 dL_law_2701 (by decide) (by omega) hX rfl rfl ?_
  refine wl_arg (k := 2) dL_law_2702 dL_law_2703 dL_law_2705 dL_law_2706 dL_law_2707 (by decide) (by omega) hX rfl rfl ?_
  refine wl_arg (k := 3) dL_law_2708 dL_law_2709 dL_law_2711 dL_law_2712 dL_law_2713 (by decide) (by omega) hX rfl rfl ?_
  refine wl_arg (k := 4) dL_law_2714 dL_law_2715 dL_law_2717 dL_law_2718 dL_law_2719 (by decide) (by omega) hX rfl rfl ?_
  refine wx_aload_n dL_law_2720 rfl ?_
  refine wl_K (k_offer hI (X.2 (i + 1)) (X.2 (i + 2)) (X.2 (i + 3)) (X.2 (i + 4))) hr dL_law_2721 (px_mem 1547 (by decide +kernel) rfl) mw_L_offer rfl (fun k sh1 M1 L1 R1 n1 cu1 su1 hK => ?_)
  refine wx_istore (lv' := (5, .int k) :: lv0 i) dL_law_2724 (by decide) rfl ?_
  refine wx_aload_n dL_law_2726 rfl ?_
  refine wl_arg (k := 1) dL_law_2727 dL_law_2728 dL_law_2730 dL_law_2731 dL_law_2732 (by decide) (by omega) hX rfl rfl ?_
  refine wl_arg (k := 2) dL_law_2733 dL_law_2734 dL_law_2736 dL_law_2737 dL_law_2738 (by decide) (by omega) hX rfl rfl ?_
  refine wl_arg (k := 3) dL_law_2739 dL_law_2740 dL_law_2742 dL_law_2743 dL_law_2744 (by decide) (by omega) hX rfl rfl ?_
  refine wl_arg (k := 4) dL_law_2745 dL_law_2746 dL_law_2748 dL_law_2749 dL_law_2750 (by decide) (by omega) hX rfl rfl ?_
  refine wl_M hK dL_law_2751 ml_L_297 my_X12_offer iv_X12_offer rfl (fun v w sh2 M2 L2 R2 n2 cu2 su2 a1 a2 a3 a4 => ?_)
  exact tl_I a1 a2 a3 a4 hc dL_law_2754 dL_law_2756 dL_law_2757 dL_law_2760 dL_law_2762 dL_law_2767 dL_law_2769 dL_law_2772 dL_law_2773 dL_law_2774 dL_law_2775 dL_law_2777 dL_law_2778 dL_law_2779 dL_law_2784 (by decide) (G _ _ _ _ _ _ _ a4)
theorem lcx_42 (hI : IA c sh M L R n cu su) (hc : c + 1 ≤ 512) (hi : i + 5 < X.1) (hX : X.1 ≤ 3072) (G : ∀ sh2 M2 L2 R2 n2 cu2 su2, IA (c + 1) sh2 M2 L2 R2 n2 cu2 su2 → LW X 3016 (lv0 i) [] sh2 M2 L2 R2 n2 cu2 su2) : LW X 2787 (lv0 i) [] sh M L R n cu su := by
  have hr := hI.room (by omega)
  refine wx_aload_n dL_law_2787 rfl ?_
  refine wl_arg (k := 1) dL_law_2788 dL_law_2789 dL_law_2791 dL_law_2792 dL_law_2793 (by decide) (by omega) hX rfl rfl ?_
  refine wl_arg (k := 2) dL_law_2794 dL_law_2795 dL_law_2797 dL_law_2798 dL_law_2799 (by decide) (by omega) hX rfl rfl ?_
  refine wl_arg (k := 3) dL_law_2800 dL_law_2801 dL_law_2803 dL_law_2804 dL_law_2805 (by decide) (by omega) hX rfl rfl ?_
  refine wx_aload_n dL_law_2806 rfl ?_
  refine wl_K (k_sheet hI (X.2 (i + 1)) (X.2 (i + 2)) (X.2 (i + 3))) hr dL_law_2807 (px_mem 1558 (by decide +kernel) rfl) mw_L_sheet rfl (fun k sh1 M1 L1 R1 n1 cu1 su1 hK => ?_)
  refine wx_istore (lv' := (5, .int k) :: lv0 i) dL_law_2810 (by decide) rfl ?_
  refine wx_aload_n dL_law_2812 rfl ?_
  refine wl_arg (k := 1) dL_law_2813 dL_law_2814 dL_law_2816 dL_law_2817 dL_law_2818 (by decide) (by omega) hX rfl rfl ?_
  refine wl_arg (k := 2) dL_law_2819 dL_law_2820 dL_law_2822 dL_law_2823 dL_law_2824 (by decide) (by omega) hX rfl rfl ?_
  refine wl_arg (k := 3) dL_law_2825 dL_law_2826 dL_law_2828 dL_law_2829 dL_law_2830 (by decide) (by omega) hX rfl rfl ?_
  refine wl_M hK dL_law_2831 ml_L_300 my_X12_sheet iv_X12_sheet rfl (fun v w sh2 M2 L2 R2 n2 cu2 su2 a1 a2 a3 a4 => ?_)
  exact tl_I a1 a2 a3 a4 hc dL_law_2834 dL_law_2836 dL_law_2837 dL_law_2840 dL_law_2842 dL_law_2847 dL_law_2849 dL_law_2852 dL_law_2853 dL_law_2854 dL_law_2855 dL_law_2857 dL_law_2858 dL_law_2859 dL_law_2864 (by decide) (G _ _ _ _ _ _ _ a4)
theorem lcx_43 (hI : IA c sh M L R n cu su) (hc : c + 1 ≤ 512) (hi : i + 5 < X.1) (hX : X.1 ≤ 3072) (G : ∀ sh2 M2 L2 R2 n2 cu2 su2, IA (c + 1) sh2 M2 L2 R2 n2 cu2 su2 → LW X 3016 (lv0 i) [] sh2 M2 L2 R2 n2 cu2 su2) : LW X 2867 (lv0 i) [] sh M L R n cu su := by
  have hr := hI.room (by omega)
  refine wx_aload_n dL_law_2867 rfl ?_
  refine wl_arg (k := 1) dL_law_2868 dL_law_2869 dL_law_2871 dL_law_2872 dL_law_2873 (by decide) (by omega) hX rfl rfl ?_
  refine wl_arg (k := 2) dL_law_2874 dL_law_2875 dL_law_2877 dL_law_2878 dL_law_2879 (by decide) (by omega) hX rfl rfl ?_
  refine wx_aload_n dL_law_2880 rfl ?_
  refine wl_K (k_late hI (X.2 (i + 1)) (X.2 (i + 2))) hr dL_law_2881 (px_mem 1584 (by decide +kernel) rfl) mw_L_late rfl (fun k sh1 M1 L1 R1 n1 cu1 su1 hK => ?_)
  refine wx_istore (lv' := (5, .int k) :: lv0 i) dL_law_2884 (by decide) rfl ?_
  refine wx_aload_n dL_law_2886 rfl ?_
  refine wl_arg (k := 1) dL_law_2887 dL_law_2888 dL_law_2890 dL_law_2891 dL_law_2892 (by decide) (by omega) hX rfl rfl ?_
  refine wl_arg (k := 2) dL_law_2893 dL_law_2894 dL_law_2896 dL_law_2897 dL_law_2898 (by decide) (by omega) hX rfl rfl ?_
  refine wl_M hK dL_law_2899 ml_L_303 my_X12_late iv_X12_late rfl (fun v w sh2 M2 L2 R2 n2 cu2 su2 a1 a2 a3 a4 => ?_)
  exact tl_I a1 a2 a3 a4 hc dL_law_2902 dL_law_2904 dL_law_2905 dL_law_2908 dL_law_2910 dL_law_2915 dL_law_2917 dL_law_2920 dL_law_2921 dL_law_2922 dL_law_2923 dL_law_2925 dL_law_2926 dL_law_2927 dL_law_2932 (by decide) (G _ _ _ _ _ _ _ a4)
theorem lcx_44 (hI : IA c sh M L R n cu su) (hc : c + 1 ≤ 512) (hi : i + 5 < X.1) (hX : X.1 ≤ 3072) (G : ∀ sh2 M2 L2 R2 n2 cu2 su2, IA (c + 1) sh2 M2 L2 R2 n2 cu2 su2 → LW X 3016 (lv0 i) [] sh2 M2 L2 R2 n2 cu2 su2) : LW X 2935 (lv0 i) [] sh M L R n cu su := by
  have hr := hI.room (by omega)
  refine wx_aload_n dL_law_2935 rfl ?_
  refine wl_arg (k := 1) dL_law_2936 dL_law_2937 dL_law_2939 dL_law_2940 dL_law_2941 (by decide) (by omega) hX rfl rfl ?_
  refine wx_aload_n dL_law_2942 rfl ?_
  refine wl_K (k_window hI (X.2 (i + 1))) hr dL_law_2943 (px_mem 1595 (by decide +kernel) rfl) mw_L_window rfl (fun k sh1 M1 L1 R1 n1 cu1 su1 hK => ?_)
  refine wx_istore (lv' := (5, .int k) :: lv0 i) dL_law_2946 (by decide) rfl ?_
  refine wx_aload_n dL_law_2948 rfl ?_
  refine wl_arg (k := 1) dL_law_2949 dL_law_2950 dL_law_2952 dL_law_2953 dL_law_2954 (by decide) (by omega) hX rfl rfl ?_
  refine wl_M hK dL_law_2955 ml_L_306 my_X12_window iv_X12_window rfl (fun v w sh2 M2 L2 R2 n2 cu2 su2 a1 a2 a3 a4 => ?_)
  exact tl_I a1 a2 a3 a4 hc dL_law_2958 dL_law_2960 dL_law_2961 dL_law_2964 dL_law_2966 dL_law_2971 dL_law_2973 dL_law_2976 dL_law_2977 dL_law_2978 dL_law_2979 dL_law_2981 dL_law_2982 dL_law_2983 dL_law_2988 (by decide) (G _ _ _ _ _ _ _ a4)
theorem lcx_45 (hI : IA c sh M L R n cu su) (hc : c + 1 ≤ 512) (hi : i + 5 < X.1) (hX : X.1 ≤ 3072) (G : ∀ sh2 M2 L2 R2 n2 cu2 su2, IA (c + 1) sh2 M2 L2 R2 n2 cu2 su2 → LW X 3016 (lv0 i) [] sh2 M2 L2 R2 n2 cu2 su2) : LW X 2991 (lv0 i) [] sh M L R n cu su := by
  have hr := hI.room (by omega)
  refine wx_aload_n dL_law_2991 rfl ?_
  refine wl_arg (k := 1) dL_law_2992 dL_law_2993 dL_law_2995 dL_law_2996 dL_law_2997 (by decide) (by omega) hX rfl rfl ?_
  refine wl_D (k_count hI (X.2 (i + 1))) hI hr dL_law_2998 ml_L_307 my_X11_count iv_X11_count rfl (fun k sh1 M1 L1 R1 n1 P2 hS1 hm hk => ?_)
  refine wx_aload_n dL_law_3001 rfl ?_
  refine wl_arg (k := 1) dL_law_3002 dL_law_3003 dL_law_3005 dL_law_3006 dL_law_3007 (by decide) (by omega) hX rfl rfl ?_
  exact wl_E hS1 hm hk hr dL_law_3008 ml_L_310 my_X12_count iv_X12_count rfl dL_law_3011 (by decide) (fun sh2 M2 L2 R2 n2 hI2 => G _ _ _ _ _ _ _ hI2)
end CASES
