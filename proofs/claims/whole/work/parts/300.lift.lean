/-! small -/
section LIFT
variable {d mc ms : Nat} {X : Nat × (Nat → Int32)} {Post : px_Post} {sh : px_Sh} {n cu su : Nat}
noncomputable def f_J9_abs_0f7a4_10 (z0 : Int32) : Option (Int32) :=
  some z0
theorem s_J9_abs_0f7a4_10 {z0 : Int32} {M : px_M} {L : px_L} {R : px_R} {e : (Int32)} (hS : SR sh R) (hd : 0 ≤ d) (hcu : cu ≤ mc) (hsu : su ≤ ms) (h : f_J9_abs_0f7a4_10 z0 = some e) (g : Post (some (.int e)) sh M L R n) : WX RJ9 cJ9_abs_0f7a4 1 (some .int) ("abs", []) d mc ms X (px_QF Post mc ms) 10 [] [.int z0] sh M L R n cu su := by
  unfold f_J9_abs_0f7a4_10 at h
  refine wx_iret dJ9_abs_0f7a4_10 hcu hsu ?_
  obtain rfl := Option.some.inj h
  exact g
noncomputable def f_J9_abs_0f7a4 (p0 : Int32) : Option (Int32) :=
  if 0 ≤ p0 then
    f_J9_abs_0f7a4_10 p0
  else
    f_J9_abs_0f7a4_10 (-p0)
theorem s_J9_abs_0f7a4 {d : Nat} {X : Nat × (Nat → Int32)} {sh : px_Sh} {M : px_M} {L : px_L} {R : px_R} {n : Nat} {p0 : Int32} {e : Int32} (hS : SR sh R) (hd : 0 ≤ d) (h : f_J9_abs_0f7a4 p0 = some e) : MX yJ9_abs_0f7a4 cJ9_abs_0f7a4 1 (some .int) d 0 0 X [.int p0] sh M L R n (px_pu (some (.int e)) sh M L R n) := by
  refine MX.of (by decide +kernel) (by exact Nat.le_of_ble_eq_true rfl) ?_
  have hcu : 0 ≤ 0 := Nat.zero_le _
  have hsu : 0 ≤ 0 := Nat.zero_le _
  have g : px_pu (some (.int e)) sh M L R n (some (.int e)) sh M L R n := ⟨rfl, rfl, rfl, rfl, rfl, rfl⟩
  unfold f_J9_abs_0f7a4 at h
  refine wx_iload_n dJ9_abs_0f7a4_0 rfl ?_
  refine wx_if_ge (tgt := 9) dJ9_abs_0f7a4_1 (by decide) (fun c_1 => ?_) (fun c_1 => ?_)
  · replace h := it_t h c_1
    refine wx_iload_n dJ9_abs_0f7a4_9 rfl ?_
    exact wx_sub (s_J9_abs_0f7a4_10 hS hd hcu hsu h g) px_0
  · replace h := it_f h c_1
    refine wx_iload_n dJ9_abs_0f7a4_4 rfl ?_
    refine wx_ineg dJ9_abs_0f7a4_5 ?_
    refine wx_goto (tgt := 10) dJ9_abs_0f7a4_6 (by decide) ?_
    exact wx_sub (s_J9_abs_0f7a4_10 hS hd hcu hsu h g) px_0
noncomputable def f_J9_abs_067f4_12 (z0 : Int64) : Option (Int64) :=
  some z0
theorem s_J9_abs_067f4_12 {z0 : Int64} {M : px_M} {L : px_L} {R : px_R} {e : (Int64)} (hS : SR sh R) (hd : 0 ≤ d) (hcu : cu ≤ mc) (hsu : su ≤ ms) (h : f_J9_abs_067f4_12 z0 = some e) (g : Post (some (.long e)) sh M L R n) : WX RJ9 cJ9_abs_067f4 2 (some .long) ("abs", []) d mc ms X (px_QF Post mc ms) 12 [] [.long z0] sh M L R n cu su := by
  unfold f_J9_abs_067f4_12 at h
  refine wx_lret dJ9_abs_067f4_12 hcu hsu ?_
  obtain rfl := Option.some.inj h
  exact g
noncomputable def f_J9_abs_067f4 (p0 : Int64) : Option (Int64) :=
  if 0 ≤ (lg_cmp p0 0) then
    f_J9_abs_067f4_12 p0
  else
    f_J9_abs_067f4_12 (-p0)
theorem s_J9_abs_067f4 {d : Nat} {X : Nat × (Nat → Int32)} {sh : px_Sh} {M : px_M} {L : px_L} {R : px_R} {n : Nat} {p0 : Int64} {e : Int64} (hS : SR sh R) (hd : 0 ≤ d) (h : f_J9_abs_067f4 p0 = some e) : MX yJ9_abs_067f4 cJ9_abs_067f4 2 (some .long) d 0 0 X [.long p0] sh M L R n (px_pu (some (.long e)) sh M L R n) := by
  refine MX.of (by decide +kernel) (by exact Nat.le_of_ble_eq_true rfl) ?_
  have hcu : 0 ≤ 0 := Nat.zero_le _
  have hsu : 0 ≤ 0 := Nat.zero_le _
  have g : px_pu (some (.long e)) sh M L R n (some (.long e)) sh M L R n := ⟨rfl, rfl, rfl, rfl, rfl, rfl⟩
  unfold f_J9_abs_067f4 at h
  refine wx_lload_n dJ9_abs_067f4_0 rfl ?_
  refine wx_lconst (v := 0) dJ9_abs_067f4_1 (by decide) ?_
  refine wx_lcmp dJ9_abs_067f4_2 ?_
  refine wx_if_ge (tgt := 11) dJ9_abs_067f4_3 (by decide) (fun c_3 => ?_) (fun c_3 => ?_)
  · replace h := it_t h c_3
    refine wx_lload_n dJ9_abs_067f4_11 rfl ?_
    exact wx_sub (s_J9_abs_067f4_12 hS hd hcu hsu h g) px_0
  · replace h := it_f h c_3
    refine wx_lload_n dJ9_abs_067f4_6 rfl ?_
    refine wx_lneg dJ9_abs_067f4_7 ?_
    refine wx_goto (tgt := 12) dJ9_abs_067f4_8 (by decide) ?_
    exact wx_sub (s_J9_abs_067f4_12 hS hd hcu hsu h g) px_0
noncomputable def f_J9_max_7cf53_10 (z0 : Int32) : Option (Int32) :=
  some z0
theorem s_J9_max_7cf53_10 {z0 : Int32} {M : px_M} {L : px_L} {R : px_R} {e : (Int32)} (hS : SR sh R) (hd : 0 ≤ d) (hcu : cu ≤ mc) (hsu : su ≤ ms) (h : f_J9_max_7cf53_10 z0 = some e) (g : Post (some (.int e)) sh M L R n) : WX RJ9 cJ9_max_7cf53 2 (some .int) ("max", []) d mc ms X (px_QF Post mc ms) 10 [] [.int z0] sh M L R n cu su := by
  unfold f_J9_max_7cf53_10 at h
  refine wx_iret dJ9_max_7cf53_10 hcu hsu ?_
  obtain rfl := Option.some.inj h
  exact g
noncomputable def f_J9_max_7cf53 (p0 : Int32) (p1 : Int32) : Option (Int32) :=
  if p0 < p1 then
    f_J9_max_7cf53_10 p1
  else
    f_J9_max_7cf53_10 p0
theorem s_J9_max_7cf53 {d : Nat} {X : Nat × (Nat → Int32)} {sh : px_Sh} {M : px_M} {L : px_L} {R : px_R} {n : Nat} {p0 : Int32} {p1 : Int32} {e : Int32} (hS : SR sh R) (hd : 0 ≤ d) (h : f_J9_max_7cf53 p0 p1 = some e) : MX yJ9_max_7cf53 cJ9_max_7cf53 2 (some .int) d 0 0 X [.int p0, .int p1] sh M L R n (px_pu (some (.int e)) sh M L R n) := by
  refine MX.of (by decide +kernel) (by exact Nat.le_of_ble_eq_true rfl) ?_
  have hcu : 0 ≤ 0 := Nat.zero_le _
  have hsu : 0 ≤ 0 := Nat.zero_le _
  have g : px_pu (some (.int e)) sh M L R n (some (.int e)) sh M L R n := ⟨rfl, rfl, rfl, rfl, rfl, rfl⟩
  unfold f_J9_max_7cf53 at h
  refine wx_iload_n dJ9_max_7cf53_0 rfl ?_
  refine wx_iload_n dJ9_max_7cf53_1 rfl ?_
  refine wx_icmp_lt (tgt := 9) dJ9_max_7cf53_2 (by decide) (fun c_2 => ?_) (fun c_2 => ?_)
  · replace h := it_t h c_2
    refine wx_iload_n dJ9_max_7cf53_9 rfl ?_
    exact wx_sub (s_J9_max_7cf53_10 hS hd hcu hsu h g) px_0
  · replace h := it_f h c_2
    refine wx_iload_n dJ9_max_7cf53_5 rfl ?_
    refine wx_goto (tgt := 10) dJ9_max_7cf53_6 (by decide) ?_
    exact wx_sub (s_J9_max_7cf53_10 hS hd hcu hsu h g) px_0
noncomputable def f_J9_min_7cf53_10 (z0 : Int32) : Option (Int32) :=
  some z0
theorem s_J9_min_7cf53_10 {z0 : Int32} {M : px_M} {L : px_L} {R : px_R} {e : (Int32)} (hS : SR sh R) (hd : 0 ≤ d) (hcu : cu ≤ mc) (hsu : su ≤ ms) (h : f_J9_min_7cf53_10 z0 = some e) (g : Post (some (.int e)) sh M L R n) : WX RJ9 cJ9_min_7cf53 2 (some .int) ("min", []) d mc ms X (px_QF Post mc ms) 10 [] [.int z0] sh M L R n cu su := by
  unfold f_J9_min_7cf53_10 at h
  refine wx_iret dJ9_min_7cf53_10 hcu hsu ?_
  obtain rfl := Option.some.inj h
  exact g
noncomputable def f_J9_min_7cf53 (p0 : Int32) (p1 : Int32) : Option (Int32) :=
  if p1 < p0 then
    f_J9_min_7cf53_10 p1
  else
    f_J9_min_7cf53_10 p0
theorem s_J9_min_7cf53 {d : Nat} {X : Nat × (Nat → Int32)} {sh : px_Sh} {M : px_M} {L : px_L} {R : px_R} {n : Nat} {p0 : Int32} {p1 : Int32} {e : Int32} (hS : SR sh R) (hd : 0 ≤ d) (h : f_J9_min_7cf53 p0 p1 = some e) : MX yJ9_min_7cf53 cJ9_min_7cf53 2 (some .int) d 0 0 X [.int p0, .int p1] sh M L R n (px_pu (some (.int e)) sh M L R n) := by
  refine MX.of (by decide +kernel) (by exact Nat.le_of_ble_eq_true rfl) ?_
  have hcu : 0 ≤ 0 := Nat.zero_le _
  have hsu : 0 ≤ 0 := Nat.zero_le _
  have g : px_pu (some (.int e)) sh M L R n (some (.int e)) sh M L R n := ⟨rfl, rfl, rfl, rfl, rfl, rfl⟩
  unfold f_J9_min_7cf53 at h
  refine wx_iload_n dJ9_min_7cf53_0 rfl ?_
  refine wx_iload_n dJ9_min_7cf53_1 rfl ?_
  refine wx_icmp_gt (tgt := 9) dJ9_min_7cf53_2 (by decide) (fun c_2 => ?_) (fun c_2 => ?_)
  · replace h := it_t h c_2
    refine wx_iload_n dJ9_min_7cf53_9 rfl ?_
    exact wx_sub (s_J9_min_7cf53_10 hS hd hcu hsu h g) px_0
  · replace h := it_f h c_2
    refine wx_iload_n dJ9_min_7cf53_5 rfl ?_
    refine wx_goto (tgt := 10) dJ9_min_7cf53_6 (by decide) ?_
    exact wx_sub (s_J9_min_7cf53_10 hS hd hcu hsu h g) px_0
noncomputable def f_J9_floorMod_7cf53_18 (x2 : Int32) : Option (Int32) :=
  some x2
theorem s_J9_floorMod_7cf53_18 {x2 : Int32} {M : px_M} {L : px_L} {R : px_R} {e : (Int32)} (hS : SR sh R) (hd : 0 ≤ d) (hcu : cu ≤ mc) (hsu : su ≤ ms) (h : f_J9_floorMod_7cf53_18 x2 = some e) (g : Post (some (.int e)) sh M L R n) : WX RJ9 cJ9_floorMod_7cf53 3 (some .int) ("floorMod", []) d mc ms X (px_QF Post mc ms) 18 [(2, .int x2)] [] sh M L R n cu su := by
  unfold f_J9_floorMod_7cf53_18 at h
  refine wx_iload_n dJ9_floorMod_7cf53_18 rfl ?_
  refine wx_iret dJ9_floorMod_7cf53_19 hcu hsu ?_
  obtain rfl := Option.some.inj h
  exact g
noncomputable def f_J9_floorMod_7cf53 (p0 : Int32) (p1 : Int32) : Option (Int32) :=
  ok (nz p1 0) <|
  nm (p0 - p0 / p1 * p1) fun v_3 =>
  if 0 ≤ (p0 ^^^ p1) then
    f_J9_floorMod_7cf53_18 v_3
  else
    if v_3 = 0 then
      f_J9_floorMod_7cf53_18 v_3
    else
      some (v_3 + p1)
theorem s_J9_floorMod_7cf53 {d : Nat} {X : Nat × (Nat → Int32)} {sh : px_Sh} {M : px_M} {L : px_L} {R : px_R} {n : Nat} {p0 : Int32} {p1 : Int32} {e : Int32} (hS : SR sh R) (hd : 0 ≤ d) (h : f_J9_floorMod_7cf53 p0 p1 = some e) : MX yJ9_floorMod_7cf53 cJ9_floorMod_7cf53 3 (some .int) d 0 0 X [.int p0, .int p1] sh M L R n (px_pu (some (.int e)) sh M L R n) := by
  refine MX.of (by decide +kernel) (by exact Nat.le_of_ble_eq_true rfl) ?_
  have hcu : 0 ≤ 0 := Nat.zero_le _
  have hsu : 0 ≤ 0 := Nat.zero_le _
  have g : px_pu (some (.int e)) sh M L R n (some (.int e)) sh M L R n := ⟨rfl, rfl, rfl, rfl, rfl, rfl⟩
  unfold f_J9_floorMod_7cf53 at h
  refine wx_iload_n dJ9_floorMod_7cf53_0 rfl ?_
  refine wx_iload_n dJ9_floorMod_7cf53_1 rfl ?_
  obtain ⟨w_2, h⟩ := ok_some h
  refine wx_irem dJ9_floorMod_7cf53_2 (nz_n w_2) ?_
  refine wx_nami (fun v_3 q_3 => ?_)
  replace h := nm_at h q_3
  refine wx_istore_n (lv' := [(2, _), (0, _), (1, _)]) dJ9_floorMod_7cf53_3 (by decide) rfl ?_
  refine wx_iload_n dJ9_floorMod_7cf53_4 rfl ?_
  refine wx_iload_n dJ9_floorMod_7cf53_5 rfl ?_
  refine wx_ixor dJ9_floorMod_7cf53_6 ?_
  refine wx_if_ge (tgt := 18) dJ9_floorMod_7cf53_7 (by decide) (fun c_7 => ?_) (fun c_7 => ?_)
  · replace h := it_t h c_7
    exact wx_sub (s_J9_floorMod_7cf53_18 hS hd hcu hsu h g) (px_s rfl px_0)
  · replace h := it_f h c_7
    refine wx_iload_n dJ9_floorMod_7cf53_10 rfl ?_
    refine wx_if_eq (tgt := 18) dJ9_floorMod_7cf53_11 (by decide) (fun c_11 => ?_) (fun c_11 => ?_)
    · replace h := it_t h c_11
      exact wx_sub (s_J9_floorMod_7cf53_18 hS hd hcu hsu h g) (px_s rfl px_0)
    · replace h := it_f h c_11
      refine wx_iload_n dJ9_floorMod_7cf53_14 rfl ?_
      refine wx_iload_n dJ9_floorMod_7cf53_15 rfl ?_
      refine wx_iadd dJ9_floorMod_7cf53_16 ?_
      refine wx_iret dJ9_floorMod_7cf53_17 hcu hsu ?_
      obtain rfl := Option.some.inj h
      exact g
noncomputable def f_J6_bitCount_0f7a4 (p0 : Int32) : Option (Int32) :=
  nm (p0 - ((((p0 : Int32).toUInt32 >>> ((1 : Int32).toUInt32 &&& Int32.toUInt32 31)).toInt32) &&& 1431655765)) fun v_9 =>
  nm ((v_9 &&& 858993459) + ((((v_9 : Int32).toUInt32 >>> ((2 : Int32).toUInt32 &&& Int32.toUInt32 31)).toInt32) &&& 858993459)) fun v_23 =>
  nm ((v_23 + (((v_23 : Int32).toUInt32 >>> ((4 : Int32).toUInt32 &&& Int32.toUInt32 31)).toInt32)) &&& 252645135) fun v_33 =>
  nm (v_33 + (((v_33 : Int32).toUInt32 >>> ((8 : Int32).toUInt32 &&& Int32.toUInt32 31)).toInt32)) fun v_40 =>
  nm (v_40 + (((v_40 : Int32).toUInt32 >>> ((16 : Int32).toUInt32 &&& Int32.toUInt32 31)).toInt32)) fun v_47 =>
  some (v_47 &&& 63)
theorem s_J6_bitCount_0f7a4 {d : Nat} {X : Nat × (Nat → Int32)} {sh : px_Sh} {M : px_M} {L : px_L} {R : px_R} {n : Nat} {p0 : Int32} {e : Int32} (hS : SR sh R) (hd : 0 ≤ d) (h : f_J6_bitCount_0f7a4 p0 = some e) : MX yJ6_bitCount_0f7a4 cJ6_bitCount_0f7a4 1 (some .int) d 0 0 X [.int p0] sh M L R n (px_pu (some (.int e)) sh M L R n) := by
  refine MX.of (by decide +kernel) (by exact Nat.le_of_ble_eq_true rfl) ?_
  have hcu : 0 ≤ 0 := Nat.zero_le _
  have hsu : 0 ≤ 0 := Nat.zero_le _
  have g : px_pu (some (.int e)) sh M L R n (some (.int e)) sh M L R n := ⟨rfl, rfl, rfl, rfl, rfl, rfl⟩
  unfold f_J6_bitCount_0f7a4 at h
  refine wx_iload_n dJ6_bitCount_0f7a4_0 rfl ?_
  refine wx_iload_n dJ6_bitCount_0f7a4_1 rfl ?_
  refine wx_iconst (v := 1) dJ6_bitCount_0f7a4_2 (by decide) ?_
  refine wx_iushr dJ6_bitCount_0f7a4_3 ?_
  refine wx_ldcw dJ6_bitCount_0f7a4_4 ki_J6_265 ?_
  refine wx_iand dJ6_bitCount_0f7a4_7 ?_
  refine wx_isub dJ6_bitCount_0f7a4_8 ?_
  refine wx_nami (fun v_9 q_9 => ?_)
  replace h := nm_at h q_9
  refine wx_istore_n (lv' := [(0, _)]) dJ6_bitCount_0f7a4_9 (by decide) rfl ?_
  refine wx_iload_n dJ6_bitCount_0f7a4_10 rfl ?_
  refine wx_ldcw dJ6_bitCount_0f7a4_11 ki_J6_266 ?_
  refine wx_iand dJ6_bitCount_0f7a4_14 ?_
  refine wx_iload_n dJ6_bitCount_0f7a4_15 rfl ?_
  refine wx_iconst (v := 2) dJ6_bitCount_0f7a4_16 (by decide) ?_
  refine wx_iushr dJ6_bitCount_0f7a4_17 ?_
  refine wx_ldcw dJ6_bitCount_0f7a4_18 ki_J6_266 ?_
  refine wx_iand dJ6_bitCount_0f7a4_21 ?_
  refine wx_iadd dJ6_bitCount_0f7a4_22 ?_
  refine wx_nami (fun v_23 q_23 => ?_)
  replace h := nm_at h q_23
  refine wx_istore_n (lv' := [(0, _)]) dJ6_bitCount_0f7a4_23 (by decide) rfl ?_
  refine wx_iload_n dJ6_bitCount_0f7a4_24 rfl ?_
  refine wx_iload_n dJ6_bitCount_0f7a4_25 rfl ?_
  refine wx_iconst (v := 4) dJ6_bitCount_0f7a4_26 (by decide) ?_
  refine wx_iushr dJ6_bitCount_0f7a4_27 ?_
  refine wx_iadd dJ6_bitCount_0f7a4_28 ?_
  refine wx_ldcw dJ6_bitCount_0f7a4_29 ki_J6_267 ?_
  refine wx_iand dJ6_bitCount_0f7a4_32 ?_
  refine wx_nami (fun v_33 q_33 => ?_)
  replace h := nm_at h q_33
  refine wx_istore_n (lv' := [(0, _)]) dJ6_bitCount_0f7a4_33 (by decide) rfl ?_
  refine wx_iload_n dJ6_bitCount_0f7a4_34 rfl ?_
  refine wx_iload_n dJ6_bitCount_0f7a4_35 rfl ?_
  refine wx_bipush (v := 8) dJ6_bitCount_0f7a4_36 (by decide) ?_
  refine wx_iushr dJ6_bitCount_0f7a4_38 ?_
  refine wx_iadd dJ6_bitCount_0f7a4_39 ?_
  refine wx_nami (fun v_40 q_40 => ?_)
  replace h := nm_at h q_40
  refine wx_istore_n (lv' := [(0, _)]) dJ6_bitCount_0f7a4_40 (by decide) rfl ?_
  refine wx_iload_n dJ6_bitCount_0f7a4_41 rfl ?_
  refine wx_iload_n dJ6_bitCount_0f7a4_42 rfl ?_
  refine wx_bipush (v := 16) dJ6_bitCount_0f7a4_43 (by decide) ?_
  refine wx_iushr dJ6_bitCount_0f7a4_45 ?_
  refine wx_iadd dJ6_bitCount_0f7a4_46 ?_
  refine wx_nami (fun v_47 q_47 => ?_)
  replace h := nm_at h q_47
  refine wx_istore_n (lv' := [(0, _)]) dJ6_bitCount_0f7a4_47 (by decide) rfl ?_
  refine wx_iload_n dJ6_bitCount_0f7a4_48 rfl ?_
  refine wx_bipush (v := 63) dJ6_bitCount_0f7a4_49 (by decide) ?_
  refine wx_iand dJ6_bitCount_0f7a4_51 ?_
  refine wx_iret dJ6_bitCount_0f7a4_52 hcu hsu ?_
  obtain rfl := Option.some.inj h
  exact g
noncomputable def f_J6_numberOfTrailingZeros_0f7a4_74 (x0 : Int32) (x1 : Int32) : Option (Int32) :=
  some (x1 + (((x0 : Int32).toUInt32 >>> ((1 : Int32).toUInt32 &&& Int32.toUInt32 31)).toInt32))
theorem s_J6_numberOfTrailingZeros_0f7a4_74 {x0 : Int32} {x1 : Int32} {M : px_M} {L : px_L} {R : px_R} {e : (Int32)} (hS : SR sh R) (hd : 0 ≤ d) (hcu : cu ≤ mc) (hsu : su ≤ ms) (h : f_J6_numberOfTrailingZeros_0f7a4_74 x0 x1 = some e) (g : Post (some (.int e)) sh M L R n) : WX RJ6 cJ6_numberOfTrailingZeros_0f7a4 2 (some .int) ("numberOfTrailingZeros", []) d mc ms X (px_QF Post mc ms) 74 [(0, .int x0), (1, .int x1)] [] sh M L R n cu su := by
  unfold f_J6_numberOfTrailingZeros_0f7a4_74 at h
  refine wx_iload_n dJ6_numberOfTrailingZeros_0f7a4_74 rfl ?_
  refine wx_iload_n dJ6_numberOfTrailingZeros_0f7a4_75 rfl ?_
  refine wx_iconst (v := 1) dJ6_numberOfTrailingZeros_0f7a4_76 (by decide) ?_
  refine wx_iushr dJ6_numberOfTrailingZeros_0f7a4_77 ?_
  refine wx_iadd dJ6_numberOfTrailingZeros_0f7a4_78 ?_
  refine wx_iret dJ6_numberOfTrailingZeros_0f7a4_79 hcu hsu ?_
  obtain rfl := Option.some.inj h
  exact g
noncomputable def f_J6_numberOfTrailingZeros_0f7a4_62 (x0 : Int32) (x1 : Int32) : Option (Int32) :=
  if x0 ≤ 4 then
    f_J6_numberOfTrailingZeros_0f7a4_74 x0 x1
  else
    nm (((x0 : Int32).toUInt32 >>> ((2 : Int32).toUInt32 &&& Int32.toUInt32 31)).toInt32) fun v_73 =>
    f_J6_numberOfTrailingZeros_0f7a4_74 v_73 (x1 + 2)
theorem s_J6_numberOfTrailingZeros_0f7a4_62 {x0 : Int32} {x1 : Int32} {M : px_M} {L : px_L} {R : px_R} {e : (Int32)} (hS : SR sh R) (hd : 0 ≤ d) (hcu : cu ≤ mc) (hsu : su ≤ ms) (h : f_J6_numberOfTrailingZeros_0f7a4_62 x0 x1 = some e) (g : Post (some (.int e)) sh M L R n) : WX RJ6 cJ6_numberOfTrailingZeros_0f7a4 2 (some .int) ("numberOfTrailingZeros", []) d mc ms X (px_QF Post mc ms) 62 [(0, .int x0), (1, .int x1)] [] sh M L R n cu su := by
  unfold f_J6_numberOfTrailingZeros_0f7a4_62 at h
  refine wx_iload_n dJ6_numberOfTrailingZeros_0f7a4_62 rfl ?_
  refine wx_iconst (v := 4) dJ6_numberOfTrailingZeros_0f7a4_63 (by decide) ?_
  refine wx_icmp_le (tgt := 74) dJ6_numberOfTrailingZeros_0f7a4_64 (by decide) (fun c_64 => ?_) (fun c_64 => ?_)
  · replace h := it_t h c_64
    exact wx_sub (s_J6_numberOfTrailingZeros_0f7a4_74 hS hd hcu hsu h g) (px_s rfl (px_s rfl px_0))
  · replace h := it_f h c_64
    refine wx_iinc (lv' := [(1, _), (0, _)]) dJ6_numberOfTrailingZeros_0f7a4_67 rfl (i_2 _) (by decide) rfl ?_
    refine wx_iload_n dJ6_numberOfTrailingZeros_0f7a4_70 rfl ?_
    refine wx_iconst (v := 2) dJ6_numberOfTrailingZeros_0f7a4_71 (by decide) ?_
    refine wx_iushr dJ6_numberOfTrailingZeros_0f7a4_72 ?_
    refine wx_nami (fun v_73 q_73 => ?_)
    replace h := nm_at h q_73
    refine wx_istore_n (lv' := [(0, _), (1, _)]) dJ6_numberOfTrailingZeros_0f7a4_73 (by decide) rfl ?_
    exact wx_sub (s_J6_numberOfTrailingZeros_0f7a4_74 hS hd hcu hsu h g) (px_s rfl (px_s rfl px_0))
noncomputable def f_J6_numberOfTrailingZeros_0f7a4_49 (x0 : Int32) (x1 : Int32) : Option (Int32) :=
  if x0 ≤ 16 then
    f_J6_numberOfTrailingZeros_0f7a4_62 x0 x1
  else
    nm (((x0 : Int32).toUInt32 >>> ((4 : Int32).toUInt32 &&& Int32.toUInt32 31)).toInt32) fun v_61 =>
    f_J6_numberOfTrailingZeros_0f7a4_62 v_61 (x1 + 4)
theorem s_J6_numberOfTrailingZeros_0f7a4_49 {x0 : Int32} {x1 : Int32} {M : px_M} {L : px_L} {R : px_R} {e : (Int32)} (hS : SR sh R) (hd : 0 ≤ d) (hcu : cu ≤ mc) (hsu : su ≤ ms) (h : f_J6_numberOfTrailingZeros_0f7a4_49 x0 x1 = some e) (g : Post (some (.int e)) sh M L R n) : WX RJ6 cJ6_numberOfTrailingZeros_0f7a4 2 (some .int) ("numberOfTrailingZeros", []) d mc ms X (px_QF Post mc ms) 49 [(0, .int x0), (1, .int x1)] [] sh M L R n cu su := by
  unfold f_J6_numberOfTrailingZeros_0f7a4_49 at h
  refine wx_iload_n dJ6_numberOfTrailingZeros_0f7a4_49 rfl ?_
  refine wx_bipush (v := 16) dJ6_numberOfTrailingZeros_0f7a4_50 (by decide) ?_
  refine wx_icmp_le (tgt := 62) dJ6_numberOfTrailingZeros_0f7a4_52 (by decide) (fun c_52 => ?_) (fun c_52 => ?_)
  · replace h := it_t h c_52
    exact wx_sub (s_J6_numberOfTrailingZeros_0f7a4_62 hS hd hcu hsu h g) (px_s rfl (px_s rfl px_0))
  · replace h := it_f h c_52
    refine wx_iinc (lv' := [(1, _), (0, _)]) dJ6_numberOfTrailingZeros_0f7a4_55 rfl (i_4 _) (by decide) rfl ?_
    refine wx_iload_n dJ6_numberOfTrailingZeros_0f7a4_58 rfl ?_
    refine wx_iconst (v := 4) dJ6_numberOfTrailingZeros_0f7a4_59 (by decide) ?_
    refine wx_iushr dJ6_numberOfTrailingZeros_0f7a4_60 ?_
    refine wx_nami (fun v_61 q_61 => ?_)
    replace h := nm_at h q_61
    refine wx_istore_n (lv' := [(0, _), (1, _)]) dJ6_numberOfTrailingZeros_0f7a4_61 (by decide) rfl ?_
    exact wx_sub (s_J6_numberOfTrailingZeros_0f7a4_62 hS hd hcu hsu h g) (px_s rfl (px_s rfl px_0))
noncomputable def f_J6_numberOfTrailingZeros_0f7a4_34 (x0 : Int32) (x1 : Int32) : Option (Int32) :=
  if x0 ≤ 256 then
    f_J6_numberOfTrailingZeros_0f7a4_49 x0 x1
  else
    nm (((x0 : Int32).toUInt32 >>> ((8 : Int32).toUInt32 &&& Int32.toUInt32 31)).toInt32) fun v_48 =>
    f_J6_numberOfTrailingZeros_0f7a4_49 v_48 (x1 + 8)
theorem s_J6_numberOfTrailingZeros_0f7a4_34 {x0 : Int32} {x1 : Int32} {M : px_M} {L : px_L} {R : px_R} {e : (Int32)} (hS : SR sh R) (hd : 0 ≤ d) (hcu : cu ≤ mc) (hsu : su ≤ ms) (h : f_J6_numberOfTrailingZeros_0f7a4_34 x0 x1 = some e) (g : Post (some (.int e)) sh M L R n) : WX RJ6 cJ6_numberOfTrailingZeros_0f7a4 2 (some .int) ("numberOfTrailingZeros", []) d mc ms X (px_QF Post mc ms) 34 [(0, .int x0), (1, .int x1)] [] sh M L R n cu su := by
  unfold f_J6_numberOfTrailingZeros_0f7a4_34 at h
  refine wx_iload_n dJ6_numberOfTrailingZeros_0f7a4_34 rfl ?_
  refine wx_sipush (v := 256) dJ6_numberOfTrailingZeros_0f7a4_35 (by decide) ?_
  refine wx_icmp_le (tgt := 49) dJ6_numberOfTrailingZeros_0f7a4_38 (by decide) (fun c_38 => ?_) (fun c_38 => ?_)
  · replace h := it_t h c_38
    exact wx_sub (s_J6_numberOfTrailingZeros_0f7a4_49 hS hd hcu hsu h g) (px_s rfl (px_s rfl px_0))
  · replace h := it_f h c_38
    refine wx_iinc (lv' := [(1, _), (0, _)]) dJ6_numberOfTrailingZeros_0f7a4_41 rfl (i_8 _) (by decide) rfl ?_
    refine wx_iload_n dJ6_numberOfTrailingZeros_0f7a4_44 rfl ?_
    refine wx_bipush (v := 8) dJ6_numberOfTrailingZeros_0f7a4_45 (by decide) ?_
    refine wx_iushr dJ6_numberOfTrailingZeros_0f7a4_47 ?_
    refine wx_nami (fun v_48 q_48 => ?_)
    replace h := nm_at h q_48
    refine wx_istore_n (lv' := [(0, _), (1, _)]) dJ6_numberOfTrailingZeros_0f7a4_48 (by decide) rfl ?_
    exact wx_sub (s_J6_numberOfTrailingZeros_0f7a4_49 hS hd hcu hsu h g) (px_s rfl (px_s rfl px_0))
noncomputable def f_J6_numberOfTrailingZeros_0f7a4 (p0 : Int32) : Option (Int32) :=
  nm ((p0 ^^^ (-1)) &&& (p0 - 1)) fun v_7 =>
  if 0 < v_7 then
    if v_7 ≤ 65536 then
      f_J6_numberOfTrailingZeros_0f7a4_34 v_7 1
    else
      nm (((v_7 : Int32).toUInt32 >>> ((16 : Int32).toUInt32 &&& Int32.toUInt32 31)).toInt32) fun v_33 =>
      f_J6_numberOfTrailingZeros_0f7a4_34 v_33 (1 + 16)
  else
    some (v_7 &&& 32)
theorem s_J6_numberOfTrailingZeros_0f7a4 {d : Nat} {X : Nat × (Nat → Int32)} {sh : px_Sh} {M : px_M} {L : px_L} {R : px_R} {n : Nat} {p0 : Int32} {e : Int32} (hS : SR sh R) (hd : 0 ≤ d) (h : f_J6_numberOfTrailingZeros_0f7a4 p0 = some e) : MX yJ6_numberOfTrailingZeros_0f7a4 cJ6_numberOfTrailingZeros_0f7a4 2 (some .int) d 0 0 X [.int p0] sh M L R n (px_pu (some (.int e)) sh M L R n) := by
  refine MX.of (by decide +kernel) (by exact Nat.le_of_ble_eq_true rfl) ?_
  have hcu : 0 ≤ 0 := Nat.zero_le _
  have hsu : 0 ≤ 0 := Nat.zero_le _
  have g : px_pu (some (.int e)) sh M L R n (some (.int e)) sh M L R n := ⟨rfl, rfl, rfl, rfl, rfl, rfl⟩
  unfold f_J6_numberOfTrailingZeros_0f7a4 at h
  refine wx_iload_n dJ6_numberOfTrailingZeros_0f7a4_0 rfl ?_
  refine wx_iconst (v := (-1)) dJ6_numberOfTrailingZeros_0f7a4_1 (by decide) ?_
  refine wx_ixor dJ6_numberOfTrailingZeros_0f7a4_2 ?_
  refine wx_iload_n dJ6_numberOfTrailingZeros_0f7a4_3 rfl ?_
  refine wx_iconst (v := 1) dJ6_numberOfTrailingZeros_0f7a4_4 (by decide) ?_
  refine wx_isub dJ6_numberOfTrailingZeros_0f7a4_5 ?_
  refine wx_iand dJ6_numberOfTrailingZeros_0f7a4_6 ?_
  refine wx_nami (fun v_7 q_7 => ?_)
  replace h := nm_at h q_7
  refine wx_istore_n (lv' := [(0, _)]) dJ6_numberOfTrailingZeros_0f7a4_7 (by decide) rfl ?_
  refine wx_iload_n dJ6_numberOfTrailingZeros_0f7a4_8 rfl ?_
  refine wx_if_gt (tgt := 17) dJ6_numberOfTrailingZeros_0f7a4_9 (by decide) (fun c_9 => ?_) (fun c_9 => ?_)
  · replace h := it_t h c_9
    refine wx_iconst (v := 1) dJ6_numberOfTrailingZeros_0f7a4_17 (by decide) ?_
    refine wx_istore_n (lv' := [(1, _), (0, _)]) dJ6_numberOfTrailingZeros_0f7a4_18 (by decide) rfl ?_
    refine wx_iload_n dJ6_numberOfTrailingZeros_0f7a4_19 rfl ?_
    refine wx_ldcw dJ6_numberOfTrailingZeros_0f7a4_20 ki_J6_264 ?_
    refine wx_icmp_le (tgt := 34) dJ6_numberOfTrailingZeros_0f7a4_23 (by decide) (fun c_23 => ?_) (fun c_23 => ?_)
    · replace h := it_t h c_23
      exact wx_sub (s_J6_numberOfTrailingZeros_0f7a4_34 hS hd hcu hsu h g) (px_s rfl (px_s rfl px_0))
    · replace h := it_f h c_23
      refine wx_iinc (lv' := [(1, _), (0, _)]) dJ6_numberOfTrailingZeros_0f7a4_26 rfl (i_16 _) (by decide) rfl ?_
      refine wx_iload_n dJ6_numberOfTrailingZeros_0f7a4_29 rfl ?_
      refine wx_bipush (v := 16) dJ6_numberOfTrailingZeros_0f7a4_30 (by decide) ?_
      refine wx_iushr dJ6_numberOfTrailingZeros_0f7a4_32 ?_
      refine wx_nami (fun v_33 q_33 => ?_)
      replace h := nm_at h q_33
      refine wx_istore_n (lv' := [(0, _), (1, _)]) dJ6_numberOfTrailingZeros_0f7a4_33 (by decide) rfl ?_
      exact wx_sub (s_J6_numberOfTrailingZeros_0f7a4_34 hS hd hcu hsu h g) (px_s rfl (px_s rfl px_0))
  · replace h := it_f h c_9
    refine wx_iload_n dJ6_numberOfTrailingZeros_0f7a4_12 rfl ?_
    refine wx_bipush (v := 32) dJ6_numberOfTrailingZeros_0f7a4_13 (by decide) ?_
    refine wx_iand dJ6_numberOfTrailingZeros_0f7a4_15 ?_
    refine wx_iret dJ6_numberOfTrailingZeros_0f7a4_16 hcu hsu ?_
    obtain rfl := Option.some.inj h
    exact g
noncomputable def f_X11_within_15 (z0 : Int32) : Option (Int32) :=
  ok (zb z0) <|
  some z0
theorem s_X11_within_15 {z0 : Int32} {M : px_M} {L : px_L} {R : px_R} {e : (Int32)} (hS : SR sh R) (hd : 0 ≤ d) (hcu : cu ≤ mc) (hsu : su ≤ ms) (h : f_X11_within_15 z0 = some e) (g : Post (some (.int e)) sh M L R n) : WX RX11 cX11_within 3 (some .boolean) ("within", []) d mc ms X (px_QF Post mc ms) 15 [] [.int z0] sh M L R n cu su := by
  unfold f_X11_within_15 at h
  obtain ⟨w_15, h⟩ := ok_some h
  refine wx_zret dX11_within_15 (zb_n w_15) hcu hsu ?_
  obtain rfl := Option.some.inj h
  exact g
noncomputable def f_X11_within_14 : Option (Int32) :=
  f_X11_within_15 0
theorem s_X11_within_14 {M : px_M} {L : px_L} {R : px_R} {e : (Int32)} (hS : SR sh R) (hd : 0 ≤ d) (hcu : cu ≤ mc) (hsu : su ≤ ms) (h : f_X11_within_14 = some e) (g : Post (some (.int e)) sh M L R n) : WX RX11 cX11_within 3 (some .boolean) ("within", []) d mc ms X (px_QF Post mc ms) 14 [] [] sh M L R n cu su := by
  unfold f_X11_within_14 at h
  refine wx_iconst (v := 0) dX11_within_14 (by decide) ?_
  exact wx_sub (s_X11_within_15 hS hd hcu hsu h g) px_0
noncomputable def f_X11_within (p0 : Int32) (p1 : Int32) (p2 : Int32) : Option (Int32) :=
  if p0 < p1 then
    f_X11_within_14
  else
    if p2 < p0 then
      f_X11_within_14
    else
      f_X11_within_15 1
theorem s_X11_within {d : Nat} {X : Nat × (Nat → Int32)} {sh : px_Sh} {M : px_M} {L : px_L} {R : px_R} {n : Nat} {p0 : Int32} {p1 : Int32} {p2 : Int32} {e : Int32} (hS : SR sh R) (hd : 0 ≤ d) (h : f_X11_within p0 p1 p2 = some e) : MX yX11_within cX11_within 3 (some .boolean) d 0 0 X [.int p0, .int p1, .int p2] sh M L R n (px_pu (some (.int e)) sh M L R n) := by
  refine MX.of (by decide +kernel) (by exact Nat.le_of_ble_eq_true rfl) ?_
  have hcu : 0 ≤ 0 := Nat.zero_le _
  have hsu : 0 ≤ 0 := Nat.zero_le _
  have g : px_pu (some (.int e)) sh M L R n (some (.int e)) sh M L R n := ⟨rfl, rfl, rfl, rfl, rfl, rfl⟩
  unfold f_X11_within at h
  refine wx_iload_n dX11_within_0 rfl ?_
  refine wx_iload_n dX11_within_1 rfl ?_
  refine wx_icmp_lt (tgt := 14) dX11_within_2 (by decide) (fun c_2 => ?_) (fun c_2 => ?_)
  · replace h := it_t h c_2
    exact wx_sub (s_X11_within_14 hS hd hcu hsu h g) px_0
  · replace h := it_f h c_2
    refine wx_iload_n dX11_within_5 rfl ?_
    refine wx_iload_n dX11_within_6 rfl ?_
    refine wx_icmp_gt (tgt := 14) dX11_within_7 (by decide) (fun c_7 => ?_) (fun c_7 => ?_)
    · replace h := it_t h c_7
      exact wx_sub (s_X11_within_14 hS hd hcu hsu h g) px_0
    · replace h := it_f h c_7
      refine wx_iconst (v := 1) dX11_within_10 (by decide) ?_
      refine wx_goto (tgt := 15) dX11_within_11 (by decide) ?_
      exact wx_sub (s_X11_within_15 hS hd hcu hsu h g) px_0
noncomputable def f_X11_stepsAt_19 (z0 : Int32) : Option (Int32) :=
  some z0
theorem s_X11_stepsAt_19 {z0 : Int32} {M : px_M} {L : px_L} {R : px_R} {e : (Int32)} (hS : SR sh R) (hd : 0 ≤ d) (hcu : cu ≤ mc) (hsu : su ≤ ms) (h : f_X11_stepsAt_19 z0 = some e) (g : Post (some (.int e)) sh M L R n) : WX RX11 cX11_stepsAt 2 (some .int) ("stepsAt", []) d mc ms X (px_QF Post mc ms) 19 [] [.int z0] sh M L R n cu su := by
  unfold f_X11_stepsAt_19 at h
  refine wx_iret dX11_stepsAt_19 hcu hsu ?_
  obtain rfl := Option.some.inj h
  exact g
noncomputable def f_X11_stepsAt (p0 : Int32) (p1 : Int32) : Option (Int32) :=
  if 0 ≤ p0 then
    ok (nz (p0 + 32) 0) <|
    f_X11_stepsAt_19 (1 + ((p1 * 32) / (p0 + 32)))
  else
    f_X11_stepsAt_19 1
theorem s_X11_stepsAt {d : Nat} {X : Nat × (Nat → Int32)} {sh : px_Sh} {M : px_M} {L : px_L} {R : px_R} {n : Nat} {p0 : Int32} {p1 : Int32} {e : Int32} (hS : SR sh R) (hd : 0 ≤ d) (h : f_X11_stepsAt p0 p1 = some e) : MX yX11_stepsAt cX11_stepsAt 2 (some .int) d 0 0 X [.int p0, .int p1] sh M L R n (px_pu (some (.int e)) sh M L R n) := by
  refine MX.of (by decide +kernel) (by exact Nat.le_of_ble_eq_true rfl) ?_
  have hcu : 0 ≤ 0 := Nat.zero_le _
  have hsu : 0 ≤ 0 := Nat.zero_le _
  have g : px_pu (some (.int e)) sh M L R n (some (.int e)) sh M L R n := ⟨rfl, rfl, rfl, rfl, rfl, rfl⟩
  unfold f_X11_stepsAt at h
  refine wx_iload_n dX11_stepsAt_0 rfl ?_
  refine wx_if_ge (tgt := 8) dX11_stepsAt_1 (by decide) (fun c_1 => ?_) (fun c_1 => ?_)
  · replace h := it_t h c_1
    refine wx_iconst (v := 1) dX11_stepsAt_8 (by decide) ?_
    refine wx_iload_n dX11_stepsAt_9 rfl ?_
    refine wx_bipush (v := 32) dX11_stepsAt_10 (by decide) ?_
    refine wx_imul dX11_stepsAt_12 ?_
    refine wx_iload_n dX11_stepsAt_13 rfl ?_
    refine wx_bipush (v := 32) dX11_stepsAt_14 (by decide) ?_
    refine wx_iadd dX11_stepsAt_16 ?_
    obtain ⟨w_17, h⟩ := ok_some h
    refine wx_idiv dX11_stepsAt_17 (nz_n w_17) ?_
    refine wx_iadd dX11_stepsAt_18 ?_
    exact wx_sub (s_X11_stepsAt_19 hS hd hcu hsu h g) px_0
  · replace h := it_f h c_1
    refine wx_iconst (v := 1) dX11_stepsAt_4 (by decide) ?_
    refine wx_goto (tgt := 19) dX11_stepsAt_5 (by decide) ?_
    exact wx_sub (s_X11_stepsAt_19 hS hd hcu hsu h g) px_0
noncomputable def f_X11_isSpot_27 (z0 : Int32) : Option (Int32) :=
  ok (zb z0) <|
  some z0
theorem s_X11_isSpot_27 {z0 : Int32} {M : px_M} {L : px_L} {R : px_R} {e : (Int32)} (hS : SR sh R) (hd : 1 ≤ d) (hcu : cu ≤ mc) (hsu : su ≤ ms) (h : f_X11_isSpot_27 z0 = some e) (g : Post (some (.int e)) sh M L R n) : WX RX11 cX11_isSpot 2 (some .boolean) ("isSpot", []) d mc ms X (px_QF Post mc ms) 27 [] [.int z0] sh M L R n cu su := by
  unfold f_X11_isSpot_27 at h
  obtain ⟨w_27, h⟩ := ok_some h
  refine wx_zret dX11_isSpot_27 (zb_n w_27) hcu hsu ?_
  obtain rfl := Option.some.inj h
  exact g
noncomputable def f_X11_isSpot_26 : Option (Int32) :=
  f_X11_isSpot_27 0
theorem s_X11_isSpot_26 {M : px_M} {L : px_L} {R : px_R} {e : (Int32)} (hS : SR sh R) (hd : 1 ≤ d) (hcu : cu ≤ mc) (hsu : su ≤ ms) (h : f_X11_isSpot_26 = some e) (g : Post (some (.int e)) sh M L R n) : WX RX11 cX11_isSpot 2 (some .boolean) ("isSpot", []) d mc ms X (px_QF Post mc ms) 26 [] [] sh M L R n cu su := by
  unfold f_X11_isSpot_26 at h
  refine wx_iconst (v := 0) dX11_isSpot_26 (by decide) ?_
  exact wx_sub (s_X11_isSpot_27 hS hd hcu hsu h g) px_0
noncomputable def f_X11_isSpot (p0 : Int32) (p1 : Int32) : Option (Int32) :=
  bd1 (f_X11_within p0 (-20) 20) fun e_5 =>
  if e_5 = 0 then
    f_X11_isSpot_26
  else
    bd1 (f_X11_within p1 (-20) 20) fun e_16 =>
    if e_16 = 0 then
      f_X11_isSpot_26
    else
      f_X11_isSpot_27 1
theorem s_X11_isSpot {d : Nat} {X : Nat × (Nat → Int32)} {sh : px_Sh} {M : px_M} {L : px_L} {R : px_R} {n : Nat} {p0 : Int32} {p1 : Int32} {e : Int32} (hS : SR sh R) (hd : 1 ≤ d) (h : f_X11_isSpot p0 p1 = some e) : MX yX11_isSpot cX11_isSpot 2 (some .boolean) d 0 0 X [.int p0, .int p1] sh M L R n (px_pu (some (.int e)) sh M L R n) := by
  refine MX.of (by decide +kernel) (by exact Nat.le_of_ble_eq_true rfl) ?_
  have hcu : 0 ≤ 0 := Nat.zero_le _
  have hsu : 0 ≤ 0 := Nat.zero_le _
  have g : px_pu (some (.int e)) sh M L R n (some (.int e)) sh M L R n := ⟨rfl, rfl, rfl, rfl, rfl, rfl⟩
  unfold f_X11_isSpot at h
  refine wx_iload_n dX11_isSpot_0 rfl ?_
  refine wx_bipush (v := (-20)) dX11_isSpot_1 (by decide) ?_
  refine wx_bipush (v := 20) dX11_isSpot_3 (by decide) ?_
  obtain ⟨e_5, k_5, h⟩ := bd1_some h
  refine wx_cSi dX11_isSpot_5 ml_X11_65 my_X11_within sv_X11_within (s_X11_within (d := d - 1) hS (by omega) k_5) rfl (by omega) (by exact Nat.le_of_ble_eq_true rfl) hcu hsu ?_
  refine wx_if_eq (tgt := 26) dX11_isSpot_8 (by decide) (fun c_8 => ?_) (fun c_8 => ?_)
  · replace h := it_t h c_8
    exact wx_sub (s_X11_isSpot_26 hS hd hcu hsu h g) px_0
  · replace h := it_f h c_8
    refine wx_iload_n dX11_isSpot_11 rfl ?_
    refine wx_bipush (v := (-20)) dX11_isSpot_12 (by decide) ?_
    refine wx_bipush (v := 20) dX11_isSpot_14 (by decide) ?_
    obtain ⟨e_16, k_16, h⟩ := bd1_some h
    refine wx_cSi dX11_isSpot_16 ml_X11_65 my_X11_within sv_X11_within (s_X11_within (d := d - 1) hS (by omega) k_16) rfl (by omega) (by exact Nat.le_of_ble_eq_true rfl) hcu hsu ?_
    refine wx_if_eq (tgt := 26) dX11_isSpot_19 (by decide) (fun c_19 => ?_) (fun c_19 => ?_)
    · replace h := it_t h c_19
      exact wx_sub (s_X11_isSpot_26 hS hd hcu hsu h g) px_0
    · replace h := it_f h c_19
      refine wx_iconst (v := 1) dX11_isSpot_22 (by decide) ?_
      refine wx_goto (tgt := 27) dX11_isSpot_23 (by decide) ?_
      exact wx_sub (s_X11_isSpot_27 hS hd hcu hsu h g) px_0
noncomputable def f_X11_isCoat_33 (z0 : Int32) : Option (Int32) :=
  ok (zb z0) <|
  some z0
theorem s_X11_isCoat_33 {z0 : Int32} {M : px_M} {L : px_L} {R : px_R} {e : (Int32)} (hS : SR sh R) (hd : 1 ≤ d) (hcu : cu ≤ mc) (hsu : su ≤ ms) (h : f_X11_isCoat_33 z0 = some e) (g : Post (some (.int e)) sh M L R n) : WX RX11 cX11_isCoat 2 (some .boolean) ("isCoat", []) d mc ms X (px_QF Post mc ms) 33 [] [.int z0] sh M L R n cu su := by
  unfold f_X11_isCoat_33 at h
  obtain ⟨w_33, h⟩ := ok_some h
  refine wx_zret dX11_isCoat_33 (zb_n w_33) hcu hsu ?_
  obtain rfl := Option.some.inj h
  exact g
noncomputable def f_X11_isCoat_32 : Option (Int32) :=
  f_X11_isCoat_33 0
theorem s_X11_isCoat_32 {M : px_M} {L : px_L} {R : px_R} {e : (Int32)} (hS : SR sh R) (hd : 1 ≤ d) (hcu : cu ≤ mc) (hsu : su ≤ ms) (h : f_X11_isCoat_32 = some e) (g : Post (some (.int e)) sh M L R n) : WX RX11 cX11_isCoat 2 (some .boolean) ("isCoat", []) d mc ms X (px_QF Post mc ms) 32 [] [] sh M L R n cu su := by
  unfold f_X11_isCoat_32 at h
  refine wx_iconst (v := 0) dX11_isCoat_32 (by decide) ?_
  exact wx_sub (s_X11_isCoat_33 hS hd hcu hsu h g) px_0
noncomputable def f_X11_isCoat (p0 : Int32) (p1 : Int32) : Option (Int32) :=
  bd1 (f_X11_within p0 0 100) fun e_4 =>
  if e_4 = 0 then
    f_X11_isCoat_32
  else
    bd1 (f_X11_within p1 0 100) fun e_14 =>
    if e_14 = 0 then
      f_X11_isCoat_32
    else
      if 100 < (p0 + p1) then
        f_X11_isCoat_32
      else
        f_X11_isCoat_33 1
theorem s_X11_isCoat {d : Nat} {X : Nat × (Nat → Int32)} {sh : px_Sh} {M : px_M} {L : px_L} {R : px_R} {n : Nat} {p0 : Int32} {p1 : Int32} {e : Int32} (hS : SR sh R) (hd : 1 ≤ d) (h : f_X11_isCoat p0 p1 = some e) : MX yX11_isCoat cX11_isCoat 2 (some .boolean) d 0 0 X [.int p0, .int p1] sh M L R n (px_pu (some (.int e)) sh M L R n) := by
  refine MX.of (by decide +kernel) (by exact Nat.le_of_ble_eq_true rfl) ?_
  have hcu : 0 ≤ 0 := Nat.zero_le _
  have hsu : 0 ≤ 0 := Nat.zero_le _
  have g : px_pu (some (.int e)) sh M L R n (some (.int e)) sh M L R n := ⟨rfl, rfl, rfl, rfl, rfl, rfl⟩
  unfold f_X11_isCoat at h
  refine wx_iload_n dX11_isCoat_0 rfl ?_
  refine wx_iconst (v := 0) dX11_isCoat_1 (by decide) ?_
  refine wx_bipush (v := 100) dX11_isCoat_2 (by decide) ?_
  obtain ⟨e_4, k_4, h⟩ := bd1_some h
  refine wx_cSi dX11_isCoat_4 ml_X11_65 my_X11_within sv_X11_within (s_X11_within (d := d - 1) hS (by omega) k_4) rfl (by omega) (by exact Nat.le_of_ble_eq_true rfl) hcu hsu ?_
  refine wx_if_eq (tgt := 32) dX11_isCoat_7 (by decide) (fun c_7 => ?_) (fun c_7 => ?_)
  · replace h := it_t h c_7
    exact wx_sub (s_X11_isCoat_32 hS hd hcu hsu h g) px_0
  · replace h := it_f h c_7
    refine wx_iload_n dX11_isCoat_10 rfl ?_
    refine wx_iconst (v := 0) dX11_isCoat_11 (by decide) ?_
    refine wx_bipush (v := 100) dX11_isCoat_12 (by decide) ?_
    obtain ⟨e_14, k_14, h⟩ := bd1_some h
    refine wx_cSi dX11_isCoat_14 ml_X11_65 my_X11_within sv_X11_within (s_X11_within (d := d - 1) hS (by omega) k_14) rfl (by omega) (by exact Nat.le_of_ble_eq_true rfl) hcu hsu ?_
    refine wx_if_eq (tgt := 32) dX11_isCoat_17 (by decide) (fun c_17 => ?_) (fun c_17 => ?_)
    · replace h := it_t h c_17
      exact wx_sub (s_X11_isCoat_32 hS hd hcu hsu h g) px_0
    · replace h := it_f h c_17
      refine wx_iload_n dX11_isCoat_20 rfl ?_
      refine wx_iload_n dX11_isCoat_21 rfl ?_
      refine wx_iadd dX11_isCoat_22 ?_
      refine wx_bipush (v := 100) dX11_isCoat_23 (by decide) ?_
      refine wx_icmp_gt (tgt := 32) dX11_isCoat_25 (by decide) (fun c_25 => ?_) (fun c_25 => ?_)
      · replace h := it_t h c_25
        exact wx_sub (s_X11_isCoat_32 hS hd hcu hsu h g) px_0
      · replace h := it_f h c_25
        refine wx_iconst (v := 1) dX11_isCoat_28 (by decide) ?_
        refine wx_goto (tgt := 33) dX11_isCoat_29 (by decide) ?_
        exact wx_sub (s_X11_isCoat_33 hS hd hcu hsu h g) px_0
noncomputable def f_X11_isSlant (p0 : Int32) : Option (Int32) :=
  bd1 (f_X11_within p0 (-8) 8) fun e_5 =>
  ok (zb e_5) <|
  some e_5
theorem s_X11_isSlant {d : Nat} {X : Nat × (Nat → Int32)} {sh : px_Sh} {M : px_M} {L : px_L} {R : px_R} {n : Nat} {p0 : Int32} {e : Int32} (hS : SR sh R) (hd : 1 ≤ d) (h : f_X11_isSlant p0 = some e) : MX yX11_isSlant cX11_isSlant 1 (some .boolean) d 0 0 X [.int p0] sh M L R n (px_pu (some (.int e)) sh M L R n) := by
  refine MX.of (by decide +kernel) (by exact Nat.le_of_ble_eq_true rfl) ?_
  have hcu : 0 ≤ 0 := Nat.zero_le _
  have hsu : 0 ≤ 0 := Nat.zero_le _
  have g : px_pu (some (.int e)) sh M L R n (some (.int e)) sh M L R n := ⟨rfl, rfl, rfl, rfl, rfl, rfl⟩
  unfold f_X11_isSlant at h
  refine wx_iload_n dX11_isSlant_0 rfl ?_
  refine wx_bipush (v := (-8)) dX11_isSlant_1 (by decide) ?_
  refine wx_bipush (v := 8) dX11_isSlant_3 (by decide) ?_
  obtain ⟨e_5, k_5, h⟩ := bd1_some h
  refine wx_cSi dX11_isSlant_5 ml_X11_65 my_X11_within sv_X11_within (s_X11_within (d := d - 1) hS (by omega) k_5) rfl (by omega) (by exact Nat.le_of_ble_eq_true rfl) hcu hsu ?_
  obtain ⟨w_8, h⟩ := ok_some h
  refine wx_zret dX11_isSlant_8 (zb_n w_8) hcu hsu ?_
  obtain rfl := Option.some.inj h
  exact g
noncomputable def f_X11_nextRow_5 (sh : px_Sh) (M : px_M) (a0 : Nat) (a1 : Nat) (a2 : Nat) (x4 : Int32) : Option ((Int32 × px_M) ⊕ ((Int32 × px_M) ⊕ (px_M))) :=
  if x4 < 0 then
    some (.inr (.inr M))
  else
    ok (xk sh a0 13 x4) <|
    ok (xk sh a2 13 x4) <|
    if (M a2 x4.toNatClampNeg) ≤ (M a0 x4.toNatClampNeg) then
      ok (xk sh a1 13 x4) <|
      nm (M a1 x4.toNatClampNeg) fun v_38 =>
      ok (xk sh a0 13 x4) <|
      nm (px_u M a0 x4.toNatClampNeg v_38) fun M_38 =>
      some (.inl ((x4 + -1), M_38))
    else
      some (.inr (.inl (x4, M)))
theorem s_X11_nextRow_5b {a0 : Nat} {a1 : Nat} {a2 : Nat} {x4 : Int32} {M : px_M} {L : px_L} {R : px_R} {e : ((Int32 × px_M) ⊕ ((Int32 × px_M) ⊕ (px_M)))} (hS : SR sh R) (hd : 0 ≤ d) (hcu : cu ≤ mc) (hsu : su ≤ ms) (h : f_X11_nextRow_5 sh M a0 a1 a2 x4 = some e) (g : (sE (fun a => WX RX11 cX11_nextRow 5 (some .boolean) ("nextRow", []) d mc ms X (px_QF Post mc ms) 5 [(0, .ref a0), (1, .ref a1), (2, .ref a2), (4, .int a.1)] [] sh (a.2) L R n cu su) (sE (fun t => WX RX11 cX11_nextRow 5 (some .boolean) ("nextRow", []) d mc ms X (px_QF Post mc ms) 21 [(0, .ref a0), (4, .int t.1)] [] sh (t.2) L R n cu su) (fun t => WX RX11 cX11_nextRow 5 (some .boolean) ("nextRow", []) d mc ms X (px_QF Post mc ms) 45 [] [] sh t L R n cu su))) e) : WX RX11 cX11_nextRow 5 (some .boolean) ("nextRow", []) d mc ms X (px_QF Post mc ms) 5 [(0, .ref a0), (1, .ref a1), (2, .ref a2), (4, .int x4)] [] sh M L R n cu su := by
  unfold f_X11_nextRow_5 at h
  refine wx_iload dX11_nextRow_5 rfl ?_
  refine wx_if_lt (tgt := 45) dX11_nextRow_7 (by decide) (fun c_7 => ?_) (fun c_7 => ?_)
  · replace h := it_t h c_7
    obtain rfl := Option.some.inj h
    replace g := sE_r (sE_r g)
    exact wx_sub g px_0
  · replace h := it_f h c_7
    refine wx_aload_n dX11_nextRow_10 rfl ?_
    refine wx_iload dX11_nextRow_11 rfl ?_
    obtain ⟨w_13, h⟩ := ok_some h
    obtain ⟨ln_13, wt_13, wi_13⟩ := xk_some w_13
    refine wx_iald dX11_nextRow_13 wt_13 wi_13 ?_
    refine wx_aload_n dX11_nextRow_14 rfl ?_
    refine wx_iload dX11_nextRow_15 rfl ?_
    obtain ⟨w_17, h⟩ := ok_some h
    obtain ⟨ln_17, wt_17, wi_17⟩ := xk_some w_17
    refine wx_iald dX11_nextRow_17 wt_17 wi_17 ?_
    refine wx_icmp_ge (tgt := 31) dX11_nextRow_18 (by decide) (fun c_18 => ?_) (fun c_18 => ?_)
    · replace h := it_t h c_18
      refine wx_aload_n dX11_nextRow_31 rfl ?_
      refine wx_iload dX11_nextRow_32 rfl ?_
      refine wx_aload_n dX11_nextRow_34 rfl ?_
      refine wx_iload dX11_nextRow_35 rfl ?_
      obtain ⟨w_37, h⟩ := ok_some h
      obtain ⟨ln_37, wt_37, wi_37⟩ := xk_some w_37
      refine wx_iald dX11_nextRow_37 wt_37 wi_37 ?_
      refine wx_nami (fun v_38 q_38 => ?_)
      replace h := nm_at h q_38
      obtain ⟨w_38, h⟩ := ok_some h
      obtain ⟨ln_38, wt_38, wi_38⟩ := xk_some w_38
      refine wx_iast dX11_nextRow_38 wt_38 wi_38 ?_
      refine wx_namM (fun M_38 q_38 => ?_)
      replace h := nm_at h q_38
      refine wx_iinc (lv' := [(4, _), (0, _), (1, _), (2, _)]) dX11_nextRow_39 rfl (i_m1 _) (by decide) rfl ?_
      refine wx_goto (tgt := 5) dX11_nextRow_42 (by decide) ?_
      obtain rfl := Option.some.inj h
      replace g := sE_l g
      exact wx_sub g (px_s rfl (px_s rfl (px_s rfl (px_s rfl px_0))))
    · replace h := it_f h c_18
      obtain rfl := Option.some.inj h
      replace g := sE_l (sE_r g)
      exact wx_sub g (px_s rfl (px_s rfl px_0))
theorem s_X11_nextRow_5 {a0 : Nat} {a1 : Nat} {a2 : Nat} {x4 : Int32} {M : px_M} {L : px_L} {R : px_R} {e : ((Int32 × px_M) ⊕ (px_M))} (hS : SR sh R) (hd : 0 ≤ d) (hcu : cu ≤ mc) (hsu : su ≤ ms) (h : lpf (fun a : Int32 × px_M => f_X11_nextRow_5 sh a.2 a0 a1 a2 a.1) (x4, M) = some e) (g : (sE (fun t => WX RX11 cX11_nextRow 5 (some .boolean) ("nextRow", []) d mc ms X (px_QF Post mc ms) 21 [(0, .ref a0), (4, .int t.1)] [] sh (t.2) L R n cu su) (fun t => WX RX11 cX11_nextRow 5 (some .boolean) ("nextRow", []) d mc ms X (px_QF Post mc ms) 45 [] [] sh t L R n cu su)) e) : WX RX11 cX11_nextRow 5 (some .boolean) ("nextRow", []) d mc ms X (px_QF Post mc ms) 5 [(0, .ref a0), (1, .ref a1), (2, .ref a2), (4, .int x4)] [] sh M L R n cu su := by
  have key := lpf_wp (P := (fun a => WX RX11 cX11_nextRow 5 (some .boolean) ("nextRow", []) d mc ms X (px_QF Post mc ms) 5 [(0, .ref a0), (1, .ref a1), (2, .ref a2), (4, .int a.1)] [] sh (a.2) L R n cu su)) (G := (sE (fun t => WX RX11 cX11_nextRow 5 (some .boolean) ("nextRow", []) d mc ms X (px_QF Post mc ms) 21 [(0, .ref a0), (4, .int t.1)] [] sh (t.2) L R n cu su) (fun t => WX RX11 cX11_nextRow 5 (some .boolean) ("nextRow", []) d mc ms X (px_QF Post mc ms) 45 [] [] sh t L R n cu su))) (fun a r h g => s_X11_nextRow_5b (a0 := a0) (a1 := a1) (a2 := a2) (x4 := a.1) (M := a.2) (L := L) (R := R) hS hd hcu hsu h g) (a := (x4, M)) h g
  exact key
noncomputable def f_X11_nextRow (sh : px_Sh) (M : px_M) (a0 : Nat) (a1 : Nat) (a2 : Nat) (p3 : Int32) : Option (Int32 × px_M) :=
  nm (p3 - 1) fun v_3 =>
  bdS (lpf (fun a : Int32 × px_M => f_X11_nextRow_5 sh a.2 a0 a1 a2 a.1) (v_3, M)) (fun t_5_0 =>
  ok (xk sh a0 13 t_5_0.1) <|
    nm ((t_5_0.2 a0 t_5_0.1.toNatClampNeg) + 1) fun v_28 =>
    ok (xk sh a0 13 t_5_0.1) <|
    nm (px_u t_5_0.2 a0 t_5_0.1.toNatClampNeg v_28) fun M_28 =>
    some (1, M_28)) (fun u_5_0 =>
  some (0, u_5_0))
theorem s_X11_nextRow {d : Nat} {X : Nat × (Nat → Int32)} {sh : px_Sh} {M : px_M} {L : px_L} {R : px_R} {n : Nat} {a0 : Nat} {a1 : Nat} {a2 : Nat} {p3 : Int32} {e : Int32 × px_M} (hS : SR sh R) (hd : 0 ≤ d) (h : f_X11_nextRow sh M a0 a1 a2 p3 = some e) : MX yX11_nextRow cX11_nextRow 5 (some .boolean) d 0 0 X [.ref a0, .ref a1, .ref a2, .int p3] sh M L R n (px_pu (some (.int e.1)) sh e.2 L R n) := by
  refine MX.of (by decide +kernel) (by exact Nat.le_of_ble_eq_true rfl) ?_
  have hcu : 0 ≤ 0 := Nat.zero_le _
  have hsu : 0 ≤ 0 := Nat.zero_le _
  have g : px_pu (some (.int e.1)) sh e.2 L R n (some (.int e.1)) sh e.2 L R n := ⟨rfl, rfl, rfl, rfl, rfl, rfl⟩
  unfold f_X11_nextRow at h
  refine wx_iload_n dX11_nextRow_0 rfl ?_
  refine wx_iconst (v := 1) dX11_nextRow_1 (by decide) ?_
  refine wx_isub dX11_nextRow_2 ?_
  refine wx_nami (fun v_3 q_3 => ?_)
  replace h := nm_at h q_3
  refine wx_istore (lv' := [(4, _), (0, _), (1, _), (2, _), (3, _)]) dX11_nextRow_3 (by decide) rfl ?_
  rcases bdS_some h with ⟨t_5_0, k_5_0, h⟩ | ⟨u_5_0, k_5_0, h⟩
  · refine wx_sub (s_X11_nextRow_5 hS hd hcu hsu k_5_0 (sE_li ?_)) (px_s rfl (px_s rfl (px_s rfl (px_s rfl px_0))))
    refine wx_aload_n dX11_nextRow_21 rfl ?_
    refine wx_iload dX11_nextRow_22 rfl ?_
    refine wx_dup2_11 dX11_nextRow_24 rfl rfl ?_
    obtain ⟨w_25, h⟩ := ok_some h
    obtain ⟨ln_25, wt_25, wi_25⟩ := xk_some w_25
    refine wx_iald dX11_nextRow_25 wt_25 wi_25 ?_
    refine wx_iconst (v := 1) dX11_nextRow_26 (by decide) ?_
    refine wx_iadd dX11_nextRow_27 ?_
    refine wx_nami (fun v_28 q_28 => ?_)
    replace h := nm_at h q_28
    obtain ⟨w_28, h⟩ := ok_some h
    obtain ⟨ln_28, wt_28, wi_28⟩ := xk_some w_28
    refine wx_iast dX11_nextRow_28 wt_28 wi_28 ?_
    refine wx_namM (fun M_28 q_28 => ?_)
    replace h := nm_at h q_28
    refine wx_iconst (v := 1) dX11_nextRow_29 (by decide) ?_
    refine wx_zret dX11_nextRow_30 rfl hcu hsu ?_
    obtain rfl := Option.some.inj h
    exact g
  · refine wx_sub (s_X11_nextRow_5 hS hd hcu hsu k_5_0 (sE_ri ?_)) (px_s rfl (px_s rfl (px_s rfl (px_s rfl px_0))))
    refine wx_iconst (v := 0) dX11_nextRow_45 (by decide) ?_
    refine wx_zret dX11_nextRow_46 rfl hcu hsu ?_
    obtain rfl := Option.some.inj h
    exact g
noncomputable def f_X11_turnOfDay_18 (z0 : Int32) : Option (Int32) :=
  some z0
theorem s_X11_turnOfDay_18 {z0 : Int32} {M : px_M} {L : px_L} {R : px_R} {e : (Int32)} (hS : SR sh R) (hd : 0 ≤ d) (hcu : cu ≤ mc) (hsu : su ≤ ms) (h : f_X11_turnOfDay_18 z0 = some e) (g : Post (some (.int e)) sh M L R n) : WX RX11 cX11_turnOfDay 1 (some .int) ("turnOfDay", []) d mc ms X (px_QF Post mc ms) 18 [] [.int z0] sh M L R n cu su := by
  unfold f_X11_turnOfDay_18 at h
  refine wx_iret dX11_turnOfDay_18 hcu hsu ?_
  obtain rfl := Option.some.inj h
  exact g
noncomputable def f_X11_turnOfDay (p0 : Int32) : Option (Int32) :=
  if 0 ≤ p0 then
    ok (nz (p0 + 32) 0) <|
    f_X11_turnOfDay_18 (1 + (320 / (p0 + 32)))
  else
    f_X11_turnOfDay_18 1
theorem s_X11_turnOfDay {d : Nat} {X : Nat × (Nat → Int32)} {sh : px_Sh} {M : px_M} {L : px_L} {R : px_R} {n : Nat} {p0 : Int32} {e : Int32} (hS : SR sh R) (hd : 0 ≤ d) (h : f_X11_turnOfDay p0 = some e) : MX yX11_turnOfDay cX11_turnOfDay 1 (some .int) d 0 0 X [.int p0] sh M L R n (px_pu (some (.int e)) sh M L R n) := by
  refine MX.of (by decide +kernel) (by exact Nat.le_of_ble_eq_true rfl) ?_
  have hcu : 0 ≤ 0 := Nat.zero_le _
  have hsu : 0 ≤ 0 := Nat.zero_le _
  have g : px_pu (some (.int e)) sh M L R n (some (.int e)) sh M L R n := ⟨rfl, rfl, rfl, rfl, rfl, rfl⟩
  unfold f_X11_turnOfDay at h
  refine wx_iload_n dX11_turnOfDay_0 rfl ?_
  refine wx_if_ge (tgt := 8) dX11_turnOfDay_1 (by decide) (fun c_1 => ?_) (fun c_1 => ?_)
  · replace h := it_t h c_1
    refine wx_iconst (v := 1) dX11_turnOfDay_8 (by decide) ?_
    refine wx_sipush (v := 320) dX11_turnOfDay_9 (by decide) ?_
    refine wx_iload_n dX11_turnOfDay_12 rfl ?_
    refine wx_bipush (v := 32) dX11_turnOfDay_13 (by decide) ?_
    refine wx_iadd dX11_turnOfDay_15 ?_
    obtain ⟨w_16, h⟩ := ok_some h
    refine wx_idiv dX11_turnOfDay_16 (nz_n w_16) ?_
    refine wx_iadd dX11_turnOfDay_17 ?_
    exact wx_sub (s_X11_turnOfDay_18 hS hd hcu hsu h g) px_0
  · replace h := it_f h c_1
    refine wx_iconst (v := 1) dX11_turnOfDay_4 (by decide) ?_
    refine wx_goto (tgt := 18) dX11_turnOfDay_5 (by decide) ?_
    exact wx_sub (s_X11_turnOfDay_18 hS hd hcu hsu h g) px_0
noncomputable def f_X11_rhoBehind (p0 : Int32) (p1 : Int32) (p2 : Int32) : Option (Int32) :=
  bd1 (f_X11_stepsAt p0 p2) fun e_6 =>
  some (p0 + ((p1 - 1) * e_6))
theorem s_X11_rhoBehind {d : Nat} {X : Nat × (Nat → Int32)} {sh : px_Sh} {M : px_M} {L : px_L} {R : px_R} {n : Nat} {p0 : Int32} {p1 : Int32} {p2 : Int32} {e : Int32} (hS : SR sh R) (hd : 1 ≤ d) (h : f_X11_rhoBehind p0 p1 p2 = some e) : MX yX11_rhoBehind cX11_rhoBehind 3 (some .int) d 0 0 X [.int p0, .int p1, .int p2] sh M L R n (px_pu (some (.int e)) sh M L R n) := by
  refine MX.of (by decide +kernel) (by exact Nat.le_of_ble_eq_true rfl) ?_
  have hcu : 0 ≤ 0 := Nat.zero_le _
  have hsu : 0 ≤ 0 := Nat.zero_le _
  have g : px_pu (some (.int e)) sh M L R n (some (.int e)) sh M L R n := ⟨rfl, rfl, rfl, rfl, rfl, rfl⟩
  unfold f_X11_rhoBehind at h
  refine wx_iload_n dX11_rhoBehind_0 rfl ?_
  refine wx_iload_n dX11_rhoBehind_1 rfl ?_
  refine wx_iconst (v := 1) dX11_rhoBehind_2 (by decide) ?_
  refine wx_isub dX11_rhoBehind_3 ?_
  refine wx_iload_n dX11_rhoBehind_4 rfl ?_
  refine wx_iload_n dX11_rhoBehind_5 rfl ?_
  obtain ⟨e_6, k_6, h⟩ := bd1_some h
  refine wx_cSi dX11_rhoBehind_6 ml_X11_356 my_X11_stepsAt sv_X11_stepsAt (s_X11_stepsAt (d := d - 1) hS (by omega) k_6) rfl (by omega) (by exact Nat.le_of_ble_eq_true rfl) hcu hsu ?_
  refine wx_imul dX11_rhoBehind_9 ?_
  refine wx_iadd dX11_rhoBehind_10 ?_
  refine wx_iret dX11_rhoBehind_11 hcu hsu ?_
  obtain rfl := Option.some.inj h
  exact g
end LIFT
