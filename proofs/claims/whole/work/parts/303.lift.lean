/-! Panel and Sail -/
section LIFT
variable {d mc ms : Nat} {X : Nat × (Nat → Int32)} {Post : px_Post} {sh : px_Sh} {n cu su : Nat}
noncomputable def f_X5_slantFor (sh : px_Sh) (M : px_M) (a0 : Nat) (p1 : Int32) (p2 : Int32) : Option (Int32) :=
  ok (hk sh a0 5) <|
  bd1 (f_J9_min_7cf53 8 ((p1 + (M a0 6)) + p2)) fun e_12 =>
  bd1 (f_J9_max_7cf53 (-8) e_12) fun e_15 =>
  some e_15
theorem s_X5_slantFor {d : Nat} {X : Nat × (Nat → Int32)} {sh : px_Sh} {M : px_M} {L : px_L} {R : px_R} {n : Nat} {a0 : Nat} {p1 : Int32} {p2 : Int32} {e : Int32} (hS : SR sh R) (hd : 1 ≤ d) (h : f_X5_slantFor sh M a0 p1 p2 = some e) : MX yX5_slantFor cX5_slantFor 3 (some .int) d 0 0 X [.ref a0, .int p1, .int p2] sh M L R n (px_pu (some (.int e)) sh M L R n) := by
  refine MX.of (by decide +kernel) (by exact Nat.le_of_ble_eq_true rfl) ?_
  have hcu : 0 ≤ 0 := Nat.zero_le _
  have hsu : 0 ≤ 0 := Nat.zero_le _
  have g : px_pu (some (.int e)) sh M L R n (some (.int e)) sh M L R n := ⟨rfl, rfl, rfl, rfl, rfl, rfl⟩
  unfold f_X5_slantFor at h
  refine wx_bipush (v := (-8)) dX5_slantFor_0 (by decide) ?_
  refine wx_bipush (v := 8) dX5_slantFor_2 (by decide) ?_
  refine wx_iload_n dX5_slantFor_4 rfl ?_
  refine wx_aload_n dX5_slantFor_5 rfl ?_
  obtain ⟨ws_6, h⟩ := ok_some h
  obtain ⟨ln_6, wt_6⟩ := hk_some ws_6
  refine wx_getI dX5_slantFor_6 fl_X5_29 wt_6 rfl ?_
  refine wx_iadd dX5_slantFor_9 ?_
  refine wx_iload_n dX5_slantFor_10 rfl ?_
  refine wx_iadd dX5_slantFor_11 ?_
  obtain ⟨e_12, k_12, h⟩ := bd1_some h
  refine wx_cSi dX5_slantFor_12 ml_X5_35 my_J9_min_7cf53 sv_J9_min_7cf53 (s_J9_min_7cf53 (d := d - 1) hS (by omega) k_12) rfl (by omega) (by exact Nat.le_of_ble_eq_true rfl) hcu hsu ?_
  obtain ⟨e_15, k_15, h⟩ := bd1_some h
  refine wx_cSi dX5_slantFor_15 ml_X5_41 my_J9_max_7cf53 sv_J9_max_7cf53 (s_J9_max_7cf53 (d := d - 1) hS (by omega) k_15) rfl (by omega) (by exact Nat.le_of_ble_eq_true rfl) hcu hsu ?_
  refine wx_iret dX5_slantFor_18 hcu hsu ?_
  obtain rfl := Option.some.inj h
  exact g
noncomputable def f_X5_pushY_50 (sh : px_Sh) (M : px_M) (a0 : Nat) (y3 : Int64) (z0 : Int64) : Option (Int32) :=
  ok (hk sh a0 5) <|
  ok (hk sh a0 5) <|
  some ((((((((M a0 2) : Int32).toInt64) * y3) * ((2 * (((M a0 3) : Int32).toInt64)) * z0)) / 100000000) : Int64).toInt32)
theorem s_X5_pushY_50 {a0 : Nat} {y3 : Int64} {z0 : Int64} {M : px_M} {L : px_L} {R : px_R} {e : (Int32)} (hS : SR sh R) (hd : 2 ≤ d) (hcu : cu ≤ mc) (hsu : su ≤ ms) (h : f_X5_pushY_50 sh M a0 y3 z0 = some e) (g : Post (some (.int e)) sh M L R n) : WX RX5 cX5_pushY 7 (some .int) ("pushY", []) d mc ms X (px_QF Post mc ms) 50 [(0, .ref a0), (3, .long y3)] [.long z0] sh M L R n cu su := by
  unfold f_X5_pushY_50 at h
  refine wx_lstore (lv' := [(5, _), (0, _), (3, _)]) dX5_pushY_50 (by decide) rfl ?_
  refine wx_aload_n dX5_pushY_52 rfl ?_
  obtain ⟨ws_53, h⟩ := ok_some h
  obtain ⟨ln_53, wt_53⟩ := hk_some ws_53
  refine wx_getI dX5_pushY_53 fl_X5_16 wt_53 rfl ?_
  refine wx_i2l dX5_pushY_56 ?_
  refine wx_lload_n dX5_pushY_57 rfl ?_
  refine wx_lmul dX5_pushY_58 ?_
  refine wx_ldc2 dX5_pushY_59 kl_X5_60 ?_
  refine wx_aload_n dX5_pushY_62 rfl ?_
  obtain ⟨ws_63, h⟩ := ok_some h
  obtain ⟨ln_63, wt_63⟩ := hk_some ws_63
  refine wx_getI dX5_pushY_63 fl_X5_19 wt_63 rfl ?_
  refine wx_i2l dX5_pushY_66 ?_
  refine wx_lmul dX5_pushY_67 ?_
  refine wx_lload dX5_pushY_68 rfl ?_
  refine wx_lmul dX5_pushY_70 ?_
  refine wx_lmul dX5_pushY_71 ?_
  refine wx_ldc2 dX5_pushY_72 kl_X5_62 ?_
  refine wx_ldiv dX5_pushY_75 (by decide) ?_
  refine wx_l2i dX5_pushY_76 ?_
  refine wx_iret dX5_pushY_77 hcu hsu ?_
  obtain rfl := Option.some.inj h
  exact g
noncomputable def f_X5_pushY (sh : px_Sh) (M : px_M) (a0 : Nat) (p1 : Int32) : Option (Int32) :=
  ok (hk sh a0 5) <|
  if (M a0 5) = 0 then
    ok (hk sh a0 5) <|
    ok (hk sh a0 5) <|
    bd1 (f_X5_slantFor sh M a0 p1 (M a0 9)) fun e_15 =>
    bd1 (f_J9_abs_0f7a4 e_15) fun e_23 =>
    ok (ix e_23 9) <|
    nm (((px_cos e_23.toNatClampNeg) : Int32).toInt64) fun v_28 =>
    if 0 ≤ e_15 then
      ok (ix e_15 9) <|
      f_X5_pushY_50 sh M a0 v_28 (((px_sin e_15.toNatClampNeg) : Int32).toInt64)
    else
      nm (-e_15) fun v_38 =>
      ok (ix v_38 9) <|
      f_X5_pushY_50 sh M a0 v_28 (((-(px_sin v_38.toNatClampNeg)) : Int32).toInt64)
  else
    some 0
theorem s_X5_pushY {d : Nat} {X : Nat × (Nat → Int32)} {sh : px_Sh} {M : px_M} {L : px_L} {R : px_R} {n : Nat} {a0 : Nat} {p1 : Int32} {e : Int32} (hS : SR sh R) (hd : 2 ≤ d) (h : f_X5_pushY sh M a0 p1 = some e) : MX yX5_pushY cX5_pushY 7 (some .int) d 0 0 X [.ref a0, .int p1] sh M L R n (px_pu (some (.int e)) sh M L R n) := by
  refine MX.of (by decide +kernel) (by exact Nat.le_of_ble_eq_true rfl) ?_
  have hcu : 0 ≤ 0 := Nat.zero_le _
  have hsu : 0 ≤ 0 := Nat.zero_le _
  have g : px_pu (some (.int e)) sh M L R n (some (.int e)) sh M L R n := ⟨rfl, rfl, rfl, rfl, rfl, rfl⟩
  unfold f_X5_pushY at h
  refine wx_aload_n dX5_pushY_0 rfl ?_
  obtain ⟨ws_1, h⟩ := ok_some h
  obtain ⟨ln_1, wt_1⟩ := hk_some ws_1
  refine wx_getI dX5_pushY_1 fl_X5_25 wt_1 rfl ?_
  refine wx_if_eq (tgt := 9) dX5_pushY_4 (by decide) (fun c_4 => ?_) (fun c_4 => ?_)
  · replace h := it_t h c_4
    refine wx_aload_n dX5_pushY_9 rfl ?_
    refine wx_iload_n dX5_pushY_10 rfl ?_
    refine wx_aload_n dX5_pushY_11 rfl ?_
    obtain ⟨ws_12, h⟩ := ok_some h
    obtain ⟨ln_12, wt_12⟩ := hk_some ws_12
    refine wx_getI dX5_pushY_12 fl_X5_48 wt_12 rfl ?_
    obtain ⟨ws_15, h⟩ := ok_some h
    obtain ⟨ln_15, wt_15⟩ := hk_some ws_15
    obtain ⟨e_15, k_15, h⟩ := bd1_some h
    refine wx_cVi dX5_pushY_15 ml_X5_51 my_X5_slantFor iv_X5_slantFor wt_15 (by decide) (s_X5_slantFor (d := d - 1) hS (by omega) k_15) rfl (by omega) (by exact Nat.le_of_ble_eq_true rfl) hcu hsu ?_
    refine wx_istore_n (lv' := [(2, _), (0, _), (1, _)]) dX5_pushY_18 (by decide) rfl ?_
    refine wx_cosref dX5_pushY_19 sf_X5_44 ?_
    refine wx_iload_n dX5_pushY_22 rfl ?_
    obtain ⟨e_23, k_23, h⟩ := bd1_some h
    refine wx_cSi dX5_pushY_23 ml_X5_54 my_J9_abs_0f7a4 sv_J9_abs_0f7a4 (s_J9_abs_0f7a4 (d := d - 1) hS (by omega) k_23) rfl (by omega) (by exact Nat.le_of_ble_eq_true rfl) hcu hsu ?_
    obtain ⟨w_26, h⟩ := ok_some h
    refine wx_cos dX5_pushY_26 (ix_in w_26) ?_
    refine wx_i2l dX5_pushY_27 ?_
    refine wx_naml (fun v_28 q_28 => ?_)
    replace h := nm_at h q_28
    refine wx_lstore_n (lv' := [(3, _), (2, _), (0, _), (1, _)]) dX5_pushY_28 (by decide) rfl ?_
    refine wx_iload_n dX5_pushY_29 rfl ?_
    refine wx_if_ge (tgt := 44) dX5_pushY_30 (by decide) (fun c_30 => ?_) (fun c_30 => ?_)
    · replace h := it_t h c_30
      refine wx_sinref dX5_pushY_44 sf_X5_64 ?_
      refine wx_iload_n dX5_pushY_47 rfl ?_
      obtain ⟨w_48, h⟩ := ok_some h
      refine wx_sin dX5_pushY_48 (ix_in w_48) ?_
      refine wx_i2l dX5_pushY_49 ?_
      exact wx_sub (s_X5_pushY_50 hS hd hcu hsu h g) (px_s rfl (px_s rfl px_0))
    · replace h := it_f h c_30
      refine wx_sinref dX5_pushY_33 sf_X5_64 ?_
      refine wx_iload_n dX5_pushY_36 rfl ?_
      refine wx_ineg dX5_pushY_37 ?_
      refine wx_nami (fun v_38 q_38 => ?_)
      replace h := nm_at h q_38
      obtain ⟨w_38, h⟩ := ok_some h
      refine wx_sin dX5_pushY_38 (ix_in w_38) ?_
      refine wx_ineg dX5_pushY_39 ?_
      refine wx_i2l dX5_pushY_40 ?_
      refine wx_goto (tgt := 50) dX5_pushY_41 (by decide) ?_
      exact wx_sub (s_X5_pushY_50 hS hd hcu hsu h g) (px_s rfl (px_s rfl px_0))
  · replace h := it_f h c_4
    refine wx_iconst (v := 0) dX5_pushY_7 (by decide) ?_
    refine wx_iret dX5_pushY_8 hcu hsu ?_
    obtain rfl := Option.some.inj h
    exact g
noncomputable def f_X5_init (sh : px_Sh) (M : px_M) (a0 : Nat) (p1 : Int32) (p2 : Int32) (p3 : Int32) (p4 : Int32) (p5 : Int32) : Option (px_M) :=
  ok (hk sh a0 5) <|
  nm (px_u M a0 0 p1) fun M_6 =>
  ok (hk sh a0 5) <|
  nm (px_u M_6 a0 1 p2) fun M_11 =>
  ok (hk sh a0 5) <|
  nm (px_u M_11 a0 2 p3) fun M_16 =>
  ok (hk sh a0 5) <|
  nm (px_u M_16 a0 3 p4) fun M_22 =>
  ok (hk sh a0 5) <|
  nm (px_u M_22 a0 4 p5) fun M_28 =>
  some M_28
theorem s_X5_init {d : Nat} {X : Nat × (Nat → Int32)} {sh : px_Sh} {M : px_M} {L : px_L} {R : px_R} {n : Nat} {a0 : Nat} {p1 : Int32} {p2 : Int32} {p3 : Int32} {p4 : Int32} {p5 : Int32} {e : px_M} (hS : SR sh R) (hd : 1 ≤ d) (h : f_X5_init sh M a0 p1 p2 p3 p4 p5 = some e) : MX yX5_init cX5_init 6 none d 0 0 X [.ref a0, .int p1, .int p2, .int p3, .int p4, .int p5] sh M L R n (px_pu none sh e L R n) := by
  refine MX.of (by decide +kernel) (by exact Nat.le_of_ble_eq_true rfl) ?_
  have hcu : 0 ≤ 0 := Nat.zero_le _
  have hsu : 0 ≤ 0 := Nat.zero_le _
  have g : px_pu none sh e L R n none sh e L R n := ⟨rfl, rfl, rfl, rfl, rfl, rfl⟩
  unfold f_X5_init at h
  refine wx_aload_n dX5_init_0 rfl ?_
  refine wx_objInit dX5_init_1 oi_X5_1 (by omega) (by exact Nat.le_of_ble_eq_true rfl) ?_
  refine wx_aload_n dX5_init_4 rfl ?_
  refine wx_iload_n dX5_init_5 rfl ?_
  obtain ⟨ws_6, h⟩ := ok_some h
  obtain ⟨ln_6, wt_6⟩ := hk_some ws_6
  refine wx_putI dX5_init_6 fl_X5_7 wt_6 (Or.inr ⟨rfl, rfl, rfl, px_mem 875 (by decide +kernel) rfl⟩) rfl ⟨rfl, rfl⟩ ?_
  refine wx_namM (fun M_6 q_6 => ?_)
  replace h := nm_at h q_6
  refine wx_aload_n dX5_init_9 rfl ?_
  refine wx_iload_n dX5_init_10 rfl ?_
  obtain ⟨ws_11, h⟩ := ok_some h
  obtain ⟨ln_11, wt_11⟩ := hk_some ws_11
  refine wx_putI dX5_init_11 fl_X5_13 wt_11 (Or.inr ⟨rfl, rfl, rfl, px_mem 877 (by decide +kernel) rfl⟩) rfl ⟨rfl, rfl⟩ ?_
  refine wx_namM (fun M_11 q_11 => ?_)
  replace h := nm_at h q_11
  refine wx_aload_n dX5_init_14 rfl ?_
  refine wx_iload_n dX5_init_15 rfl ?_
  obtain ⟨ws_16, h⟩ := ok_some h
  obtain ⟨ln_16, wt_16⟩ := hk_some ws_16
  refine wx_putI dX5_init_16 fl_X5_16 wt_16 (Or.inr ⟨rfl, rfl, rfl, px_mem 879 (by decide +kernel) rfl⟩) rfl ⟨rfl, rfl⟩ ?_
  refine wx_namM (fun M_16 q_16 => ?_)
  replace h := nm_at h q_16
  refine wx_aload_n dX5_init_19 rfl ?_
  refine wx_iload dX5_init_20 rfl ?_
  obtain ⟨ws_22, h⟩ := ok_some h
  obtain ⟨ln_22, wt_22⟩ := hk_some ws_22
  refine wx_putI dX5_init_22 fl_X5_19 wt_22 (Or.inl rfl) rfl ⟨rfl, rfl⟩ ?_
  refine wx_namM (fun M_22 q_22 => ?_)
  replace h := nm_at h q_22
  refine wx_aload_n dX5_init_25 rfl ?_
  refine wx_iload dX5_init_26 rfl ?_
  obtain ⟨ws_28, h⟩ := ok_some h
  obtain ⟨ln_28, wt_28⟩ := hk_some ws_28
  refine wx_putI dX5_init_28 fl_X5_22 wt_28 (Or.inl rfl) rfl ⟨rfl, rfl⟩ ?_
  refine wx_namM (fun M_28 q_28 => ?_)
  replace h := nm_at h q_28
  refine wx_vret dX5_init_31 hcu hsu ?_
  obtain rfl := Option.some.inj h
  exact g
noncomputable def f_X5_fact_54 (sh : px_Sh) (M : px_M) (z0 : Int32) : Option (Int32) :=
  some z0
theorem s_X5_fact_54 {z0 : Int32} {M : px_M} {L : px_L} {R : px_R} {e : (Int32)} (hS : SR sh R) (hd : 0 ≤ d) (hcu : cu ≤ mc) (hsu : su ≤ ms) (h : f_X5_fact_54 sh M z0 = some e) (g : Post (some (.int e)) sh M L R n) : WX RX5 cX5_fact 2 (some .int) ("fact", []) d mc ms X (px_QF Post mc ms) 54 [] [.int z0] sh M L R n cu su := by
  unfold f_X5_fact_54 at h
  refine wx_iret dX5_fact_54 hcu hsu ?_
  obtain rfl := Option.some.inj h
  exact g
noncomputable def f_X5_fact (sh : px_Sh) (M : px_M) (a0 : Nat) (p1 : Int32) : Option (Int32) :=
  if p1 = 0 then
    ok (hk sh a0 5) <|
    some (M a0 3)
  else if p1 = 1 then
    ok (hk sh a0 5) <|
    some (M a0 4)
  else if p1 = 2 then
    ok (hk sh a0 5) <|
    if (M a0 5) = 0 then
      f_X5_fact_54 sh M 0
    else
      f_X5_fact_54 sh M 1
  else if p1 = 3 then
    ok (hk sh a0 5) <|
    some (M a0 6)
  else ok (hk sh a0 5) <|
  some (M a0 7)
theorem s_X5_fact {d : Nat} {X : Nat × (Nat → Int32)} {sh : px_Sh} {M : px_M} {L : px_L} {R : px_R} {n : Nat} {a0 : Nat} {p1 : Int32} {e : Int32} (hS : SR sh R) (hd : 0 ≤ d) (h : f_X5_fact sh M a0 p1 = some e) : MX yX5_fact cX5_fact 2 (some .int) d 0 0 X [.ref a0, .int p1] sh M L R n (px_pu (some (.int e)) sh M L R n) := by
  refine MX.of (by decide +kernel) (by exact Nat.le_of_ble_eq_true rfl) ?_
  have hcu : 0 ≤ 0 := Nat.zero_le _
  have hsu : 0 ≤ 0 := Nat.zero_le _
  have g : px_pu (some (.int e)) sh M L R n (some (.int e)) sh M L R n := ⟨rfl, rfl, rfl, rfl, rfl, rfl⟩
  unfold f_X5_fact at h
  refine wx_iload_n dX5_fact_0 rfl ?_
  by_cases c_1_0 : p1 = 0
  · replace h := it_t h c_1_0
    refine wx_ts (tgt := 32) dX5_fact_1 c_1_0 (by decide) (by decide) rfl (by decide) ?_
    refine wx_aload_n dX5_fact_32 rfl ?_
    obtain ⟨ws_33, h⟩ := ok_some h
    obtain ⟨ln_33, wt_33⟩ := hk_some ws_33
    refine wx_getI dX5_fact_33 fl_X5_19 wt_33 rfl ?_
    refine wx_iret dX5_fact_36 hcu hsu ?_
    obtain rfl := Option.some.inj h
    exact g
  replace h := it_f h c_1_0
  by_cases c_1_1 : p1 = 1
  · replace h := it_t h c_1_1
    refine wx_ts (tgt := 37) dX5_fact_1 c_1_1 (by decide) (by decide) rfl (by decide) ?_
    refine wx_aload_n dX5_fact_37 rfl ?_
    obtain ⟨ws_38, h⟩ := ok_some h
    obtain ⟨ln_38, wt_38⟩ := hk_some ws_38
    refine wx_getI dX5_fact_38 fl_X5_22 wt_38 rfl ?_
    refine wx_iret dX5_fact_41 hcu hsu ?_
    obtain rfl := Option.some.inj h
    exact g
  replace h := it_f h c_1_1
  by_cases c_1_2 : p1 = 2
  · replace h := it_t h c_1_2
    refine wx_ts (tgt := 42) dX5_fact_1 c_1_2 (by decide) (by decide) rfl (by decide) ?_
    refine wx_aload_n dX5_fact_42 rfl ?_
    obtain ⟨ws_43, h⟩ := ok_some h
    obtain ⟨ln_43, wt_43⟩ := hk_some ws_43
    refine wx_getI dX5_fact_43 fl_X5_25 wt_43 rfl ?_
    refine wx_if_eq (tgt := 53) dX5_fact_46 (by decide) (fun c_46 => ?_) (fun c_46 => ?_)
    · replace h := it_t h c_46
      refine wx_iconst (v := 0) dX5_fact_53 (by decide) ?_
      exact wx_sub (s_X5_fact_54 hS hd hcu hsu h g) px_0
    · replace h := it_f h c_46
      refine wx_iconst (v := 1) dX5_fact_49 (by decide) ?_
      refine wx_goto (tgt := 54) dX5_fact_50 (by decide) ?_
      exact wx_sub (s_X5_fact_54 hS hd hcu hsu h g) px_0
  replace h := it_f h c_1_2
  by_cases c_1_3 : p1 = 3
  · replace h := it_t h c_1_3
    refine wx_ts (tgt := 55) dX5_fact_1 c_1_3 (by decide) (by decide) rfl (by decide) ?_
    refine wx_aload_n dX5_fact_55 rfl ?_
    obtain ⟨ws_56, h⟩ := ok_some h
    obtain ⟨ln_56, wt_56⟩ := hk_some ws_56
    refine wx_getI dX5_fact_56 fl_X5_29 wt_56 rfl ?_
    refine wx_iret dX5_fact_59 hcu hsu ?_
    obtain rfl := Option.some.inj h
    exact g
  replace h := it_f h c_1_3
  have n_1_0 := ts_ne (j := 0) c_1_0 (by decide)
  have n_1_1 := ts_ne (j := 1) c_1_1 (by decide)
  have n_1_2 := ts_ne (j := 2) c_1_2 (by decide)
  have n_1_3 := ts_ne (j := 3) c_1_3 (by decide)
  refine wx_tsOut (tgt := 60) dX5_fact_1 (by omega) (by decide) ?_
  refine wx_aload_n dX5_fact_60 rfl ?_
  obtain ⟨ws_61, h⟩ := ok_some h
  obtain ⟨ln_61, wt_61⟩ := hk_some ws_61
  refine wx_getI dX5_fact_61 fl_X5_32 wt_61 rfl ?_
  refine wx_iret dX5_fact_64 hcu hsu ?_
  obtain rfl := Option.some.inj h
  exact g
noncomputable def f_X5_pushX (sh : px_Sh) (M : px_M) (a0 : Nat) (p1 : Int32) (p2 : Int32) (p3 : Int32) : Option (Int32) :=
  ok (hk sh a0 5) <|
  if (M a0 5) = 0 then
    ok (hk sh a0 5) <|
    ok (hk sh a0 5) <|
    bd1 (f_X5_slantFor sh M a0 p1 (M a0 9)) fun e_18 =>
    bd1 (f_J9_abs_0f7a4 e_18) fun e_21 =>
    ok (ix e_21 9) <|
    nm (((px_cos e_21.toNatClampNeg) : Int32).toInt64) fun v_26 =>
    ok (hk sh a0 5) <|
    some ((((((((M a0 2) : Int32).toInt64) * v_26) * ((1000 * ((p3 : Int32).toInt64)) + ((2 * ((p2 : Int32).toInt64)) * v_26))) / 100000000) : Int64).toInt32)
  else
    some 0
theorem s_X5_pushX {d : Nat} {X : Nat × (Nat → Int32)} {sh : px_Sh} {M : px_M} {L : px_L} {R : px_R} {n : Nat} {a0 : Nat} {p1 : Int32} {p2 : Int32} {p3 : Int32} {e : Int32} (hS : SR sh R) (hd : 2 ≤ d) (h : f_X5_pushX sh M a0 p1 p2 p3 = some e) : MX yX5_pushX cX5_pushX 6 (some .int) d 0 0 X [.ref a0, .int p1, .int p2, .int p3] sh M L R n (px_pu (some (.int e)) sh M L R n) := by
  refine MX.of (by decide +kernel) (by exact Nat.le_of_ble_eq_true rfl) ?_
  have hcu : 0 ≤ 0 := Nat.zero_le _
  have hsu : 0 ≤ 0 := Nat.zero_le _
  have g : px_pu (some (.int e)) sh M L R n (some (.int e)) sh M L R n := ⟨rfl, rfl, rfl, rfl, rfl, rfl⟩
  unfold f_X5_pushX at h
  refine wx_aload_n dX5_pushX_0 rfl ?_
  obtain ⟨ws_1, h⟩ := ok_some h
  obtain ⟨ln_1, wt_1⟩ := hk_some ws_1
  refine wx_getI dX5_pushX_1 fl_X5_25 wt_1 rfl ?_
  refine wx_if_eq (tgt := 9) dX5_pushX_4 (by decide) (fun c_4 => ?_) (fun c_4 => ?_)
  · replace h := it_t h c_4
    refine wx_cosref dX5_pushX_9 sf_X5_44 ?_
    refine wx_aload_n dX5_pushX_12 rfl ?_
    refine wx_iload_n dX5_pushX_13 rfl ?_
    refine wx_aload_n dX5_pushX_14 rfl ?_
    obtain ⟨ws_15, h⟩ := ok_some h
    obtain ⟨ln_15, wt_15⟩ := hk_some ws_15
    refine wx_getI dX5_pushX_15 fl_X5_48 wt_15 rfl ?_
    obtain ⟨ws_18, h⟩ := ok_some h
    obtain ⟨ln_18, wt_18⟩ := hk_some ws_18
    obtain ⟨e_18, k_18, h⟩ := bd1_some h
    refine wx_cVi dX5_pushX_18 ml_X5_51 my_X5_slantFor iv_X5_slantFor wt_18 (by decide) (s_X5_slantFor (d := d - 1) hS (by omega) k_18) rfl (by omega) (by exact Nat.le_of_ble_eq_true rfl) hcu hsu ?_
    obtain ⟨e_21, k_21, h⟩ := bd1_some h
    refine wx_cSi dX5_pushX_21 ml_X5_54 my_J9_abs_0f7a4 sv_J9_abs_0f7a4 (s_J9_abs_0f7a4 (d := d - 1) hS (by omega) k_21) rfl (by omega) (by exact Nat.le_of_ble_eq_true rfl) hcu hsu ?_
    obtain ⟨w_24, h⟩ := ok_some h
    refine wx_cos dX5_pushX_24 (ix_in w_24) ?_
    refine wx_i2l dX5_pushX_25 ?_
    refine wx_naml (fun v_26 q_26 => ?_)
    replace h := nm_at h q_26
    refine wx_lstore (lv' := [(4, _), (0, _), (1, _), (2, _), (3, _)]) dX5_pushX_26 (by decide) rfl ?_
    refine wx_aload_n dX5_pushX_28 rfl ?_
    obtain ⟨ws_29, h⟩ := ok_some h
    obtain ⟨ln_29, wt_29⟩ := hk_some ws_29
    refine wx_getI dX5_pushX_29 fl_X5_16 wt_29 rfl ?_
    refine wx_i2l dX5_pushX_32 ?_
    refine wx_lload dX5_pushX_33 rfl ?_
    refine wx_lmul dX5_pushX_35 ?_
    refine wx_ldc2 dX5_pushX_36 kl_X5_58 ?_
    refine wx_iload_n dX5_pushX_39 rfl ?_
    refine wx_i2l dX5_pushX_40 ?_
    refine wx_lmul dX5_pushX_41 ?_
    refine wx_ldc2 dX5_pushX_42 kl_X5_60 ?_
    refine wx_iload_n dX5_pushX_45 rfl ?_
    refine wx_i2l dX5_pushX_46 ?_
    refine wx_lmul dX5_pushX_47 ?_
    refine wx_lload dX5_pushX_48 rfl ?_
    refine wx_lmul dX5_pushX_50 ?_
    refine wx_ladd dX5_pushX_51 ?_
    refine wx_lmul dX5_pushX_52 ?_
    refine wx_ldc2 dX5_pushX_53 kl_X5_62 ?_
    refine wx_ldiv dX5_pushX_56 (by decide) ?_
    refine wx_l2i dX5_pushX_57 ?_
    refine wx_iret dX5_pushX_58 hcu hsu ?_
    obtain rfl := Option.some.inj h
    exact g
  · replace h := it_f h c_4
    refine wx_iconst (v := 0) dX5_pushX_7 (by decide) ?_
    refine wx_iret dX5_pushX_8 hcu hsu ?_
    obtain rfl := Option.some.inj h
    exact g
noncomputable def f_X5_press (sh : px_Sh) (M : px_M) (a0 : Nat) (p1 : Int32) (p2 : Int32) : Option (Int32) :=
  ok (hk sh a0 5) <|
  if (M a0 5) = 0 then
    ok (hk sh a0 5) <|
    bd1 (f_X5_slantFor sh M a0 p1 p2) fun e_15 =>
    bd1 (f_J9_abs_0f7a4 e_15) fun e_18 =>
    ok (ix e_18 9) <|
    nm (((px_cos e_18.toNatClampNeg) : Int32).toInt64) fun v_23 =>
    ok (hk sh a0 5) <|
    ok (hk sh a0 5) <|
    ok (hk sh a0 5) <|
    some (((((((((M a0 2) : Int32).toInt64) * v_23) * v_23) * ((2 * (((M a0 3) : Int32).toInt64)) + (((M a0 4) : Int32).toInt64))) / 100000000) : Int64).toInt32)
  else
    some 0
theorem s_X5_press {d : Nat} {X : Nat × (Nat → Int32)} {sh : px_Sh} {M : px_M} {L : px_L} {R : px_R} {n : Nat} {a0 : Nat} {p1 : Int32} {p2 : Int32} {e : Int32} (hS : SR sh R) (hd : 2 ≤ d) (h : f_X5_press sh M a0 p1 p2 = some e) : MX yX5_press cX5_press 5 (some .int) d 0 0 X [.ref a0, .int p1, .int p2] sh M L R n (px_pu (some (.int e)) sh M L R n) := by
  refine MX.of (by decide +kernel) (by exact Nat.le_of_ble_eq_true rfl) ?_
  have hcu : 0 ≤ 0 := Nat.zero_le _
  have hsu : 0 ≤ 0 := Nat.zero_le _
  have g : px_pu (some (.int e)) sh M L R n (some (.int e)) sh M L R n := ⟨rfl, rfl, rfl, rfl, rfl, rfl⟩
  unfold f_X5_press at h
  refine wx_aload_n dX5_press_0 rfl ?_
  obtain ⟨ws_1, h⟩ := ok_some h
  obtain ⟨ln_1, wt_1⟩ := hk_some ws_1
  refine wx_getI dX5_press_1 fl_X5_25 wt_1 rfl ?_
  refine wx_if_eq (tgt := 9) dX5_press_4 (by decide) (fun c_4 => ?_) (fun c_4 => ?_)
  · replace h := it_t h c_4
    refine wx_cosref dX5_press_9 sf_X5_44 ?_
    refine wx_aload_n dX5_press_12 rfl ?_
    refine wx_iload_n dX5_press_13 rfl ?_
    refine wx_iload_n dX5_press_14 rfl ?_
    obtain ⟨ws_15, h⟩ := ok_some h
    obtain ⟨ln_15, wt_15⟩ := hk_some ws_15
    obtain ⟨e_15, k_15, h⟩ := bd1_some h
    refine wx_cVi dX5_press_15 ml_X5_51 my_X5_slantFor iv_X5_slantFor wt_15 (by decide) (s_X5_slantFor (d := d - 1) hS (by omega) k_15) rfl (by omega) (by exact Nat.le_of_ble_eq_true rfl) hcu hsu ?_
    obtain ⟨e_18, k_18, h⟩ := bd1_some h
    refine wx_cSi dX5_press_18 ml_X5_54 my_J9_abs_0f7a4 sv_J9_abs_0f7a4 (s_J9_abs_0f7a4 (d := d - 1) hS (by omega) k_18) rfl (by omega) (by exact Nat.le_of_ble_eq_true rfl) hcu hsu ?_
    obtain ⟨w_21, h⟩ := ok_some h
    refine wx_cos dX5_press_21 (ix_in w_21) ?_
    refine wx_i2l dX5_press_22 ?_
    refine wx_naml (fun v_23 q_23 => ?_)
    replace h := nm_at h q_23
    refine wx_lstore_n (lv' := [(3, _), (0, _), (1, _), (2, _)]) dX5_press_23 (by decide) rfl ?_
    refine wx_aload_n dX5_press_24 rfl ?_
    obtain ⟨ws_25, h⟩ := ok_some h
    obtain ⟨ln_25, wt_25⟩ := hk_some ws_25
    refine wx_getI dX5_press_25 fl_X5_16 wt_25 rfl ?_
    refine wx_i2l dX5_press_28 ?_
    refine wx_lload_n dX5_press_29 rfl ?_
    refine wx_lmul dX5_press_30 ?_
    refine wx_lload_n dX5_press_31 rfl ?_
    refine wx_lmul dX5_press_32 ?_
    refine wx_ldc2 dX5_press_33 kl_X5_60 ?_
    refine wx_aload_n dX5_press_36 rfl ?_
    obtain ⟨ws_37, h⟩ := ok_some h
    obtain ⟨ln_37, wt_37⟩ := hk_some ws_37
    refine wx_getI dX5_press_37 fl_X5_19 wt_37 rfl ?_
    refine wx_i2l dX5_press_40 ?_
    refine wx_lmul dX5_press_41 ?_
    refine wx_aload_n dX5_press_42 rfl ?_
    obtain ⟨ws_43, h⟩ := ok_some h
    obtain ⟨ln_43, wt_43⟩ := hk_some ws_43
    refine wx_getI dX5_press_43 fl_X5_22 wt_43 rfl ?_
    refine wx_i2l dX5_press_46 ?_
    refine wx_ladd dX5_press_47 ?_
    refine wx_lmul dX5_press_48 ?_
    refine wx_ldc2 dX5_press_49 kl_X5_62 ?_
    refine wx_ldiv dX5_press_52 (by decide) ?_
    refine wx_l2i dX5_press_53 ?_
    refine wx_iret dX5_press_54 hcu hsu ?_
    obtain rfl := Option.some.inj h
    exact g
  · replace h := it_f h c_4
    refine wx_iconst (v := 0) dX5_press_7 (by decide) ?_
    refine wx_iret dX5_press_8 hcu hsu ?_
    obtain rfl := Option.some.inj h
    exact g
noncomputable def f_X5_live_109 (sh : px_Sh) (M : px_M) : Option (px_M) :=
  some M
theorem s_X5_live_109 {M : px_M} {L : px_L} {R : px_R} {e : (px_M)} (hS : SR sh R) (hd : 1 ≤ d) (hcu : cu ≤ mc) (hsu : su ≤ ms) (h : f_X5_live_109 sh M = some e) (g : Post none sh e L R n) : WX RX5 cX5_live 4 none ("live", []) d mc ms X (px_QF Post mc ms) 109 [] [] sh M L R n cu su := by
  unfold f_X5_live_109 at h
  refine wx_vret dX5_live_109 hcu hsu ?_
  obtain rfl := Option.some.inj h
  exact g
noncomputable def f_X5_live_78 (sh : px_Sh) (M : px_M) (a0 : Nat) (x2 : Int32) : Option (px_M) :=
  if x2 = 0 then
    f_X5_live_109 sh M
  else
    ok (hk sh a0 5) <|
    if (M a0 3) ≤ 0 then
      f_X5_live_109 sh M
    else
      ok (hk sh a0 5) <|
      nm ((M a0 3) - 1) fun v_96 =>
      ok (hk sh a0 5) <|
      nm (px_u M a0 3 v_96) fun M_96 =>
      ok (hk sh a0 5) <|
      nm ((M_96 a0 4) + 1) fun v_106 =>
      ok (hk sh a0 5) <|
      nm (px_u M_96 a0 4 v_106) fun M_106 =>
      f_X5_live_109 sh M_106
theorem s_X5_live_78 {a0 : Nat} {x2 : Int32} {M : px_M} {L : px_L} {R : px_R} {e : (px_M)} (hS : SR sh R) (hd : 1 ≤ d) (hcu : cu ≤ mc) (hsu : su ≤ ms) (h : f_X5_live_78 sh M a0 x2 = some e) (g : Post none sh e L R n) : WX RX5 cX5_live 4 none ("live", []) d mc ms X (px_QF Post mc ms) 78 [(0, .ref a0), (2, .int x2)] [] sh M L R n cu su := by
  unfold f_X5_live_78 at h
  refine wx_iload_n dX5_live_78 rfl ?_
  refine wx_if_eq (tgt := 109) dX5_live_79 (by decide) (fun c_79 => ?_) (fun c_79 => ?_)
  · replace h := it_t h c_79
    exact wx_sub (s_X5_live_109 hS hd hcu hsu h g) px_0
  · replace h := it_f h c_79
    refine wx_aload_n dX5_live_82 rfl ?_
    obtain ⟨ws_83, h⟩ := ok_some h
    obtain ⟨ln_83, wt_83⟩ := hk_some ws_83
    refine wx_getI dX5_live_83 fl_X5_19 wt_83 rfl ?_
    refine wx_if_le (tgt := 109) dX5_live_86 (by decide) (fun c_86 => ?_) (fun c_86 => ?_)
    · replace h := it_t h c_86
      exact wx_sub (s_X5_live_109 hS hd hcu hsu h g) px_0
    · replace h := it_f h c_86
      refine wx_aload_n dX5_live_89 rfl ?_
      refine wx_dup dX5_live_90 rfl ?_
      obtain ⟨ws_91, h⟩ := ok_some h
      obtain ⟨ln_91, wt_91⟩ := hk_some ws_91
      refine wx_getI dX5_live_91 fl_X5_19 wt_91 rfl ?_
      refine wx_iconst (v := 1) dX5_live_94 (by decide) ?_
      refine wx_isub dX5_live_95 ?_
      refine wx_nami (fun v_96 q_96 => ?_)
      replace h := nm_at h q_96
      obtain ⟨ws_96, h⟩ := ok_some h
      obtain ⟨ln_96, wt_96⟩ := hk_some ws_96
      refine wx_putI dX5_live_96 fl_X5_19 wt_96 (Or.inl rfl) rfl ⟨rfl, rfl⟩ ?_
      refine wx_namM (fun M_96 q_96 => ?_)
      replace h := nm_at h q_96
      refine wx_aload_n dX5_live_99 rfl ?_
      refine wx_dup dX5_live_100 rfl ?_
      obtain ⟨ws_101, h⟩ := ok_some h
      obtain ⟨ln_101, wt_101⟩ := hk_some ws_101
      refine wx_getI dX5_live_101 fl_X5_22 wt_101 rfl ?_
      refine wx_iconst (v := 1) dX5_live_104 (by decide) ?_
      refine wx_iadd dX5_live_105 ?_
      refine wx_nami (fun v_106 q_106 => ?_)
      replace h := nm_at h q_106
      obtain ⟨ws_106, h⟩ := ok_some h
      obtain ⟨ln_106, wt_106⟩ := hk_some ws_106
      refine wx_putI dX5_live_106 fl_X5_22 wt_106 (Or.inl rfl) rfl ⟨rfl, rfl⟩ ?_
      refine wx_namM (fun M_106 q_106 => ?_)
      replace h := nm_at h q_106
      exact wx_sub (s_X5_live_109 hS hd hcu hsu h g) px_0
noncomputable def f_X5_live_48 (sh : px_Sh) (M : px_M) (a0 : Nat) (x2 : Int32) (z0 : Int32) (z1 : Nat) : Option (px_M) :=
  ok (hk sh z1 5) <|
  nm (px_u M z1 7 z0) fun M_48 =>
  ok (hk sh a0 5) <|
  if (M_48 a0 7) = 5 then
    ok (hk sh a0 5) <|
    nm (px_u M_48 a0 7 0) fun M_61 =>
    ok (hk sh a0 5) <|
    bd1 (f_J9_min_7cf53 2 ((M_61 a0 6) + 1)) fun e_72 =>
    ok (hk sh a0 5) <|
    nm (px_u M_61 a0 6 e_72) fun M_75 =>
    f_X5_live_78 sh M_75 a0 x2
  else
    f_X5_live_78 sh M_48 a0 x2
theorem s_X5_live_48 {a0 : Nat} {x2 : Int32} {z0 : Int32} {z1 : Nat} {M : px_M} {L : px_L} {R : px_R} {e : (px_M)} (hS : SR sh R) (hd : 1 ≤ d) (hcu : cu ≤ mc) (hsu : su ≤ ms) (h : f_X5_live_48 sh M a0 x2 z0 z1 = some e) (g : Post none sh e L R n) : WX RX5 cX5_live 4 none ("live", []) d mc ms X (px_QF Post mc ms) 48 [(0, .ref a0), (2, .int x2)] [.int z0, .ref z1] sh M L R n cu su := by
  unfold f_X5_live_48 at h
  obtain ⟨ws_48, h⟩ := ok_some h
  obtain ⟨ln_48, wt_48⟩ := hk_some ws_48
  refine wx_putI dX5_live_48 fl_X5_32 wt_48 (Or.inl rfl) rfl ⟨rfl, rfl⟩ ?_
  refine wx_namM (fun M_48 q_48 => ?_)
  replace h := nm_at h q_48
  refine wx_aload_n dX5_live_51 rfl ?_
  obtain ⟨ws_52, h⟩ := ok_some h
  obtain ⟨ln_52, wt_52⟩ := hk_some ws_52
  refine wx_getI dX5_live_52 fl_X5_32 wt_52 rfl ?_
  refine wx_iconst (v := 5) dX5_live_55 (by decide) ?_
  refine wx_icmp_ne (tgt := 78) dX5_live_56 (by decide) (fun c_56 => ?_) (fun c_56 => ?_)
  · replace h := it_f h c_56
    exact wx_sub (s_X5_live_78 hS hd hcu hsu h g) (px_s rfl (px_s rfl px_0))
  · replace h := it_t h c_56
    refine wx_aload_n dX5_live_59 rfl ?_
    refine wx_iconst (v := 0) dX5_live_60 (by decide) ?_
    obtain ⟨ws_61, h⟩ := ok_some h
    obtain ⟨ln_61, wt_61⟩ := hk_some ws_61
    refine wx_putI dX5_live_61 fl_X5_32 wt_61 (Or.inl rfl) rfl ⟨rfl, rfl⟩ ?_
    refine wx_namM (fun M_61 q_61 => ?_)
    replace h := nm_at h q_61
    refine wx_aload_n dX5_live_64 rfl ?_
    refine wx_iconst (v := 2) dX5_live_65 (by decide) ?_
    refine wx_aload_n dX5_live_66 rfl ?_
    obtain ⟨ws_67, h⟩ := ok_some h
    obtain ⟨ln_67, wt_67⟩ := hk_some ws_67
    refine wx_getI dX5_live_67 fl_X5_29 wt_67 rfl ?_
    refine wx_iconst (v := 1) dX5_live_70 (by decide) ?_
    refine wx_iadd dX5_live_71 ?_
    obtain ⟨e_72, k_72, h⟩ := bd1_some h
    refine wx_cSi dX5_live_72 ml_X5_35 my_J9_min_7cf53 sv_J9_min_7cf53 (s_J9_min_7cf53 (d := d - 1) hS (by omega) k_72) rfl (by omega) (by exact Nat.le_of_ble_eq_true rfl) hcu hsu ?_
    obtain ⟨ws_75, h⟩ := ok_some h
    obtain ⟨ln_75, wt_75⟩ := hk_some ws_75
    refine wx_putI dX5_live_75 fl_X5_29 wt_75 (Or.inl rfl) rfl ⟨rfl, rfl⟩ ?_
    refine wx_namM (fun M_75 q_75 => ?_)
    replace h := nm_at h q_75
    exact wx_sub (s_X5_live_78 hS hd hcu hsu h g) (px_s rfl (px_s rfl px_0))
noncomputable def f_X5_live_32 (sh : px_Sh) (M : px_M) (a0 : Nat) (x2 : Int32) (z0 : Int32) : Option (px_M) :=
  if z0 = 0 then
    f_X5_live_48 sh M a0 x2 0 a0
  else
    ok (hk sh a0 5) <|
    f_X5_live_48 sh M a0 x2 ((M a0 7) + 1) a0
theorem s_X5_live_32 {a0 : Nat} {x2 : Int32} {z0 : Int32} {M : px_M} {L : px_L} {R : px_R} {e : (px_M)} (hS : SR sh R) (hd : 1 ≤ d) (hcu : cu ≤ mc) (hsu : su ≤ ms) (h : f_X5_live_32 sh M a0 x2 z0 = some e) (g : Post none sh e L R n) : WX RX5 cX5_live 4 none ("live", []) d mc ms X (px_QF Post mc ms) 32 [(0, .ref a0), (2, .int x2)] [.int z0] sh M L R n cu su := by
  unfold f_X5_live_32 at h
  refine wx_istore_n (lv' := [(3, _), (0, _), (2, _)]) dX5_live_32 (by decide) rfl ?_
  refine wx_aload_n dX5_live_33 rfl ?_
  refine wx_iload_n dX5_live_34 rfl ?_
  refine wx_if_eq (tgt := 47) dX5_live_35 (by decide) (fun c_35 => ?_) (fun c_35 => ?_)
  · replace h := it_t h c_35
    refine wx_iconst (v := 0) dX5_live_47 (by decide) ?_
    exact wx_sub (s_X5_live_48 hS hd hcu hsu h g) (px_s rfl (px_s rfl px_0))
  · replace h := it_f h c_35
    refine wx_aload_n dX5_live_38 rfl ?_
    obtain ⟨ws_39, h⟩ := ok_some h
    obtain ⟨ln_39, wt_39⟩ := hk_some ws_39
    refine wx_getI dX5_live_39 fl_X5_32 wt_39 rfl ?_
    refine wx_iconst (v := 1) dX5_live_42 (by decide) ?_
    refine wx_iadd dX5_live_43 ?_
    refine wx_goto (tgt := 48) dX5_live_44 (by decide) ?_
    exact wx_sub (s_X5_live_48 hS hd hcu hsu h g) (px_s rfl (px_s rfl px_0))
noncomputable def f_X5_live_31 (sh : px_Sh) (M : px_M) (a0 : Nat) (x2 : Int32) : Option (px_M) :=
  f_X5_live_32 sh M a0 x2 0
theorem s_X5_live_31 {a0 : Nat} {x2 : Int32} {M : px_M} {L : px_L} {R : px_R} {e : (px_M)} (hS : SR sh R) (hd : 1 ≤ d) (hcu : cu ≤ mc) (hsu : su ≤ ms) (h : f_X5_live_31 sh M a0 x2 = some e) (g : Post none sh e L R n) : WX RX5 cX5_live 4 none ("live", []) d mc ms X (px_QF Post mc ms) 31 [(0, .ref a0), (2, .int x2)] [] sh M L R n cu su := by
  unfold f_X5_live_31 at h
  refine wx_iconst (v := 0) dX5_live_31 (by decide) ?_
  exact wx_sub (s_X5_live_32 hS hd hcu hsu h g) (px_s rfl (px_s rfl px_0))
noncomputable def f_X5_live (sh : px_Sh) (M : px_M) (a0 : Nat) (p1 : Int32) (p2 : Int32) : Option (px_M) :=
  if p1 < 0 then
    f_X5_live_31 sh M a0 p2
  else
    ok (hk sh a0 5) <|
    ok (nz (p1 + 32) 0) <|
    if (((((M a0 4) * 100) * 32) / (p1 + 32)) / 100) ≤ 20 then
      f_X5_live_31 sh M a0 p2
    else
      f_X5_live_32 sh M a0 p2 1
theorem s_X5_live {d : Nat} {X : Nat × (Nat → Int32)} {sh : px_Sh} {M : px_M} {L : px_L} {R : px_R} {n : Nat} {a0 : Nat} {p1 : Int32} {p2 : Int32} {e : px_M} (hS : SR sh R) (hd : 1 ≤ d) (h : f_X5_live sh M a0 p1 p2 = some e) : MX yX5_live cX5_live 4 none d 0 0 X [.ref a0, .int p1, .int p2] sh M L R n (px_pu none sh e L R n) := by
  refine MX.of (by decide +kernel) (by exact Nat.le_of_ble_eq_true rfl) ?_
  have hcu : 0 ≤ 0 := Nat.zero_le _
  have hsu : 0 ≤ 0 := Nat.zero_le _
  have g : px_pu none sh e L R n none sh e L R n := ⟨rfl, rfl, rfl, rfl, rfl, rfl⟩
  unfold f_X5_live at h
  refine wx_iload_n dX5_live_0 rfl ?_
  refine wx_if_lt (tgt := 31) dX5_live_1 (by decide) (fun c_1 => ?_) (fun c_1 => ?_)
  · replace h := it_t h c_1
    exact wx_sub (s_X5_live_31 hS hd hcu hsu h g) (px_s rfl (px_s rfl px_0))
  · replace h := it_f h c_1
    refine wx_aload_n dX5_live_4 rfl ?_
    obtain ⟨ws_5, h⟩ := ok_some h
    obtain ⟨ln_5, wt_5⟩ := hk_some ws_5
    refine wx_getI dX5_live_5 fl_X5_22 wt_5 rfl ?_
    refine wx_bipush (v := 100) dX5_live_8 (by decide) ?_
    refine wx_imul dX5_live_10 ?_
    refine wx_bipush (v := 32) dX5_live_11 (by decide) ?_
    refine wx_imul dX5_live_13 ?_
    refine wx_iload_n dX5_live_14 rfl ?_
    refine wx_bipush (v := 32) dX5_live_15 (by decide) ?_
    refine wx_iadd dX5_live_17 ?_
    obtain ⟨w_18, h⟩ := ok_some h
    refine wx_idiv dX5_live_18 (nz_n w_18) ?_
    refine wx_bipush (v := 100) dX5_live_19 (by decide) ?_
    refine wx_idiv dX5_live_21 (by decide) ?_
    refine wx_bipush (v := 20) dX5_live_22 (by decide) ?_
    refine wx_icmp_le (tgt := 31) dX5_live_24 (by decide) (fun c_24 => ?_) (fun c_24 => ?_)
    · replace h := it_t h c_24
      exact wx_sub (s_X5_live_31 hS hd hcu hsu h g) (px_s rfl (px_s rfl px_0))
    · replace h := it_f h c_24
      refine wx_iconst (v := 1) dX5_live_27 (by decide) ?_
      refine wx_goto (tgt := 32) dX5_live_28 (by decide) ?_
      exact wx_sub (s_X5_live_32 hS hd hcu hsu h g) (px_s rfl (px_s rfl px_0))
noncomputable def f_X8_pushY_4 (sh : px_Sh) (M : px_M) (R : px_R) (x1 : Int32) (x2 : Int32) (x3 : Int32) : Option ((Int32 × Int32) ⊕ (Int32)) :=
  if (M 6 1) ≤ x3 then
    some (.inr x2)
  else
    ok (ix x3 16) <|
    bd1 (R 7 x3.toNatClampNeg) fun b_18 =>
    ok (hk sh b_18 5) <|
    bd1 (f_X5_pushY sh M b_18 x1) fun e_20 =>
    nm (x2 + e_20) fun v_24 =>
    some (.inl (v_24, (x3 + 1)))
theorem s_X8_pushY_4b {x1 : Int32} {x2 : Int32} {x3 : Int32} {M : px_M} {L : px_L} {R : px_R} {e : ((Int32 × Int32) ⊕ (Int32))} (hS : SR sh R) (hd : 3 ≤ d) (hcu : cu ≤ mc) (hsu : su ≤ ms) (h : f_X8_pushY_4 sh M R x1 x2 x3 = some e) (g : (sE (fun a => WX RX8 cX8_pushY 4 (some .int) ("pushY", []) d mc ms X (px_QF Post mc ms) 4 [(0, .ref 6), (1, .int x1), (2, .int a.1), (3, .int a.2)] [] sh M L R n cu su) (fun t => WX RX8 cX8_pushY 4 (some .int) ("pushY", []) d mc ms X (px_QF Post mc ms) 31 [(2, .int t)] [] sh M L R n cu su)) e) : WX RX8 cX8_pushY 4 (some .int) ("pushY", []) d mc ms X (px_QF Post mc ms) 4 [(0, .ref 6), (1, .int x1), (2, .int x2), (3, .int x3)] [] sh M L R n cu su := by
  unfold f_X8_pushY_4 at h
  refine wx_iload_n dX8_pushY_4 rfl ?_
  refine wx_aload_n dX8_pushY_5 rfl ?_
  refine wx_getI dX8_pushY_6 fl_X8_36 (sc_6 hS) rfl ?_
  refine wx_icmp_ge (tgt := 31) dX8_pushY_9 (by decide) (fun c_9 => ?_) (fun c_9 => ?_)
  · replace h := it_t h c_9
    obtain rfl := Option.some.inj h
    replace g := sE_r g
    exact wx_sub g (px_s rfl px_0)
  · replace h := it_f h c_9
    refine wx_iload_n dX8_pushY_12 rfl ?_
    refine wx_aload_n dX8_pushY_13 rfl ?_
    refine wx_getR dX8_pushY_14 fl_X8_13 (sc_6 hS) rfl (rr_6_0 hS) ?_
    refine wx_iload_n dX8_pushY_17 rfl ?_
    obtain ⟨w_18, h⟩ := ok_some h
    obtain ⟨b_18, wr_18, h⟩ := bd1_some h
    refine wx_aald dX8_pushY_18 (sc_7 hS) (by decide) (by decide) (ix_in w_18) wr_18 ?_
    refine wx_iload_n dX8_pushY_19 rfl ?_
    obtain ⟨ws_20, h⟩ := ok_some h
    obtain ⟨ln_20, wt_20⟩ := hk_some ws_20
    obtain ⟨e_20, k_20, h⟩ := bd1_some h
    refine wx_cVi dX8_pushY_20 ml_X8_68 my_X5_pushY iv_X5_pushY wt_20 (by decide) (s_X5_pushY (d := d - 1) hS (by omega) k_20) rfl (by omega) (by exact Nat.le_of_ble_eq_true rfl) hcu hsu ?_
    refine wx_iadd dX8_pushY_23 ?_
    refine wx_nami (fun v_24 q_24 => ?_)
    replace h := nm_at h q_24
    refine wx_istore_n (lv' := [(2, _), (0, _), (1, _), (3, _)]) dX8_pushY_24 (by decide) rfl ?_
    refine wx_iinc (lv' := [(3, _), (2, _), (0, _), (1, _)]) dX8_pushY_25 rfl (i_1 _) (by decide) rfl ?_
    refine wx_goto (tgt := 4) dX8_pushY_28 (by decide) ?_
    obtain rfl := Option.some.inj h
    replace g := sE_l g
    exact wx_sub g (px_s rfl (px_s rfl (px_s rfl (px_s rfl px_0))))
theorem s_X8_pushY_4 {x1 : Int32} {x2 : Int32} {x3 : Int32} {M : px_M} {L : px_L} {R : px_R} {e : (Int32)} (hS : SR sh R) (hd : 3 ≤ d) (hcu : cu ≤ mc) (hsu : su ≤ ms) (h : lpf (fun a : Int32 × Int32 => f_X8_pushY_4 sh M R x1 a.1 a.2) (x2, x3) = some e) (g : WX RX8 cX8_pushY 4 (some .int) ("pushY", []) d mc ms X (px_QF Post mc ms) 31 [(2, .int e)] [] sh M L R n cu su) : WX RX8 cX8_pushY 4 (some .int) ("pushY", []) d mc ms X (px_QF Post mc ms) 4 [(0, .ref 6), (1, .int x1), (2, .int x2), (3, .int x3)] [] sh M L R n cu su := by
  have key := lpf_wp (P := (fun a => WX RX8 cX8_pushY 4 (some .int) ("pushY", []) d mc ms X (px_QF Post mc ms) 4 [(0, .ref 6), (1, .int x1), (2, .int a.1), (3, .int a.2)] [] sh M L R n cu su)) (G := (fun t => WX RX8 cX8_pushY 4 (some .int) ("pushY", []) d mc ms X (px_QF Post mc ms) 31 [(2, .int t)] [] sh M L R n cu su)) (fun a r h g => s_X8_pushY_4b (x1 := x1) (x2 := a.1) (x3 := a.2) (M := M) (L := L) (R := R) hS hd hcu hsu h g) (a := (x2, x3)) h g
  exact key
noncomputable def f_X8_pushY (sh : px_Sh) (M : px_M) (R : px_R) (p1 : Int32) : Option (Int32) :=
  bd1 (lpf (fun a : Int32 × Int32 => f_X8_pushY_4 sh M R p1 a.1 a.2) (0, 0)) fun e_4 =>
  some e_4
theorem s_X8_pushY {d : Nat} {X : Nat × (Nat → Int32)} {sh : px_Sh} {M : px_M} {L : px_L} {R : px_R} {n : Nat} {p1 : Int32} {e : Int32} (hS : SR sh R) (hd : 3 ≤ d) (h : f_X8_pushY sh M R p1 = some e) : MX yX8_pushY cX8_pushY 4 (some .int) d 0 0 X [.ref 6, .int p1] sh M L R n (px_pu (some (.int e)) sh M L R n) := by
  refine MX.of (by decide +kernel) (by exact Nat.le_of_ble_eq_true rfl) ?_
  have hcu : 0 ≤ 0 := Nat.zero_le _
  have hsu : 0 ≤ 0 := Nat.zero_le _
  have g : px_pu (some (.int e)) sh M L R n (some (.int e)) sh M L R n := ⟨rfl, rfl, rfl, rfl, rfl, rfl⟩
  unfold f_X8_pushY at h
  refine wx_iconst (v := 0) dX8_pushY_0 (by decide) ?_
  refine wx_istore_n (lv' := [(2, _), (0, _), (1, _)]) dX8_pushY_1 (by decide) rfl ?_
  refine wx_iconst (v := 0) dX8_pushY_2 (by decide) ?_
  refine wx_istore_n (lv' := [(3, _), (2, _), (0, _), (1, _)]) dX8_pushY_3 (by decide) rfl ?_
  obtain ⟨e_4, k_4, h⟩ := bd1_some h
  refine wx_sub (s_X8_pushY_4 hS hd hcu hsu k_4 ?_) (px_s rfl (px_s rfl (px_s rfl (px_s rfl px_0))))
  refine wx_iload_n dX8_pushY_31 rfl ?_
  refine wx_iret dX8_pushY_32 hcu hsu ?_
  obtain rfl := Option.some.inj h
  exact g
noncomputable def f_X8_strength (sh : px_Sh) (M : px_M) (R : px_R) : Option (Int32) :=
  bd1 (f_X8_pushY sh M R 3) fun e_5 =>
  bd1 (f_J9_min_7cf53 20 (e_5 / 100)) fun e_11 =>
  bd1 (f_J9_max_7cf53 0 e_11) fun e_14 =>
  some e_14
theorem s_X8_strength {d : Nat} {X : Nat × (Nat → Int32)} {sh : px_Sh} {M : px_M} {L : px_L} {R : px_R} {n : Nat} {e : Int32} (hS : SR sh R) (hd : 4 ≤ d) (h : f_X8_strength sh M R = some e) : MX yX8_strength cX8_strength 1 (some .int) d 0 0 X [.ref 6] sh M L R n (px_pu (some (.int e)) sh M L R n) := by
  refine MX.of (by decide +kernel) (by exact Nat.le_of_ble_eq_true rfl) ?_
  have hcu : 0 ≤ 0 := Nat.zero_le _
  have hsu : 0 ≤ 0 := Nat.zero_le _
  have g : px_pu (some (.int e)) sh M L R n (some (.int e)) sh M L R n := ⟨rfl, rfl, rfl, rfl, rfl, rfl⟩
  unfold f_X8_strength at h
  refine wx_iconst (v := 0) dX8_strength_0 (by decide) ?_
  refine wx_bipush (v := 20) dX8_strength_1 (by decide) ?_
  refine wx_aload_n dX8_strength_3 rfl ?_
  refine wx_iconst (v := 3) dX8_strength_4 (by decide) ?_
  obtain ⟨e_5, k_5, h⟩ := bd1_some h
  refine wx_cVi dX8_strength_5 ml_X8_72 my_X8_pushY iv_X8_pushY (sc_6 hS) (by decide) (s_X8_pushY (d := d - 1) hS (by omega) k_5) rfl (by omega) (by exact Nat.le_of_ble_eq_true rfl) hcu hsu ?_
  refine wx_bipush (v := 100) dX8_strength_8 (by decide) ?_
  refine wx_idiv dX8_strength_10 (by decide) ?_
  obtain ⟨e_11, k_11, h⟩ := bd1_some h
  refine wx_cSi dX8_strength_11 ml_X8_73 my_J9_min_7cf53 sv_J9_min_7cf53 (s_J9_min_7cf53 (d := d - 1) hS (by omega) k_11) rfl (by omega) (by exact Nat.le_of_ble_eq_true rfl) hcu hsu ?_
  obtain ⟨e_14, k_14, h⟩ := bd1_some h
  refine wx_cSi dX8_strength_14 ml_X8_78 my_J9_max_7cf53 sv_J9_max_7cf53 (s_J9_max_7cf53 (d := d - 1) hS (by omega) k_14) rfl (by omega) (by exact Nat.le_of_ble_eq_true rfl) hcu hsu ?_
  refine wx_iret dX8_strength_17 hcu hsu ?_
  obtain rfl := Option.some.inj h
  exact g
noncomputable def f_X8_tornPanels_30 (sh : px_Sh) (M : px_M) (R : px_R) (x2 : Int32) (z0 : Int32) (z1 : Int32) : Option ((Int32 × Int32) ⊕ (Int32)) :=
  nm (z1 + z0) fun v_31 =>
  some (.inl (v_31, (x2 + 1)))
theorem s_X8_tornPanels_30 {x2 : Int32} {z0 : Int32} {z1 : Int32} {M : px_M} {L : px_L} {R : px_R} {e : ((Int32 × Int32) ⊕ (Int32))} (hS : SR sh R) (hd : 0 ≤ d) (hcu : cu ≤ mc) (hsu : su ≤ ms) (h : f_X8_tornPanels_30 sh M R x2 z0 z1 = some e) (g : (sE (fun a => WX RX8 cX8_tornPanels 3 (some .int) ("tornPanels", []) d mc ms X (px_QF Post mc ms) 4 [(0, .ref 6), (1, .int a.1), (2, .int a.2)] [] sh M L R n cu su) (fun t => WX RX8 cX8_tornPanels 3 (some .int) ("tornPanels", []) d mc ms X (px_QF Post mc ms) 38 [(1, .int t)] [] sh M L R n cu su)) e) : WX RX8 cX8_tornPanels 3 (some .int) ("tornPanels", []) d mc ms X (px_QF Post mc ms) 30 [(0, .ref 6), (2, .int x2)] [.int z0, .int z1] sh M L R n cu su := by
  unfold f_X8_tornPanels_30 at h
  refine wx_iadd dX8_tornPanels_30 ?_
  refine wx_nami (fun v_31 q_31 => ?_)
  replace h := nm_at h q_31
  refine wx_istore_n (lv' := [(1, _), (0, _), (2, _)]) dX8_tornPanels_31 (by decide) rfl ?_
  refine wx_iinc (lv' := [(2, _), (1, _), (0, _)]) dX8_tornPanels_32 rfl (i_1 _) (by decide) rfl ?_
  refine wx_goto (tgt := 4) dX8_tornPanels_35 (by decide) ?_
  obtain rfl := Option.some.inj h
  replace g := sE_l g
  exact wx_sub g (px_s rfl (px_s rfl (px_s rfl px_0)))
noncomputable def f_X8_tornPanels_4 (sh : px_Sh) (M : px_M) (R : px_R) (x1 : Int32) (x2 : Int32) : Option ((Int32 × Int32) ⊕ (Int32)) :=
  if (M 6 1) ≤ x2 then
    some (.inr x1)
  else
    ok (ix x2 16) <|
    bd1 (R 7 x2.toNatClampNeg) fun b_18 =>
    ok (hk sh b_18 5) <|
    if (M b_18 5) = 0 then
      f_X8_tornPanels_30 sh M R x2 0 x1
    else
      f_X8_tornPanels_30 sh M R x2 1 x1
theorem s_X8_tornPanels_4b {x1 : Int32} {x2 : Int32} {M : px_M} {L : px_L} {R : px_R} {e : ((Int32 × Int32) ⊕ (Int32))} (hS : SR sh R) (hd : 0 ≤ d) (hcu : cu ≤ mc) (hsu : su ≤ ms) (h : f_X8_tornPanels_4 sh M R x1 x2 = some e) (g : (sE (fun a => WX RX8 cX8_tornPanels 3 (some .int) ("tornPanels", []) d mc ms X (px_QF Post mc ms) 4 [(0, .ref 6), (1, .int a.1), (2, .int a.2)] [] sh M L R n cu su) (fun t => WX RX8 cX8_tornPanels 3 (some .int) ("tornPanels", []) d mc ms X (px_QF Post mc ms) 38 [(1, .int t)] [] sh M L R n cu su)) e) : WX RX8 cX8_tornPanels 3 (some .int) ("tornPanels", []) d mc ms X (px_QF Post mc ms) 4 [(0, .ref 6), (1, .int x1), (2, .int x2)] [] sh M L R n cu su := by
  unfold f_X8_tornPanels_4 at h
  refine wx_iload_n dX8_tornPanels_4 rfl ?_
  refine wx_aload_n dX8_tornPanels_5 rfl ?_
  refine wx_getI dX8_tornPanels_6 fl_X8_36 (sc_6 hS) rfl ?_
  refine wx_icmp_ge (tgt := 38) dX8_tornPanels_9 (by decide) (fun c_9 => ?_) (fun c_9 => ?_)
  · replace h := it_t h c_9
    obtain rfl := Option.some.inj h
    replace g := sE_r g
    exact wx_sub g (px_s rfl px_0)
  · replace h := it_f h c_9
    refine wx_iload_n dX8_tornPanels_12 rfl ?_
    refine wx_aload_n dX8_tornPanels_13 rfl ?_
    refine wx_getR dX8_tornPanels_14 fl_X8_13 (sc_6 hS) rfl (rr_6_0 hS) ?_
    refine wx_iload_n dX8_tornPanels_17 rfl ?_
    obtain ⟨w_18, h⟩ := ok_some h
    obtain ⟨b_18, wr_18, h⟩ := bd1_some h
    refine wx_aald dX8_tornPanels_18 (sc_7 hS) (by decide) (by decide) (ix_in w_18) wr_18 ?_
    obtain ⟨ws_19, h⟩ := ok_some h
    obtain ⟨ln_19, wt_19⟩ := hk_some ws_19
    refine wx_getI dX8_tornPanels_19 fl_X8_103 wt_19 rfl ?_
    refine wx_if_eq (tgt := 29) dX8_tornPanels_22 (by decide) (fun c_22 => ?_) (fun c_22 => ?_)
    · replace h := it_t h c_22
      refine wx_iconst (v := 0) dX8_tornPanels_29 (by decide) ?_
      exact wx_sub (s_X8_tornPanels_30 hS hd hcu hsu h g) (px_s rfl (px_s rfl px_0))
    · replace h := it_f h c_22
      refine wx_iconst (v := 1) dX8_tornPanels_25 (by decide) ?_
      refine wx_goto (tgt := 30) dX8_tornPanels_26 (by decide) ?_
      exact wx_sub (s_X8_tornPanels_30 hS hd hcu hsu h g) (px_s rfl (px_s rfl px_0))
theorem s_X8_tornPanels_4 {x1 : Int32} {x2 : Int32} {M : px_M} {L : px_L} {R : px_R} {e : (Int32)} (hS : SR sh R) (hd : 0 ≤ d) (hcu : cu ≤ mc) (hsu : su ≤ ms) (h : lpf (fun a : Int32 × Int32 => f_X8_tornPanels_4 sh M R a.1 a.2) (x1, x2) = some e) (g : WX RX8 cX8_tornPanels 3 (some .int) ("tornPanels", []) d mc ms X (px_QF Post mc ms) 38 [(1, .int e)] [] sh M L R n cu su) : WX RX8 cX8_tornPanels 3 (some .int) ("tornPanels", []) d mc ms X (px_QF Post mc ms) 4 [(0, .ref 6), (1, .int x1), (2, .int x2)] [] sh M L R n cu su := by
  have key := lpf_wp (P := (fun a => WX RX8 cX8_tornPanels 3 (some .int) ("tornPanels", []) d mc ms X (px_QF Post mc ms) 4 [(0, .ref 6), (1, .int a.1), (2, .int a.2)] [] sh M L R n cu su)) (G := (fun t => WX RX8 cX8_tornPanels 3 (some .int) ("tornPanels", []) d mc ms X (px_QF Post mc ms) 38 [(1, .int t)] [] sh M L R n cu su)) (fun a r h g => s_X8_tornPanels_4b (x1 := a.1) (x2 := a.2) (M := M) (L := L) (R := R) hS hd hcu hsu h g) (a := (x1, x2)) h g
  exact key
noncomputable def f_X8_tornPanels (sh : px_Sh) (M : px_M) (R : px_R) : Option (Int32) :=
  bd1 (lpf (fun a : Int32 × Int32 => f_X8_tornPanels_4 sh M R a.1 a.2) (0, 0)) fun e_4 =>
  some e_4
theorem s_X8_tornPanels {d : Nat} {X : Nat × (Nat → Int32)} {sh : px_Sh} {M : px_M} {L : px_L} {R : px_R} {n : Nat} {e : Int32} (hS : SR sh R) (hd : 0 ≤ d) (h : f_X8_tornPanels sh M R = some e) : MX yX8_tornPanels cX8_tornPanels 3 (some .int) d 0 0 X [.ref 6] sh M L R n (px_pu (some (.int e)) sh M L R n) := by
  refine MX.of (by decide +kernel) (by exact Nat.le_of_ble_eq_true rfl) ?_
  have hcu : 0 ≤ 0 := Nat.zero_le _
  have hsu : 0 ≤ 0 := Nat.zero_le _
  have g : px_pu (some (.int e)) sh M L R n (some (.int e)) sh M L R n := ⟨rfl, rfl, rfl, rfl, rfl, rfl⟩
  unfold f_X8_tornPanels at h
  refine wx_iconst (v := 0) dX8_tornPanels_0 (by decide) ?_
  refine wx_istore_n (lv' := [(1, _), (0, _)]) dX8_tornPanels_1 (by decide) rfl ?_
  refine wx_iconst (v := 0) dX8_tornPanels_2 (by decide) ?_
  refine wx_istore_n (lv' := [(2, _), (1, _), (0, _)]) dX8_tornPanels_3 (by decide) rfl ?_
  obtain ⟨e_4, k_4, h⟩ := bd1_some h
  refine wx_sub (s_X8_tornPanels_4 hS hd hcu hsu k_4 ?_) (px_s rfl (px_s rfl (px_s rfl px_0)))
  refine wx_iload_n dX8_tornPanels_38 rfl ?_
  refine wx_iret dX8_tornPanels_39 hcu hsu ?_
  obtain rfl := Option.some.inj h
  exact g
noncomputable def f_X8_hasPanel (M : px_M) (p1 : Int32) : Option (Int32) :=
  bd1 (f_X11_within p1 0 ((M 6 1) - 1)) fun e_8 =>
  ok (zb e_8) <|
  some e_8
theorem s_X8_hasPanel {d : Nat} {X : Nat × (Nat → Int32)} {sh : px_Sh} {M : px_M} {L : px_L} {R : px_R} {n : Nat} {p1 : Int32} {e : Int32} (hS : SR sh R) (hd : 1 ≤ d) (h : f_X8_hasPanel M p1 = some e) : MX yX8_hasPanel cX8_hasPanel 2 (some .boolean) d 0 0 X [.ref 6, .int p1] sh M L R n (px_pu (some (.int e)) sh M L R n) := by
  refine MX.of (by decide +kernel) (by exact Nat.le_of_ble_eq_true rfl) ?_
  have hcu : 0 ≤ 0 := Nat.zero_le _
  have hsu : 0 ≤ 0 := Nat.zero_le _
  have g : px_pu (some (.int e)) sh M L R n (some (.int e)) sh M L R n := ⟨rfl, rfl, rfl, rfl, rfl, rfl⟩
  unfold f_X8_hasPanel at h
  refine wx_iload_n dX8_hasPanel_0 rfl ?_
  refine wx_iconst (v := 0) dX8_hasPanel_1 (by decide) ?_
  refine wx_aload_n dX8_hasPanel_2 rfl ?_
  refine wx_getI dX8_hasPanel_3 fl_X8_36 (sc_6 hS) rfl ?_
  refine wx_iconst (v := 1) dX8_hasPanel_6 (by decide) ?_
  refine wx_isub dX8_hasPanel_7 ?_
  obtain ⟨e_8, k_8, h⟩ := bd1_some h
  refine wx_cSi dX8_hasPanel_8 ml_X8_43 my_X11_within sv_X11_within (s_X11_within (d := d - 1) hS (by omega) k_8) rfl (by omega) (by exact Nat.le_of_ble_eq_true rfl) hcu hsu ?_
  obtain ⟨w_11, h⟩ := ok_some h
  refine wx_zret dX8_hasPanel_11 (zb_n w_11) hcu hsu ?_
  obtain rfl := Option.some.inj h
  exact g
noncomputable def f_X8_makeFlap (sh : px_Sh) (M : px_M) (R : px_R) (p1 : Int32) : Option (Int32 × px_M × px_R) :=
  if (M 6 3) = 4 then
    some ((-1), M, R)
  else
    ok (ix p1 16) <|
    bd1 (R 7 p1.toNatClampNeg) fun b_15 =>
    ok (hk sh b_15 5) <|
    if (M b_15 8) = 0 then
      ok (ix p1 16) <|
      bd1 (R 7 p1.toNatClampNeg) fun b_30 =>
      ok (hk sh b_30 5) <|
      nm (px_u M b_30 8 1) fun M_32 =>
      ok (ix p1 16) <|
      bd1 (R 7 p1.toNatClampNeg) fun b_48 =>
      ok (ix (M_32 6 3) 4) <|
      ok (hk sh b_48 5) <|
      nm (px_u R 8 (M_32 6 3).toNatClampNeg (some b_48)) fun R_49 =>
      nm (M_32 6 3) fun v_55 =>
      nm (v_55 + 1) fun v_58 =>
      nm (px_u M_32 6 3 v_58) fun M_58 =>
      some (v_55, M_58, R_49)
    else
      some ((-2), M, R)
theorem s_X8_makeFlap {d : Nat} {X : Nat × (Nat → Int32)} {sh : px_Sh} {M : px_M} {L : px_L} {R : px_R} {n : Nat} {p1 : Int32} {e : Int32 × px_M × px_R} (hS : SR sh R) (hd : 0 ≤ d) (h : f_X8_makeFlap sh M R p1 = some e) : MX yX8_makeFlap cX8_makeFlap 2 (some .int) d 0 0 X [.ref 6, .int p1] sh M L R n (px_ps (some (.int e.1)) sh e.2.1 L e.2.2 n) := by
  refine MX.of (by decide +kernel) (by exact Nat.le_of_ble_eq_true rfl) ?_
  have hcu : 0 ≤ 0 := Nat.zero_le _
  have hsu : 0 ≤ 0 := Nat.zero_le _
  have g : SR sh e.2.2 → px_ps (some (.int e.1)) sh e.2.1 L e.2.2 n (some (.int e.1)) sh e.2.1 L e.2.2 n := fun q => ⟨⟨rfl, rfl, rfl, rfl, rfl, rfl⟩, q⟩
  unfold f_X8_makeFlap at h
  refine wx_aload_n dX8_makeFlap_0 rfl ?_
  refine wx_getI dX8_makeFlap_1 fl_X8_47 (sc_6 hS) rfl ?_
  refine wx_iconst (v := 4) dX8_makeFlap_4 (by decide) ?_
  refine wx_icmp_ne (tgt := 10) dX8_makeFlap_5 (by decide) (fun c_5 => ?_) (fun c_5 => ?_)
  · replace h := it_f h c_5
    refine wx_aload_n dX8_makeFlap_10 rfl ?_
    refine wx_getR dX8_makeFlap_11 fl_X8_13 (sc_6 hS) rfl (rr_6_0 hS) ?_
    refine wx_iload_n dX8_makeFlap_14 rfl ?_
    obtain ⟨w_15, h⟩ := ok_some h
    obtain ⟨b_15, wr_15, h⟩ := bd1_some h
    refine wx_aald dX8_makeFlap_15 (sc_7 hS) (by decide) (by decide) (ix_in w_15) wr_15 ?_
    obtain ⟨ws_16, h⟩ := ok_some h
    obtain ⟨ln_16, wt_16⟩ := hk_some ws_16
    refine wx_getI dX8_makeFlap_16 fl_X8_50 wt_16 rfl ?_
    refine wx_if_eq (tgt := 25) dX8_makeFlap_19 (by decide) (fun c_19 => ?_) (fun c_19 => ?_)
    · replace h := it_t h c_19
      refine wx_aload_n dX8_makeFlap_25 rfl ?_
      refine wx_getR dX8_makeFlap_26 fl_X8_13 (sc_6 hS) rfl (rr_6_0 hS) ?_
      refine wx_iload_n dX8_makeFlap_29 rfl ?_
      obtain ⟨w_30, h⟩ := ok_some h
      obtain ⟨b_30, wr_30, h⟩ := bd1_some h
      refine wx_aald dX8_makeFlap_30 (sc_7 hS) (by decide) (by decide) (ix_in w_30) wr_30 ?_
      refine wx_iconst (v := 1) dX8_makeFlap_31 (by decide) ?_
      obtain ⟨ws_32, h⟩ := ok_some h
      obtain ⟨ln_32, wt_32⟩ := hk_some ws_32
      refine wx_putI dX8_makeFlap_32 fl_X8_50 wt_32 (Or.inl rfl) rfl ⟨rfl, rfl⟩ ?_
      refine wx_namM (fun M_32 q_32 => ?_)
      replace h := nm_at h q_32
      refine wx_aload_n dX8_makeFlap_35 rfl ?_
      refine wx_getR dX8_makeFlap_36 fl_X8_17 (sc_6 hS) rfl (rr_6_2 hS) ?_
      refine wx_aload_n dX8_makeFlap_39 rfl ?_
      refine wx_getI dX8_makeFlap_40 fl_X8_47 (sc_6 hS) rfl ?_
      refine wx_aload_n dX8_makeFlap_43 rfl ?_
      refine wx_getR dX8_makeFlap_44 fl_X8_13 (sc_6 hS) rfl (rr_6_0 hS) ?_
      refine wx_iload_n dX8_makeFlap_47 rfl ?_
      obtain ⟨w_48, h⟩ := ok_some h
      obtain ⟨b_48, wr_48, h⟩ := bd1_some h
      refine wx_aald dX8_makeFlap_48 (sc_7 hS) (by decide) (by decide) (ix_in w_48) wr_48 ?_
      obtain ⟨w_49, h⟩ := ok_some h
      obtain ⟨ws_49v, h⟩ := ok_some h
      obtain ⟨ln_49v, wt_49v⟩ := hk_some ws_49v
      refine wx_aast dX8_makeFlap_49 (sc_8 hS) (by decide) (by decide) wt_49v (Or.inl ⟨by decide, rfl⟩) (ix_in w_49) ?_
      refine wx_namR (fun R_49 q_49 => ?_)
      replace h := nm_at h q_49
      replace hS : SR sh R_49 := by rw [q_49]; exact SR.put hS (rlay_8 _)
      refine wx_aload_n dX8_makeFlap_50 rfl ?_
      refine wx_dup dX8_makeFlap_51 rfl ?_
      refine wx_getI dX8_makeFlap_52 fl_X8_47 (sc_6 hS) rfl ?_
      refine wx_nami (fun v_55 q_55 => ?_)
      replace h := nm_at h q_55
      refine wx_dup_x1 dX8_makeFlap_55 rfl rfl ?_
      refine wx_iconst (v := 1) dX8_makeFlap_56 (by decide) ?_
      refine wx_iadd dX8_makeFlap_57 ?_
      refine wx_nami (fun v_58 q_58 => ?_)
      replace h := nm_at h q_58
      refine wx_putI dX8_makeFlap_58 fl_X8_47 (sc_6 hS) (Or.inl rfl) rfl ⟨rfl, rfl⟩ ?_
      refine wx_namM (fun M_58 q_58 => ?_)
      replace h := nm_at h q_58
      refine wx_iret dX8_makeFlap_61 hcu hsu ?_
      obtain rfl := Option.some.inj h
      exact g hS
    · replace h := it_f h c_19
      refine wx_bipush (v := (-2)) dX8_makeFlap_22 (by decide) ?_
      refine wx_iret dX8_makeFlap_24 hcu hsu ?_
      obtain rfl := Option.some.inj h
      exact g hS
  · replace h := it_t h c_5
    refine wx_iconst (v := (-1)) dX8_makeFlap_8 (by decide) ?_
    refine wx_iret dX8_makeFlap_9 hcu hsu ?_
    obtain rfl := Option.some.inj h
    exact g hS
noncomputable def f_X8_hasFlap (M : px_M) (p1 : Int32) : Option (Int32) :=
  bd1 (f_X11_within p1 0 ((M 6 3) - 1)) fun e_8 =>
  ok (zb e_8) <|
  some e_8
theorem s_X8_hasFlap {d : Nat} {X : Nat × (Nat → Int32)} {sh : px_Sh} {M : px_M} {L : px_L} {R : px_R} {n : Nat} {p1 : Int32} {e : Int32} (hS : SR sh R) (hd : 1 ≤ d) (h : f_X8_hasFlap M p1 = some e) : MX yX8_hasFlap cX8_hasFlap 2 (some .boolean) d 0 0 X [.ref 6, .int p1] sh M L R n (px_pu (some (.int e)) sh M L R n) := by
  refine MX.of (by decide +kernel) (by exact Nat.le_of_ble_eq_true rfl) ?_
  have hcu : 0 ≤ 0 := Nat.zero_le _
  have hsu : 0 ≤ 0 := Nat.zero_le _
  have g : px_pu (some (.int e)) sh M L R n (some (.int e)) sh M L R n := ⟨rfl, rfl, rfl, rfl, rfl, rfl⟩
  unfold f_X8_hasFlap at h
  refine wx_iload_n dX8_hasFlap_0 rfl ?_
  refine wx_iconst (v := 0) dX8_hasFlap_1 (by decide) ?_
  refine wx_aload_n dX8_hasFlap_2 rfl ?_
  refine wx_getI dX8_hasFlap_3 fl_X8_47 (sc_6 hS) rfl ?_
  refine wx_iconst (v := 1) dX8_hasFlap_6 (by decide) ?_
  refine wx_isub dX8_hasFlap_7 ?_
  obtain ⟨e_8, k_8, h⟩ := bd1_some h
  refine wx_cSi dX8_hasFlap_8 ml_X8_43 my_X11_within sv_X11_within (s_X11_within (d := d - 1) hS (by omega) k_8) rfl (by omega) (by exact Nat.le_of_ble_eq_true rfl) hcu hsu ?_
  obtain ⟨w_11, h⟩ := ok_some h
  refine wx_zret dX8_hasFlap_11 (zb_n w_11) hcu hsu ?_
  obtain rfl := Option.some.inj h
  exact g
noncomputable def f_X8_pushXFrom_5 (sh : px_Sh) (M : px_M) (R : px_R) (x2 : Int32) (x3 : Int32) (x4 : Int32) : Option ((Int32 × Int32) ⊕ (Int32)) :=
  if (M 6 1) ≤ x4 then
    some (.inr x3)
  else
    ok (ix x4 16) <|
    bd1 (R 7 x4.toNatClampNeg) fun b_21 =>
    ok (ix x4 16) <|
    bd1 (R 7 x4.toNatClampNeg) fun b_29 =>
    ok (hk sh b_29 5) <|
    ok (ix x4 16) <|
    bd1 (R 7 x4.toNatClampNeg) fun b_39 =>
    ok (hk sh b_39 5) <|
    ok (hk sh b_21 5) <|
    bd1 (f_X5_pushX sh M b_21 x2 (M b_29 3) (M b_39 4)) fun e_43 =>
    nm (x3 + e_43) fun v_47 =>
    some (.inl (v_47, (x4 + 1)))
theorem s_X8_pushXFrom_5b {x2 : Int32} {x3 : Int32} {x4 : Int32} {M : px_M} {L : px_L} {R : px_R} {e : ((Int32 × Int32) ⊕ (Int32))} (hS : SR sh R) (hd : 3 ≤ d) (hcu : cu ≤ mc) (hsu : su ≤ ms) (h : f_X8_pushXFrom_5 sh M R x2 x3 x4 = some e) (g : (sE (fun a => WX RX8 cX8_pushXFrom 5 (some .int) ("pushXFrom", []) d mc ms X (px_QF Post mc ms) 5 [(0, .ref 6), (2, .int x2), (3, .int a.1), (4, .int a.2)] [] sh M L R n cu su) (fun t => WX RX8 cX8_pushXFrom 5 (some .int) ("pushXFrom", []) d mc ms X (px_QF Post mc ms) 54 [(3, .int t)] [] sh M L R n cu su)) e) : WX RX8 cX8_pushXFrom 5 (some .int) ("pushXFrom", []) d mc ms X (px_QF Post mc ms) 5 [(0, .ref 6), (2, .int x2), (3, .int x3), (4, .int x4)] [] sh M L R n cu su := by
  unfold f_X8_pushXFrom_5 at h
  refine wx_iload dX8_pushXFrom_5 rfl ?_
  refine wx_aload_n dX8_pushXFrom_7 rfl ?_
  refine wx_getI dX8_pushXFrom_8 fl_X8_36 (sc_6 hS) rfl ?_
  refine wx_icmp_ge (tgt := 54) dX8_pushXFrom_11 (by decide) (fun c_11 => ?_) (fun c_11 => ?_)
  · replace h := it_t h c_11
    obtain rfl := Option.some.inj h
    replace g := sE_r g
    exact wx_sub g (px_s rfl px_0)
  · replace h := it_f h c_11
    refine wx_iload_n dX8_pushXFrom_14 rfl ?_
    refine wx_aload_n dX8_pushXFrom_15 rfl ?_
    refine wx_getR dX8_pushXFrom_16 fl_X8_13 (sc_6 hS) rfl (rr_6_0 hS) ?_
    refine wx_iload dX8_pushXFrom_19 rfl ?_
    obtain ⟨w_21, h⟩ := ok_some h
    obtain ⟨b_21, wr_21, h⟩ := bd1_some h
    refine wx_aald dX8_pushXFrom_21 (sc_7 hS) (by decide) (by decide) (ix_in w_21) wr_21 ?_
    refine wx_iload_n dX8_pushXFrom_22 rfl ?_
    refine wx_aload_n dX8_pushXFrom_23 rfl ?_
    refine wx_getR dX8_pushXFrom_24 fl_X8_13 (sc_6 hS) rfl (rr_6_0 hS) ?_
    refine wx_iload dX8_pushXFrom_27 rfl ?_
    obtain ⟨w_29, h⟩ := ok_some h
    obtain ⟨b_29, wr_29, h⟩ := bd1_some h
    refine wx_aald dX8_pushXFrom_29 (sc_7 hS) (by decide) (by decide) (ix_in w_29) wr_29 ?_
    obtain ⟨ws_30, h⟩ := ok_some h
    obtain ⟨ln_30, wt_30⟩ := hk_some ws_30
    refine wx_getI dX8_pushXFrom_30 fl_X8_58 wt_30 rfl ?_
    refine wx_aload_n dX8_pushXFrom_33 rfl ?_
    refine wx_getR dX8_pushXFrom_34 fl_X8_13 (sc_6 hS) rfl (rr_6_0 hS) ?_
    refine wx_iload dX8_pushXFrom_37 rfl ?_
    obtain ⟨w_39, h⟩ := ok_some h
    obtain ⟨b_39, wr_39, h⟩ := bd1_some h
    refine wx_aald dX8_pushXFrom_39 (sc_7 hS) (by decide) (by decide) (ix_in w_39) wr_39 ?_
    obtain ⟨ws_40, h⟩ := ok_some h
    obtain ⟨ln_40, wt_40⟩ := hk_some ws_40
    refine wx_getI dX8_pushXFrom_40 fl_X8_61 wt_40 rfl ?_
    obtain ⟨ws_43, h⟩ := ok_some h
    obtain ⟨ln_43, wt_43⟩ := hk_some ws_43
    obtain ⟨e_43, k_43, h⟩ := bd1_some h
    refine wx_cVi dX8_pushXFrom_43 ml_X8_64 my_X5_pushX iv_X5_pushX wt_43 (by decide) (s_X5_pushX (d := d - 1) hS (by omega) k_43) rfl (by omega) (by exact Nat.le_of_ble_eq_true rfl) hcu hsu ?_
    refine wx_iadd dX8_pushXFrom_46 ?_
    refine wx_nami (fun v_47 q_47 => ?_)
    replace h := nm_at h q_47
    refine wx_istore_n (lv' := [(3, _), (0, _), (2, _), (4, _)]) dX8_pushXFrom_47 (by decide) rfl ?_
    refine wx_iinc (lv' := [(4, _), (3, _), (0, _), (2, _)]) dX8_pushXFrom_48 rfl (i_1 _) (by decide) rfl ?_
    refine wx_goto (tgt := 5) dX8_pushXFrom_51 (by decide) ?_
    obtain rfl := Option.some.inj h
    replace g := sE_l g
    exact wx_sub g (px_s rfl (px_s rfl (px_s rfl (px_s rfl px_0))))
theorem s_X8_pushXFrom_5 {x2 : Int32} {x3 : Int32} {x4 : Int32} {M : px_M} {L : px_L} {R : px_R} {e : (Int32)} (hS : SR sh R) (hd : 3 ≤ d) (hcu : cu ≤ mc) (hsu : su ≤ ms) (h : lpf (fun a : Int32 × Int32 => f_X8_pushXFrom_5 sh M R x2 a.1 a.2) (x3, x4) = some e) (g : WX RX8 cX8_pushXFrom 5 (some .int) ("pushXFrom", []) d mc ms X (px_QF Post mc ms) 54 [(3, .int e)] [] sh M L R n cu su) : WX RX8 cX8_pushXFrom 5 (some .int) ("pushXFrom", []) d mc ms X (px_QF Post mc ms) 5 [(0, .ref 6), (2, .int x2), (3, .int x3), (4, .int x4)] [] sh M L R n cu su := by
  have key := lpf_wp (P := (fun a => WX RX8 cX8_pushXFrom 5 (some .int) ("pushXFrom", []) d mc ms X (px_QF Post mc ms) 5 [(0, .ref 6), (2, .int x2), (3, .int a.1), (4, .int a.2)] [] sh M L R n cu su)) (G := (fun t => WX RX8 cX8_pushXFrom 5 (some .int) ("pushXFrom", []) d mc ms X (px_QF Post mc ms) 54 [(3, .int t)] [] sh M L R n cu su)) (fun a r h g => s_X8_pushXFrom_5b (x2 := x2) (x3 := a.1) (x4 := a.2) (M := M) (L := L) (R := R) hS hd hcu hsu h g) (a := (x3, x4)) h g
  exact key
noncomputable def f_X8_pushXFrom (sh : px_Sh) (M : px_M) (R : px_R) (p1 : Int32) (p2 : Int32) : Option (Int32) :=
  bd1 (lpf (fun a : Int32 × Int32 => f_X8_pushXFrom_5 sh M R p2 a.1 a.2) (0, p1)) fun e_5 =>
  some e_5
theorem s_X8_pushXFrom {d : Nat} {X : Nat × (Nat → Int32)} {sh : px_Sh} {M : px_M} {L : px_L} {R : px_R} {n : Nat} {p1 : Int32} {p2 : Int32} {e : Int32} (hS : SR sh R) (hd : 3 ≤ d) (h : f_X8_pushXFrom sh M R p1 p2 = some e) : MX yX8_pushXFrom cX8_pushXFrom 5 (some .int) d 0 0 X [.ref 6, .int p1, .int p2] sh M L R n (px_pu (some (.int e)) sh M L R n) := by
  refine MX.of (by decide +kernel) (by exact Nat.le_of_ble_eq_true rfl) ?_
  have hcu : 0 ≤ 0 := Nat.zero_le _
  have hsu : 0 ≤ 0 := Nat.zero_le _
  have g : px_pu (some (.int e)) sh M L R n (some (.int e)) sh M L R n := ⟨rfl, rfl, rfl, rfl, rfl, rfl⟩
  unfold f_X8_pushXFrom at h
  refine wx_iconst (v := 0) dX8_pushXFrom_0 (by decide) ?_
  refine wx_istore_n (lv' := [(3, _), (0, _), (1, _), (2, _)]) dX8_pushXFrom_1 (by decide) rfl ?_
  refine wx_iload_n dX8_pushXFrom_2 rfl ?_
  refine wx_istore (lv' := [(4, _), (3, _), (0, _), (1, _), (2, _)]) dX8_pushXFrom_3 (by decide) rfl ?_
  obtain ⟨e_5, k_5, h⟩ := bd1_some h
  refine wx_sub (s_X8_pushXFrom_5 hS hd hcu hsu k_5 ?_) (px_s rfl (px_s rfl (px_s rfl (px_s rfl px_0))))
  refine wx_iload_n dX8_pushXFrom_54 rfl ?_
  refine wx_iret dX8_pushXFrom_55 hcu hsu ?_
  obtain rfl := Option.some.inj h
  exact g
noncomputable def f_X8_pushX (sh : px_Sh) (M : px_M) (R : px_R) (p1 : Int32) : Option (Int32) :=
  bd1 (f_X8_pushXFrom sh M R 0 p1) fun e_3 =>
  some e_3
theorem s_X8_pushX {d : Nat} {X : Nat × (Nat → Int32)} {sh : px_Sh} {M : px_M} {L : px_L} {R : px_R} {n : Nat} {p1 : Int32} {e : Int32} (hS : SR sh R) (hd : 4 ≤ d) (h : f_X8_pushX sh M R p1 = some e) : MX yX8_pushX cX8_pushX 2 (some .int) d 0 0 X [.ref 6, .int p1] sh M L R n (px_pu (some (.int e)) sh M L R n) := by
  refine MX.of (by decide +kernel) (by exact Nat.le_of_ble_eq_true rfl) ?_
  have hcu : 0 ≤ 0 := Nat.zero_le _
  have hsu : 0 ≤ 0 := Nat.zero_le _
  have g : px_pu (some (.int e)) sh M L R n (some (.int e)) sh M L R n := ⟨rfl, rfl, rfl, rfl, rfl, rfl⟩
  unfold f_X8_pushX at h
  refine wx_aload_n dX8_pushX_0 rfl ?_
  refine wx_iconst (v := 0) dX8_pushX_1 (by decide) ?_
  refine wx_iload_n dX8_pushX_2 rfl ?_
  obtain ⟨e_3, k_3, h⟩ := bd1_some h
  refine wx_cVi dX8_pushX_3 ml_X8_54 my_X8_pushXFrom iv_X8_pushXFrom (sc_6 hS) (by decide) (s_X8_pushXFrom (d := d - 1) hS (by omega) k_3) rfl (by omega) (by exact Nat.le_of_ble_eq_true rfl) hcu hsu ?_
  refine wx_iret dX8_pushX_6 hcu hsu ?_
  obtain rfl := Option.some.inj h
  exact g
noncomputable def f_X8_arm_25 (sh : px_Sh) (M : px_M) (z0 : Int32) : Option (Int32) :=
  some z0
theorem s_X8_arm_25 {z0 : Int32} {M : px_M} {L : px_L} {R : px_R} {e : (Int32)} (hS : SR sh R) (hd : 0 ≤ d) (hcu : cu ≤ mc) (hsu : su ≤ ms) (h : f_X8_arm_25 sh M z0 = some e) (g : Post (some (.int e)) sh M L R n) : WX RX8 cX8_arm 3 (some .int) ("arm", []) d mc ms X (px_QF Post mc ms) 25 [] [.int z0] sh M L R n cu su := by
  unfold f_X8_arm_25 at h
  refine wx_iret dX8_arm_25 hcu hsu ?_
  obtain rfl := Option.some.inj h
  exact g
noncomputable def f_X8_arm (sh : px_Sh) (M : px_M) (a1 : Nat) (p2 : Int32) : Option (Int32) :=
  if p2 = 0 then
    ok (hk sh a1 5) <|
    f_X8_arm_25 sh M ((M a1 0) - (M 6 4))
  else
    ok (hk sh a1 5) <|
    f_X8_arm_25 sh M ((M a1 1) - (M 6 5))
theorem s_X8_arm {d : Nat} {X : Nat × (Nat → Int32)} {sh : px_Sh} {M : px_M} {L : px_L} {R : px_R} {n : Nat} {a1 : Nat} {p2 : Int32} {e : Int32} (hS : SR sh R) (hd : 0 ≤ d) (h : f_X8_arm sh M a1 p2 = some e) : MX yX8_arm cX8_arm 3 (some .int) d 0 0 X [.ref 6, .ref a1, .int p2] sh M L R n (px_pu (some (.int e)) sh M L R n) := by
  refine MX.of (by decide +kernel) (by exact Nat.le_of_ble_eq_true rfl) ?_
  have hcu : 0 ≤ 0 := Nat.zero_le _
  have hsu : 0 ≤ 0 := Nat.zero_le _
  have g : px_pu (some (.int e)) sh M L R n (some (.int e)) sh M L R n := ⟨rfl, rfl, rfl, rfl, rfl, rfl⟩
  unfold f_X8_arm at h
  refine wx_iload_n dX8_arm_0 rfl ?_
  refine wx_if_ne (tgt := 16) dX8_arm_1 (by decide) (fun c_1 => ?_) (fun c_1 => ?_)
  · replace h := it_f h c_1
    refine wx_aload_n dX8_arm_16 rfl ?_
    obtain ⟨ws_17, h⟩ := ok_some h
    obtain ⟨ln_17, wt_17⟩ := hk_some ws_17
    refine wx_getI dX8_arm_17 fl_X8_87 wt_17 rfl ?_
    refine wx_aload_n dX8_arm_20 rfl ?_
    refine wx_getI dX8_arm_21 fl_X8_90 (sc_6 hS) rfl ?_
    refine wx_isub dX8_arm_24 ?_
    exact wx_sub (s_X8_arm_25 hS hd hcu hsu h g) px_0
  · replace h := it_t h c_1
    refine wx_aload_n dX8_arm_4 rfl ?_
    obtain ⟨ws_5, h⟩ := ok_some h
    obtain ⟨ln_5, wt_5⟩ := hk_some ws_5
    refine wx_getI dX8_arm_5 fl_X8_81 wt_5 rfl ?_
    refine wx_aload_n dX8_arm_8 rfl ?_
    refine wx_getI dX8_arm_9 fl_X8_84 (sc_6 hS) rfl ?_
    refine wx_isub dX8_arm_12 ?_
    refine wx_goto (tgt := 25) dX8_arm_13 (by decide) ?_
    exact wx_sub (s_X8_arm_25 hS hd hcu hsu h g) px_0
noncomputable def f_X8_turnBy_5 (sh : px_Sh) (M : px_M) (R : px_R) (x1 : Int32) (x2 : Int32) (x3 : Int32) (x4 : Int32) : Option ((Int32 × Int32) ⊕ (Int32)) :=
  if (M 6 1) ≤ x4 then
    some (.inr x3)
  else
    ok (ix x4 16) <|
    bd1 (R 7 x4.toNatClampNeg) fun b_21 =>
    ok (ix x4 16) <|
    bd1 (R 7 x4.toNatClampNeg) fun b_29 =>
    ok (hk sh b_29 5) <|
    ok (hk sh b_21 5) <|
    bd1 (f_X5_press sh M b_21 x1 (M b_29 9)) fun e_33 =>
    ok (ix x4 16) <|
    bd1 (R 7 x4.toNatClampNeg) fun b_43 =>
    bd1 (f_X8_arm sh M b_43 x2) fun e_45 =>
    nm (x3 + (e_33 * e_45)) fun v_50 =>
    some (.inl (v_50, (x4 + 1)))
theorem s_X8_turnBy_5b {x1 : Int32} {x2 : Int32} {x3 : Int32} {x4 : Int32} {M : px_M} {L : px_L} {R : px_R} {e : ((Int32 × Int32) ⊕ (Int32))} (hS : SR sh R) (hd : 3 ≤ d) (hcu : cu ≤ mc) (hsu : su ≤ ms) (h : f_X8_turnBy_5 sh M R x1 x2 x3 x4 = some e) (g : (sE (fun a => WX RX8 cX8_turnBy 5 (some .int) ("turnBy", []) d mc ms X (px_QF Post mc ms) 5 [(0, .ref 6), (1, .int x1), (2, .int x2), (3, .int a.1), (4, .int a.2)] [] sh M L R n cu su) (fun t => WX RX8 cX8_turnBy 5 (some .int) ("turnBy", []) d mc ms X (px_QF Post mc ms) 57 [(3, .int t)] [] sh M L R n cu su)) e) : WX RX8 cX8_turnBy 5 (some .int) ("turnBy", []) d mc ms X (px_QF Post mc ms) 5 [(0, .ref 6), (1, .int x1), (2, .int x2), (3, .int x3), (4, .int x4)] [] sh M L R n cu su := by
  unfold f_X8_turnBy_5 at h
  refine wx_iload dX8_turnBy_5 rfl ?_
  refine wx_aload_n dX8_turnBy_7 rfl ?_
  refine wx_getI dX8_turnBy_8 fl_X8_36 (sc_6 hS) rfl ?_
  refine wx_icmp_ge (tgt := 57) dX8_turnBy_11 (by decide) (fun c_11 => ?_) (fun c_11 => ?_)
  · replace h := it_t h c_11
    obtain rfl := Option.some.inj h
    replace g := sE_r g
    exact wx_sub g (px_s rfl px_0)
  · replace h := it_f h c_11
    refine wx_iload_n dX8_turnBy_14 rfl ?_
    refine wx_aload_n dX8_turnBy_15 rfl ?_
    refine wx_getR dX8_turnBy_16 fl_X8_13 (sc_6 hS) rfl (rr_6_0 hS) ?_
    refine wx_iload dX8_turnBy_19 rfl ?_
    obtain ⟨w_21, h⟩ := ok_some h
    obtain ⟨b_21, wr_21, h⟩ := bd1_some h
    refine wx_aald dX8_turnBy_21 (sc_7 hS) (by decide) (by decide) (ix_in w_21) wr_21 ?_
    refine wx_iload_n dX8_turnBy_22 rfl ?_
    refine wx_aload_n dX8_turnBy_23 rfl ?_
    refine wx_getR dX8_turnBy_24 fl_X8_13 (sc_6 hS) rfl (rr_6_0 hS) ?_
    refine wx_iload dX8_turnBy_27 rfl ?_
    obtain ⟨w_29, h⟩ := ok_some h
    obtain ⟨b_29, wr_29, h⟩ := bd1_some h
    refine wx_aald dX8_turnBy_29 (sc_7 hS) (by decide) (by decide) (ix_in w_29) wr_29 ?_
    obtain ⟨ws_30, h⟩ := ok_some h
    obtain ⟨ln_30, wt_30⟩ := hk_some ws_30
    refine wx_getI dX8_turnBy_30 fl_X8_93 wt_30 rfl ?_
    obtain ⟨ws_33, h⟩ := ok_some h
    obtain ⟨ln_33, wt_33⟩ := hk_some ws_33
    obtain ⟨e_33, k_33, h⟩ := bd1_some h
    refine wx_cVi dX8_turnBy_33 ml_X8_96 my_X5_press iv_X5_press wt_33 (by decide) (s_X5_press (d := d - 1) hS (by omega) k_33) rfl (by omega) (by exact Nat.le_of_ble_eq_true rfl) hcu hsu ?_
    refine wx_aload_n dX8_turnBy_36 rfl ?_
    refine wx_aload_n dX8_turnBy_37 rfl ?_
    refine wx_getR dX8_turnBy_38 fl_X8_13 (sc_6 hS) rfl (rr_6_0 hS) ?_
    refine wx_iload dX8_turnBy_41 rfl ?_
    obtain ⟨w_43, h⟩ := ok_some h
    obtain ⟨b_43, wr_43, h⟩ := bd1_some h
    refine wx_aald dX8_turnBy_43 (sc_7 hS) (by decide) (by decide) (ix_in w_43) wr_43 ?_
    refine wx_iload_n dX8_turnBy_44 rfl ?_
    obtain ⟨e_45, k_45, h⟩ := bd1_some h
    refine wx_cVi dX8_turnBy_45 ml_X8_99 my_X8_arm iv_X8_arm (sc_6 hS) (by decide) (s_X8_arm (d := d - 1) hS (by omega) k_45) rfl (by omega) (by exact Nat.le_of_ble_eq_true rfl) hcu hsu ?_
    refine wx_imul dX8_turnBy_48 ?_
    refine wx_iadd dX8_turnBy_49 ?_
    refine wx_nami (fun v_50 q_50 => ?_)
    replace h := nm_at h q_50
    refine wx_istore_n (lv' := [(3, _), (0, _), (1, _), (2, _), (4, _)]) dX8_turnBy_50 (by decide) rfl ?_
    refine wx_iinc (lv' := [(4, _), (3, _), (0, _), (1, _), (2, _)]) dX8_turnBy_51 rfl (i_1 _) (by decide) rfl ?_
    refine wx_goto (tgt := 5) dX8_turnBy_54 (by decide) ?_
    obtain rfl := Option.some.inj h
    replace g := sE_l g
    exact wx_sub g (px_s rfl (px_s rfl (px_s rfl (px_s rfl (px_s rfl px_0)))))
theorem s_X8_turnBy_5 {x1 : Int32} {x2 : Int32} {x3 : Int32} {x4 : Int32} {M : px_M} {L : px_L} {R : px_R} {e : (Int32)} (hS : SR sh R) (hd : 3 ≤ d) (hcu : cu ≤ mc) (hsu : su ≤ ms) (h : lpf (fun a : Int32 × Int32 => f_X8_turnBy_5 sh M R x1 x2 a.1 a.2) (x3, x4) = some e) (g : WX RX8 cX8_turnBy 5 (some .int) ("turnBy", []) d mc ms X (px_QF Post mc ms) 57 [(3, .int e)] [] sh M L R n cu su) : WX RX8 cX8_turnBy 5 (some .int) ("turnBy", []) d mc ms X (px_QF Post mc ms) 5 [(0, .ref 6), (1, .int x1), (2, .int x2), (3, .int x3), (4, .int x4)] [] sh M L R n cu su := by
  have key := lpf_wp (P := (fun a => WX RX8 cX8_turnBy 5 (some .int) ("turnBy", []) d mc ms X (px_QF Post mc ms) 5 [(0, .ref 6), (1, .int x1), (2, .int x2), (3, .int a.1), (4, .int a.2)] [] sh M L R n cu su)) (G := (fun t => WX RX8 cX8_turnBy 5 (some .int) ("turnBy", []) d mc ms X (px_QF Post mc ms) 57 [(3, .int t)] [] sh M L R n cu su)) (fun a r h g => s_X8_turnBy_5b (x1 := x1) (x2 := x2) (x3 := a.1) (x4 := a.2) (M := M) (L := L) (R := R) hS hd hcu hsu h g) (a := (x3, x4)) h g
  exact key
noncomputable def f_X8_turnBy (sh : px_Sh) (M : px_M) (R : px_R) (p1 : Int32) (p2 : Int32) : Option (Int32) :=
  bd1 (lpf (fun a : Int32 × Int32 => f_X8_turnBy_5 sh M R p1 p2 a.1 a.2) (0, 0)) fun e_5 =>
  some e_5
theorem s_X8_turnBy {d : Nat} {X : Nat × (Nat → Int32)} {sh : px_Sh} {M : px_M} {L : px_L} {R : px_R} {n : Nat} {p1 : Int32} {p2 : Int32} {e : Int32} (hS : SR sh R) (hd : 3 ≤ d) (h : f_X8_turnBy sh M R p1 p2 = some e) : MX yX8_turnBy cX8_turnBy 5 (some .int) d 0 0 X [.ref 6, .int p1, .int p2] sh M L R n (px_pu (some (.int e)) sh M L R n) := by
  refine MX.of (by decide +kernel) (by exact Nat.le_of_ble_eq_true rfl) ?_
  have hcu : 0 ≤ 0 := Nat.zero_le _
  have hsu : 0 ≤ 0 := Nat.zero_le _
  have g : px_pu (some (.int e)) sh M L R n (some (.int e)) sh M L R n := ⟨rfl, rfl, rfl, rfl, rfl, rfl⟩
  unfold f_X8_turnBy at h
  refine wx_iconst (v := 0) dX8_turnBy_0 (by decide) ?_
  refine wx_istore_n (lv' := [(3, _), (0, _), (1, _), (2, _)]) dX8_turnBy_1 (by decide) rfl ?_
  refine wx_iconst (v := 0) dX8_turnBy_2 (by decide) ?_
  refine wx_istore (lv' := [(4, _), (3, _), (0, _), (1, _), (2, _)]) dX8_turnBy_3 (by decide) rfl ?_
  obtain ⟨e_5, k_5, h⟩ := bd1_some h
  refine wx_sub (s_X8_turnBy_5 hS hd hcu hsu k_5 ?_) (px_s rfl (px_s rfl (px_s rfl (px_s rfl (px_s rfl px_0)))))
  refine wx_iload_n dX8_turnBy_57 rfl ?_
  refine wx_iret dX8_turnBy_58 hcu hsu ?_
  obtain rfl := Option.some.inj h
  exact g
noncomputable def f_X8_sumUpRest_88 (sh : px_Sh) (M : px_M) (R : px_R) (x1 : Int32) (x2 : Int32) : Option ((Int32 × px_M) ⊕ (px_M)) :=
  some (.inl ((x2 + 1), M))
theorem s_X8_sumUpRest_88 {x1 : Int32} {x2 : Int32} {M : px_M} {L : px_L} {R : px_R} {e : ((Int32 × px_M) ⊕ (px_M))} (hS : SR sh R) (hd : 3 ≤ d) (hcu : cu ≤ mc) (hsu : su ≤ ms) (h : f_X8_sumUpRest_88 sh M R x1 x2 = some e) (g : (sE (fun a => WX RX8 cX8_sumUpRest 4 none ("sumUpRest", []) d mc ms X (px_QF Post mc ms) 12 [(0, .ref 6), (1, .int x1), (2, .int a.1)] [] sh (a.2) L R n cu su) (fun t => WX RX8 cX8_sumUpRest 4 none ("sumUpRest", []) d mc ms X (px_QF Post mc ms) 94 [] [] sh t L R n cu su)) e) : WX RX8 cX8_sumUpRest 4 none ("sumUpRest", []) d mc ms X (px_QF Post mc ms) 88 [(0, .ref 6), (1, .int x1), (2, .int x2)] [] sh M L R n cu su := by
  unfold f_X8_sumUpRest_88 at h
  refine wx_iinc (lv' := [(2, _), (0, _), (1, _)]) dX8_sumUpRest_88 rfl (i_1 _) (by decide) rfl ?_
  refine wx_goto (tgt := 12) dX8_sumUpRest_91 (by decide) ?_
  obtain rfl := Option.some.inj h
  replace g := sE_l g
  exact wx_sub g (px_s rfl (px_s rfl (px_s rfl px_0)))
noncomputable def f_X8_sumUpRest_12 (sh : px_Sh) (M : px_M) (R : px_R) (x1 : Int32) (x2 : Int32) : Option ((Int32 × px_M) ⊕ (px_M)) :=
  if (M 6 1) ≤ x2 then
    some (.inr M)
  else
    ok (ix x2 16) <|
    bd1 (R 7 x2.toNatClampNeg) fun b_25 =>
    ok (hk sh b_25 5) <|
    if (M b_25 8) = 0 then
      ok (ix x2 16) <|
      bd1 (R 7 x2.toNatClampNeg) fun b_37 =>
      ok (hk sh b_37 5) <|
      bd1 (f_X5_press sh M b_37 x1 0) fun e_40 =>
      ok (ix x2 16) <|
      bd1 (R 7 x2.toNatClampNeg) fun b_56 =>
      bd1 (f_X8_arm sh M b_56 0) fun e_58 =>
      nm ((M 6 11) + (e_40 * e_58)) fun v_63 =>
      nm (px_u M 6 11 v_63) fun M_63 =>
      ok (ix x2 16) <|
      bd1 (R 7 x2.toNatClampNeg) fun b_78 =>
      bd1 (f_X8_arm sh M_63 b_78 1) fun e_80 =>
      nm ((M_63 6 12) + (e_40 * e_80)) fun v_85 =>
      nm (px_u M_63 6 12 v_85) fun M_85 =>
      f_X8_sumUpRest_88 sh M_85 R x1 x2
    else
      f_X8_sumUpRest_88 sh M R x1 x2
theorem s_X8_sumUpRest_12b {x1 : Int32} {x2 : Int32} {M : px_M} {L : px_L} {R : px_R} {e : ((Int32 × px_M) ⊕ (px_M))} (hS : SR sh R) (hd : 3 ≤ d) (hcu : cu ≤ mc) (hsu : su ≤ ms) (h : f_X8_sumUpRest_12 sh M R x1 x2 = some e) (g : (sE (fun a => WX RX8 cX8_sumUpRest 4 none ("sumUpRest", []) d mc ms X (px_QF Post mc ms) 12 [(0, .ref 6), (1, .int x1), (2, .int a.1)] [] sh (a.2) L R n cu su) (fun t => WX RX8 cX8_sumUpRest 4 none ("sumUpRest", []) d mc ms X (px_QF Post mc ms) 94 [] [] sh t L R n cu su)) e) : WX RX8 cX8_sumUpRest 4 none ("sumUpRest", []) d mc ms X (px_QF Post mc ms) 12 [(0, .ref 6), (1, .int x1), (2, .int x2)] [] sh M L R n cu su := by
  unfold f_X8_sumUpRest_12 at h
  refine wx_iload_n dX8_sumUpRest_12 rfl ?_
  refine wx_aload_n dX8_sumUpRest_13 rfl ?_
  refine wx_getI dX8_sumUpRest_14 fl_X8_36 (sc_6 hS) rfl ?_
  refine wx_icmp_ge (tgt := 94) dX8_sumUpRest_17 (by decide) (fun c_17 => ?_) (fun c_17 => ?_)
  · replace h := it_t h c_17
    obtain rfl := Option.some.inj h
    replace g := sE_r g
    exact wx_sub g px_0
  · replace h := it_f h c_17
    refine wx_aload_n dX8_sumUpRest_20 rfl ?_
    refine wx_getR dX8_sumUpRest_21 fl_X8_13 (sc_6 hS) rfl (rr_6_0 hS) ?_
    refine wx_iload_n dX8_sumUpRest_24 rfl ?_
    obtain ⟨w_25, h⟩ := ok_some h
    obtain ⟨b_25, wr_25, h⟩ := bd1_some h
    refine wx_aald dX8_sumUpRest_25 (sc_7 hS) (by decide) (by decide) (ix_in w_25) wr_25 ?_
    obtain ⟨ws_26, h⟩ := ok_some h
    obtain ⟨ln_26, wt_26⟩ := hk_some ws_26
    refine wx_getI dX8_sumUpRest_26 fl_X8_50 wt_26 rfl ?_
    refine wx_if_ne (tgt := 88) dX8_sumUpRest_29 (by decide) (fun c_29 => ?_) (fun c_29 => ?_)
    · replace h := it_f h c_29
      exact wx_sub (s_X8_sumUpRest_88 hS hd hcu hsu h g) (px_s rfl (px_s rfl (px_s rfl px_0)))
    · replace h := it_t h c_29
      refine wx_aload_n dX8_sumUpRest_32 rfl ?_
      refine wx_getR dX8_sumUpRest_33 fl_X8_13 (sc_6 hS) rfl (rr_6_0 hS) ?_
      refine wx_iload_n dX8_sumUpRest_36 rfl ?_
      obtain ⟨w_37, h⟩ := ok_some h
      obtain ⟨b_37, wr_37, h⟩ := bd1_some h
      refine wx_aald dX8_sumUpRest_37 (sc_7 hS) (by decide) (by decide) (ix_in w_37) wr_37 ?_
      refine wx_iload_n dX8_sumUpRest_38 rfl ?_
      refine wx_iconst (v := 0) dX8_sumUpRest_39 (by decide) ?_
      obtain ⟨ws_40, h⟩ := ok_some h
      obtain ⟨ln_40, wt_40⟩ := hk_some ws_40
      obtain ⟨e_40, k_40, h⟩ := bd1_some h
      refine wx_cVi dX8_sumUpRest_40 ml_X8_96 my_X5_press iv_X5_press wt_40 (by decide) (s_X5_press (d := d - 1) hS (by omega) k_40) rfl (by omega) (by exact Nat.le_of_ble_eq_true rfl) hcu hsu ?_
      refine wx_istore_n (lv' := [(3, _), (0, _), (1, _), (2, _)]) dX8_sumUpRest_43 (by decide) rfl ?_
      refine wx_aload_n dX8_sumUpRest_44 rfl ?_
      refine wx_dup dX8_sumUpRest_45 rfl ?_
      refine wx_getI dX8_sumUpRest_46 fl_X8_113 (sc_6 hS) rfl ?_
      refine wx_iload_n dX8_sumUpRest_49 rfl ?_
      refine wx_aload_n dX8_sumUpRest_50 rfl ?_
      refine wx_aload_n dX8_sumUpRest_51 rfl ?_
      refine wx_getR dX8_sumUpRest_52 fl_X8_13 (sc_6 hS) rfl (rr_6_0 hS) ?_
      refine wx_iload_n dX8_sumUpRest_55 rfl ?_
      obtain ⟨w_56, h⟩ := ok_some h
      obtain ⟨b_56, wr_56, h⟩ := bd1_some h
      refine wx_aald dX8_sumUpRest_56 (sc_7 hS) (by decide) (by decide) (ix_in w_56) wr_56 ?_
      refine wx_iconst (v := 0) dX8_sumUpRest_57 (by decide) ?_
      obtain ⟨e_58, k_58, h⟩ := bd1_some h
      refine wx_cVi dX8_sumUpRest_58 ml_X8_99 my_X8_arm iv_X8_arm (sc_6 hS) (by decide) (s_X8_arm (d := d - 1) hS (by omega) k_58) rfl (by omega) (by exact Nat.le_of_ble_eq_true rfl) hcu hsu ?_
      refine wx_imul dX8_sumUpRest_61 ?_
      refine wx_iadd dX8_sumUpRest_62 ?_
      refine wx_nami (fun v_63 q_63 => ?_)
      replace h := nm_at h q_63
      refine wx_putI dX8_sumUpRest_63 fl_X8_113 (sc_6 hS) (Or.inl rfl) rfl ⟨rfl, rfl⟩ ?_
      refine wx_namM (fun M_63 q_63 => ?_)
      replace h := nm_at h q_63
      refine wx_aload_n dX8_sumUpRest_66 rfl ?_
      refine wx_dup dX8_sumUpRest_67 rfl ?_
      refine wx_getI dX8_sumUpRest_68 fl_X8_122 (sc_6 hS) rfl ?_
      refine wx_iload_n dX8_sumUpRest_71 rfl ?_
      refine wx_aload_n dX8_sumUpRest_72 rfl ?_
      refine wx_aload_n dX8_sumUpRest_73 rfl ?_
      refine wx_getR dX8_sumUpRest_74 fl_X8_13 (sc_6 hS) rfl (rr_6_0 hS) ?_
      refine wx_iload_n dX8_sumUpRest_77 rfl ?_
      obtain ⟨w_78, h⟩ := ok_some h
      obtain ⟨b_78, wr_78, h⟩ := bd1_some h
      refine wx_aald dX8_sumUpRest_78 (sc_7 hS) (by decide) (by decide) (ix_in w_78) wr_78 ?_
      refine wx_iconst (v := 1) dX8_sumUpRest_79 (by decide) ?_
      obtain ⟨e_80, k_80, h⟩ := bd1_some h
      refine wx_cVi dX8_sumUpRest_80 ml_X8_99 my_X8_arm iv_X8_arm (sc_6 hS) (by decide) (s_X8_arm (d := d - 1) hS (by omega) k_80) rfl (by omega) (by exact Nat.le_of_ble_eq_true rfl) hcu hsu ?_
      refine wx_imul dX8_sumUpRest_83 ?_
      refine wx_iadd dX8_sumUpRest_84 ?_
      refine wx_nami (fun v_85 q_85 => ?_)
      replace h := nm_at h q_85
      refine wx_putI dX8_sumUpRest_85 fl_X8_122 (sc_6 hS) (Or.inl rfl) rfl ⟨rfl, rfl⟩ ?_
      refine wx_namM (fun M_85 q_85 => ?_)
      replace h := nm_at h q_85
      exact wx_sub (s_X8_sumUpRest_88 hS hd hcu hsu h g) (px_s rfl (px_s rfl (px_s rfl px_0)))
theorem s_X8_sumUpRest_12 {x1 : Int32} {x2 : Int32} {M : px_M} {L : px_L} {R : px_R} {e : (px_M)} (hS : SR sh R) (hd : 3 ≤ d) (hcu : cu ≤ mc) (hsu : su ≤ ms) (h : lpf (fun a : Int32 × px_M => f_X8_sumUpRest_12 sh a.2 R x1 a.1) (x2, M) = some e) (g : WX RX8 cX8_sumUpRest 4 none ("sumUpRest", []) d mc ms X (px_QF Post mc ms) 94 [] [] sh e L R n cu su) : WX RX8 cX8_sumUpRest 4 none ("sumUpRest", []) d mc ms X (px_QF Post mc ms) 12 [(0, .ref 6), (1, .int x1), (2, .int x2)] [] sh M L R n cu su := by
  have key := lpf_wp (P := (fun a => WX RX8 cX8_sumUpRest 4 none ("sumUpRest", []) d mc ms X (px_QF Post mc ms) 12 [(0, .ref 6), (1, .int x1), (2, .int a.1)] [] sh (a.2) L R n cu su)) (G := (fun t => WX RX8 cX8_sumUpRest 4 none ("sumUpRest", []) d mc ms X (px_QF Post mc ms) 94 [] [] sh t L R n cu su)) (fun a r h g => s_X8_sumUpRest_12b (x1 := x1) (x2 := a.1) (M := a.2) (L := L) (R := R) hS hd hcu hsu h g) (a := (x2, M)) h g
  exact key
noncomputable def f_X8_sumUpRest (sh : px_Sh) (M : px_M) (R : px_R) (p1 : Int32) : Option (px_M) :=
  nm (px_u M 6 11 0) fun M_2 =>
  nm (px_u M_2 6 12 0) fun M_7 =>
  bd1 (lpf (fun a : Int32 × px_M => f_X8_sumUpRest_12 sh a.2 R p1 a.1) (0, M_7)) fun e_12 =>
  some e_12
theorem s_X8_sumUpRest {d : Nat} {X : Nat × (Nat → Int32)} {sh : px_Sh} {M : px_M} {L : px_L} {R : px_R} {n : Nat} {p1 : Int32} {e : px_M} (hS : SR sh R) (hd : 3 ≤ d) (h : f_X8_sumUpRest sh M R p1 = some e) : MX yX8_sumUpRest cX8_sumUpRest 4 none d 0 0 X [.ref 6, .int p1] sh M L R n (px_pu none sh e L R n) := by
  refine MX.of (by decide +kernel) (by exact Nat.le_of_ble_eq_true rfl) ?_
  have hcu : 0 ≤ 0 := Nat.zero_le _
  have hsu : 0 ≤ 0 := Nat.zero_le _
  have g : px_pu none sh e L R n none sh e L R n := ⟨rfl, rfl, rfl, rfl, rfl, rfl⟩
  unfold f_X8_sumUpRest at h
  refine wx_aload_n dX8_sumUpRest_0 rfl ?_
  refine wx_iconst (v := 0) dX8_sumUpRest_1 (by decide) ?_
  refine wx_putI dX8_sumUpRest_2 fl_X8_113 (sc_6 hS) (Or.inl rfl) rfl ⟨rfl, rfl⟩ ?_
  refine wx_namM (fun M_2 q_2 => ?_)
  replace h := nm_at h q_2
  refine wx_aload_n dX8_sumUpRest_5 rfl ?_
  refine wx_iconst (v := 0) dX8_sumUpRest_6 (by decide) ?_
  refine wx_putI dX8_sumUpRest_7 fl_X8_122 (sc_6 hS) (Or.inl rfl) rfl ⟨rfl, rfl⟩ ?_
  refine wx_namM (fun M_7 q_7 => ?_)
  replace h := nm_at h q_7
  refine wx_iconst (v := 0) dX8_sumUpRest_10 (by decide) ?_
  refine wx_istore_n (lv' := [(2, _), (0, _), (1, _)]) dX8_sumUpRest_11 (by decide) rfl ?_
  obtain ⟨e_12, k_12, h⟩ := bd1_some h
  refine wx_sub (s_X8_sumUpRest_12 hS hd hcu hsu k_12 ?_) (px_s rfl (px_s rfl (px_s rfl px_0)))
  refine wx_vret dX8_sumUpRest_94 hcu hsu ?_
  obtain rfl := Option.some.inj h
  exact g
noncomputable def f_X8_tableFlaps_76 (sh : px_Sh) (M : px_M) (R : px_R) (x1 : Int32) (x2 : Int32) (a3 : Nat) (x4 : Int32) : Option ((Int32 × px_M) ⊕ (px_M)) :=
  if 2 < x4 then
    some (.inr M)
  else
    ok (hk sh a3 5) <|
    bd1 (f_X5_press sh M a3 x1 x4) fun e_98 =>
    ok (ix (((x2 * 5) + x4) + 2) 20) <|
    nm (px_u M 13 (((x2 * 5) + x4) + 2).toNatClampNeg e_98) fun M_101 =>
    some (.inl ((x4 + 1), M_101))
theorem s_X8_tableFlaps_76b {x1 : Int32} {x2 : Int32} {a3 : Nat} {x4 : Int32} {M : px_M} {L : px_L} {R : px_R} {e : ((Int32 × px_M) ⊕ (px_M))} (hS : SR sh R) (hd : 3 ≤ d) (hcu : cu ≤ mc) (hsu : su ≤ ms) (h : f_X8_tableFlaps_76 sh M R x1 x2 a3 x4 = some e) (g : (sE (fun a => WX RX8 cX8_tableFlaps 5 none ("tableFlaps", []) d mc ms X (px_QF Post mc ms) 76 [(0, .ref 6), (1, .int x1), (2, .int x2), (3, .ref a3), (4, .int a.1)] [] sh (a.2) L R n cu su) (fun t => WX RX8 cX8_tableFlaps 5 none ("tableFlaps", []) d mc ms X (px_QF Post mc ms) 108 [(0, .ref 6), (1, .int x1), (2, .int x2)] [] sh t L R n cu su)) e) : WX RX8 cX8_tableFlaps 5 none ("tableFlaps", []) d mc ms X (px_QF Post mc ms) 76 [(0, .ref 6), (1, .int x1), (2, .int x2), (3, .ref a3), (4, .int x4)] [] sh M L R n cu su := by
  unfold f_X8_tableFlaps_76 at h
  refine wx_iload dX8_tableFlaps_76 rfl ?_
  refine wx_iconst (v := 2) dX8_tableFlaps_78 (by decide) ?_
  refine wx_icmp_gt (tgt := 108) dX8_tableFlaps_79 (by decide) (fun c_79 => ?_) (fun c_79 => ?_)
  · replace h := it_t h c_79
    obtain rfl := Option.some.inj h
    replace g := sE_r g
    exact wx_sub g (px_s rfl (px_s rfl (px_s rfl px_0)))
  · replace h := it_f h c_79
    refine wx_aload_n dX8_tableFlaps_82 rfl ?_
    refine wx_getR dX8_tableFlaps_83 fl_X8_33 (sc_6 hS) rfl (rr_6_10 hS) ?_
    refine wx_iload_n dX8_tableFlaps_86 rfl ?_
    refine wx_iconst (v := 5) dX8_tableFlaps_87 (by decide) ?_
    refine wx_imul dX8_tableFlaps_88 ?_
    refine wx_iload dX8_tableFlaps_89 rfl ?_
    refine wx_iadd dX8_tableFlaps_91 ?_
    refine wx_iconst (v := 2) dX8_tableFlaps_92 (by decide) ?_
    refine wx_iadd dX8_tableFlaps_93 ?_
    refine wx_aload_n dX8_tableFlaps_94 rfl ?_
    refine wx_iload_n dX8_tableFlaps_95 rfl ?_
    refine wx_iload dX8_tableFlaps_96 rfl ?_
    obtain ⟨ws_98, h⟩ := ok_some h
    obtain ⟨ln_98, wt_98⟩ := hk_some ws_98
    obtain ⟨e_98, k_98, h⟩ := bd1_some h
    refine wx_cVi dX8_tableFlaps_98 ml_X8_96 my_X5_press iv_X5_press wt_98 (by decide) (s_X5_press (d := d - 1) hS (by omega) k_98) rfl (by omega) (by exact Nat.le_of_ble_eq_true rfl) hcu hsu ?_
    obtain ⟨w_101, h⟩ := ok_some h
    refine wx_iast dX8_tableFlaps_101 (sc_13 hS) (ix_in w_101) ?_
    refine wx_namM (fun M_101 q_101 => ?_)
    replace h := nm_at h q_101
    refine wx_iinc (lv' := [(4, _), (0, _), (1, _), (2, _), (3, _)]) dX8_tableFlaps_102 rfl (i_1 _) (by decide) rfl ?_
    refine wx_goto (tgt := 76) dX8_tableFlaps_105 (by decide) ?_
    obtain rfl := Option.some.inj h
    replace g := sE_l g
    exact wx_sub g (px_s rfl (px_s rfl (px_s rfl (px_s rfl (px_s rfl px_0)))))
theorem s_X8_tableFlaps_76 {x1 : Int32} {x2 : Int32} {a3 : Nat} {x4 : Int32} {M : px_M} {L : px_L} {R : px_R} {e : (px_M)} (hS : SR sh R) (hd : 3 ≤ d) (hcu : cu ≤ mc) (hsu : su ≤ ms) (h : lpf (fun a : Int32 × px_M => f_X8_tableFlaps_76 sh a.2 R x1 x2 a3 a.1) (x4, M) = some e) (g : WX RX8 cX8_tableFlaps 5 none ("tableFlaps", []) d mc ms X (px_QF Post mc ms) 108 [(0, .ref 6), (1, .int x1), (2, .int x2)] [] sh e L R n cu su) : WX RX8 cX8_tableFlaps 5 none ("tableFlaps", []) d mc ms X (px_QF Post mc ms) 76 [(0, .ref 6), (1, .int x1), (2, .int x2), (3, .ref a3), (4, .int x4)] [] sh M L R n cu su := by
  have key := lpf_wp (P := (fun a => WX RX8 cX8_tableFlaps 5 none ("tableFlaps", []) d mc ms X (px_QF Post mc ms) 76 [(0, .ref 6), (1, .int x1), (2, .int x2), (3, .ref a3), (4, .int a.1)] [] sh (a.2) L R n cu su)) (G := (fun t => WX RX8 cX8_tableFlaps 5 none ("tableFlaps", []) d mc ms X (px_QF Post mc ms) 108 [(0, .ref 6), (1, .int x1), (2, .int x2)] [] sh t L R n cu su)) (fun a r h g => s_X8_tableFlaps_76b (x1 := x1) (x2 := x2) (a3 := a3) (x4 := a.1) (M := a.2) (L := L) (R := R) hS hd hcu hsu h g) (a := (x4, M)) h g
  exact key
noncomputable def f_X8_tableFlaps_59 (sh : px_Sh) (M : px_M) (R : px_R) (x1 : Int32) (x2 : Int32) (a3 : Nat) (z0 : Int32) (z1 : Int32) : Option ((Int32 × px_M) ⊕ (px_M)) :=
  ok (ix z1 4) <|
  nm (px_u M 12 z1.toNatClampNeg z0) fun M_59 =>
  ok (ix x2 4) <|
  nm (M_59 11 x2.toNatClampNeg) fun v_71 =>
  ok (ix x2 4) <|
  nm (px_u M_59 10 x2.toNatClampNeg v_71) fun M_71 =>
  bd1 (lpf (fun a : Int32 × px_M => f_X8_tableFlaps_76 sh a.2 R x1 x2 a3 a.1) ((-2), M_71)) fun e_76 =>
  some (.inl ((x2 + 1), e_76))
theorem s_X8_tableFlaps_59 {x1 : Int32} {x2 : Int32} {a3 : Nat} {z0 : Int32} {z1 : Int32} {M : px_M} {L : px_L} {R : px_R} {e : ((Int32 × px_M) ⊕ (px_M))} (hS : SR sh R) (hd : 3 ≤ d) (hcu : cu ≤ mc) (hsu : su ≤ ms) (h : f_X8_tableFlaps_59 sh M R x1 x2 a3 z0 z1 = some e) (g : (sE (fun a => WX RX8 cX8_tableFlaps 5 none ("tableFlaps", []) d mc ms X (px_QF Post mc ms) 2 [(0, .ref 6), (1, .int x1), (2, .int a.1)] [] sh (a.2) L R n cu su) (fun t => WX RX8 cX8_tableFlaps 5 none ("tableFlaps", []) d mc ms X (px_QF Post mc ms) 114 [] [] sh t L R n cu su)) e) : WX RX8 cX8_tableFlaps 5 none ("tableFlaps", []) d mc ms X (px_QF Post mc ms) 59 [(0, .ref 6), (1, .int x1), (2, .int x2), (3, .ref a3)] [.int z0, .int z1, .ref 12] sh M L R n cu su := by
  unfold f_X8_tableFlaps_59 at h
  obtain ⟨w_59, h⟩ := ok_some h
  refine wx_iast dX8_tableFlaps_59 (sc_12 hS) (ix_in w_59) ?_
  refine wx_namM (fun M_59 q_59 => ?_)
  replace h := nm_at h q_59
  refine wx_aload_n dX8_tableFlaps_60 rfl ?_
  refine wx_getR dX8_tableFlaps_61 fl_X8_24 (sc_6 hS) rfl (rr_6_7 hS) ?_
  refine wx_iload_n dX8_tableFlaps_64 rfl ?_
  refine wx_aload_n dX8_tableFlaps_65 rfl ?_
  refine wx_getR dX8_tableFlaps_66 fl_X8_27 (sc_6 hS) rfl (rr_6_8 hS) ?_
  refine wx_iload_n dX8_tableFlaps_69 rfl ?_
  obtain ⟨w_70, h⟩ := ok_some h
  refine wx_iald dX8_tableFlaps_70 (sc_11 hS) (ix_in w_70) ?_
  refine wx_nami (fun v_71 q_71 => ?_)
  replace h := nm_at h q_71
  obtain ⟨w_71, h⟩ := ok_some h
  refine wx_iast dX8_tableFlaps_71 (sc_10 hS) (ix_in w_71) ?_
  refine wx_namM (fun M_71 q_71 => ?_)
  replace h := nm_at h q_71
  refine wx_bipush (v := (-2)) dX8_tableFlaps_72 (by decide) ?_
  refine wx_istore (lv' := [(4, _), (0, _), (1, _), (2, _), (3, _)]) dX8_tableFlaps_74 (by decide) rfl ?_
  obtain ⟨e_76, k_76, h⟩ := bd1_some h
  refine wx_sub (s_X8_tableFlaps_76 hS hd hcu hsu k_76 ?_) (px_s rfl (px_s rfl (px_s rfl (px_s rfl (px_s rfl px_0)))))
  refine wx_iinc (lv' := [(2, _), (0, _), (1, _)]) dX8_tableFlaps_108 rfl (i_1 _) (by decide) rfl ?_
  refine wx_goto (tgt := 2) dX8_tableFlaps_111 (by decide) ?_
  obtain rfl := Option.some.inj h
  replace g := sE_l g
  exact wx_sub g (px_s rfl (px_s rfl (px_s rfl px_0)))
noncomputable def f_X8_tableFlaps_38 (sh : px_Sh) (M : px_M) (R : px_R) (x1 : Int32) (x2 : Int32) (a3 : Nat) (z0 : Int32) (z1 : Int32) : Option ((Int32 × px_M) ⊕ (px_M)) :=
  ok (ix z1 4) <|
  nm (px_u M 11 z1.toNatClampNeg z0) fun M_38 =>
  ok (hk sh a3 5) <|
  if (M_38 a3 10) = 0 then
    f_X8_tableFlaps_59 sh M_38 R x1 x2 a3 2 x2
  else
    ok (hk sh a3 5) <|
    f_X8_tableFlaps_59 sh M_38 R x1 x2 a3 (M_38 a3 9) x2
theorem s_X8_tableFlaps_38 {x1 : Int32} {x2 : Int32} {a3 : Nat} {z0 : Int32} {z1 : Int32} {M : px_M} {L : px_L} {R : px_R} {e : ((Int32 × px_M) ⊕ (px_M))} (hS : SR sh R) (hd : 3 ≤ d) (hcu : cu ≤ mc) (hsu : su ≤ ms) (h : f_X8_tableFlaps_38 sh M R x1 x2 a3 z0 z1 = some e) (g : (sE (fun a => WX RX8 cX8_tableFlaps 5 none ("tableFlaps", []) d mc ms X (px_QF Post mc ms) 2 [(0, .ref 6), (1, .int x1), (2, .int a.1)] [] sh (a.2) L R n cu su) (fun t => WX RX8 cX8_tableFlaps 5 none ("tableFlaps", []) d mc ms X (px_QF Post mc ms) 114 [] [] sh t L R n cu su)) e) : WX RX8 cX8_tableFlaps 5 none ("tableFlaps", []) d mc ms X (px_QF Post mc ms) 38 [(0, .ref 6), (1, .int x1), (2, .int x2), (3, .ref a3)] [.int z0, .int z1, .ref 11] sh M L R n cu su := by
  unfold f_X8_tableFlaps_38 at h
  obtain ⟨w_38, h⟩ := ok_some h
  refine wx_iast dX8_tableFlaps_38 (sc_11 hS) (ix_in w_38) ?_
  refine wx_namM (fun M_38 q_38 => ?_)
  replace h := nm_at h q_38
  refine wx_aload_n dX8_tableFlaps_39 rfl ?_
  refine wx_getR dX8_tableFlaps_40 fl_X8_30 (sc_6 hS) rfl (rr_6_9 hS) ?_
  refine wx_iload_n dX8_tableFlaps_43 rfl ?_
  refine wx_aload_n dX8_tableFlaps_44 rfl ?_
  obtain ⟨ws_45, h⟩ := ok_some h
  obtain ⟨ln_45, wt_45⟩ := hk_some ws_45
  refine wx_getI dX8_tableFlaps_45 fl_X8_135 wt_45 rfl ?_
  refine wx_if_eq (tgt := 58) dX8_tableFlaps_48 (by decide) (fun c_48 => ?_) (fun c_48 => ?_)
  · replace h := it_t h c_48
    refine wx_iconst (v := 2) dX8_tableFlaps_58 (by decide) ?_
    exact wx_sub (s_X8_tableFlaps_59 hS hd hcu hsu h g) (px_s rfl (px_s rfl (px_s rfl (px_s rfl px_0))))
  · replace h := it_f h c_48
    refine wx_aload_n dX8_tableFlaps_51 rfl ?_
    obtain ⟨ws_52, h⟩ := ok_some h
    obtain ⟨ln_52, wt_52⟩ := hk_some ws_52
    refine wx_getI dX8_tableFlaps_52 fl_X8_93 wt_52 rfl ?_
    refine wx_goto (tgt := 59) dX8_tableFlaps_55 (by decide) ?_
    exact wx_sub (s_X8_tableFlaps_59 hS hd hcu hsu h g) (px_s rfl (px_s rfl (px_s rfl (px_s rfl px_0))))
noncomputable def f_X8_tableFlaps_2 (sh : px_Sh) (M : px_M) (R : px_R) (x1 : Int32) (x2 : Int32) : Option ((Int32 × px_M) ⊕ (px_M)) :=
  if (M 6 3) ≤ x2 then
    some (.inr M)
  else
    ok (ix x2 4) <|
    bd1 (R 8 x2.toNatClampNeg) fun b_15 =>
    ok (hk sh b_15 5) <|
    if (M b_15 10) = 0 then
      f_X8_tableFlaps_38 sh M R x1 x2 b_15 (-2) x2
    else
      ok (hk sh b_15 5) <|
      f_X8_tableFlaps_38 sh M R x1 x2 b_15 (M b_15 9) x2
theorem s_X8_tableFlaps_2b {x1 : Int32} {x2 : Int32} {M : px_M} {L : px_L} {R : px_R} {e : ((Int32 × px_M) ⊕ (px_M))} (hS : SR sh R) (hd : 3 ≤ d) (hcu : cu ≤ mc) (hsu : su ≤ ms) (h : f_X8_tableFlaps_2 sh M R x1 x2 = some e) (g : (sE (fun a => WX RX8 cX8_tableFlaps 5 none ("tableFlaps", []) d mc ms X (px_QF Post mc ms) 2 [(0, .ref 6), (1, .int x1), (2, .int a.1)] [] sh (a.2) L R n cu su) (fun t => WX RX8 cX8_tableFlaps 5 none ("tableFlaps", []) d mc ms X (px_QF Post mc ms) 114 [] [] sh t L R n cu su)) e) : WX RX8 cX8_tableFlaps 5 none ("tableFlaps", []) d mc ms X (px_QF Post mc ms) 2 [(0, .ref 6), (1, .int x1), (2, .int x2)] [] sh M L R n cu su := by
  unfold f_X8_tableFlaps_2 at h
  refine wx_iload_n dX8_tableFlaps_2 rfl ?_
  refine wx_aload_n dX8_tableFlaps_3 rfl ?_
  refine wx_getI dX8_tableFlaps_4 fl_X8_47 (sc_6 hS) rfl ?_
  refine wx_icmp_ge (tgt := 114) dX8_tableFlaps_7 (by decide) (fun c_7 => ?_) (fun c_7 => ?_)
  · replace h := it_t h c_7
    obtain rfl := Option.some.inj h
    replace g := sE_r g
    exact wx_sub g px_0
  · replace h := it_f h c_7
    refine wx_aload_n dX8_tableFlaps_10 rfl ?_
    refine wx_getR dX8_tableFlaps_11 fl_X8_17 (sc_6 hS) rfl (rr_6_2 hS) ?_
    refine wx_iload_n dX8_tableFlaps_14 rfl ?_
    obtain ⟨w_15, h⟩ := ok_some h
    obtain ⟨b_15, wr_15, h⟩ := bd1_some h
    refine wx_aald dX8_tableFlaps_15 (sc_8 hS) (by decide) (by decide) (ix_in w_15) wr_15 ?_
    refine wx_astore_n (lv' := [(3, _), (0, _), (1, _), (2, _)]) dX8_tableFlaps_16 (by decide) rfl ?_
    refine wx_aload_n dX8_tableFlaps_17 rfl ?_
    refine wx_getR dX8_tableFlaps_18 fl_X8_27 (sc_6 hS) rfl (rr_6_8 hS) ?_
    refine wx_iload_n dX8_tableFlaps_21 rfl ?_
    refine wx_aload_n dX8_tableFlaps_22 rfl ?_
    obtain ⟨ws_23, h⟩ := ok_some h
    obtain ⟨ln_23, wt_23⟩ := hk_some ws_23
    refine wx_getI dX8_tableFlaps_23 fl_X8_135 wt_23 rfl ?_
    refine wx_if_eq (tgt := 36) dX8_tableFlaps_26 (by decide) (fun c_26 => ?_) (fun c_26 => ?_)
    · replace h := it_t h c_26
      refine wx_bipush (v := (-2)) dX8_tableFlaps_36 (by decide) ?_
      exact wx_sub (s_X8_tableFlaps_38 hS hd hcu hsu h g) (px_s rfl (px_s rfl (px_s rfl (px_s rfl px_0))))
    · replace h := it_f h c_26
      refine wx_aload_n dX8_tableFlaps_29 rfl ?_
      obtain ⟨ws_30, h⟩ := ok_some h
      obtain ⟨ln_30, wt_30⟩ := hk_some ws_30
      refine wx_getI dX8_tableFlaps_30 fl_X8_93 wt_30 rfl ?_
      refine wx_goto (tgt := 38) dX8_tableFlaps_33 (by decide) ?_
      exact wx_sub (s_X8_tableFlaps_38 hS hd hcu hsu h g) (px_s rfl (px_s rfl (px_s rfl (px_s rfl px_0))))
theorem s_X8_tableFlaps_2 {x1 : Int32} {x2 : Int32} {M : px_M} {L : px_L} {R : px_R} {e : (px_M)} (hS : SR sh R) (hd : 3 ≤ d) (hcu : cu ≤ mc) (hsu : su ≤ ms) (h : lpf (fun a : Int32 × px_M => f_X8_tableFlaps_2 sh a.2 R x1 a.1) (x2, M) = some e) (g : WX RX8 cX8_tableFlaps 5 none ("tableFlaps", []) d mc ms X (px_QF Post mc ms) 114 [] [] sh e L R n cu su) : WX RX8 cX8_tableFlaps 5 none ("tableFlaps", []) d mc ms X (px_QF Post mc ms) 2 [(0, .ref 6), (1, .int x1), (2, .int x2)] [] sh M L R n cu su := by
  have key := lpf_wp (P := (fun a => WX RX8 cX8_tableFlaps 5 none ("tableFlaps", []) d mc ms X (px_QF Post mc ms) 2 [(0, .ref 6), (1, .int x1), (2, .int a.1)] [] sh (a.2) L R n cu su)) (G := (fun t => WX RX8 cX8_tableFlaps 5 none ("tableFlaps", []) d mc ms X (px_QF Post mc ms) 114 [] [] sh t L R n cu su)) (fun a r h g => s_X8_tableFlaps_2b (x1 := x1) (x2 := a.1) (M := a.2) (L := L) (R := R) hS hd hcu hsu h g) (a := (x2, M)) h g
  exact key
noncomputable def f_X8_tableFlaps (sh : px_Sh) (M : px_M) (R : px_R) (p1 : Int32) : Option (px_M) :=
  bd1 (lpf (fun a : Int32 × px_M => f_X8_tableFlaps_2 sh a.2 R p1 a.1) (0, M)) fun e_2 =>
  some e_2
theorem s_X8_tableFlaps {d : Nat} {X : Nat × (Nat → Int32)} {sh : px_Sh} {M : px_M} {L : px_L} {R : px_R} {n : Nat} {p1 : Int32} {e : px_M} (hS : SR sh R) (hd : 3 ≤ d) (h : f_X8_tableFlaps sh M R p1 = some e) : MX yX8_tableFlaps cX8_tableFlaps 5 none d 0 0 X [.ref 6, .int p1] sh M L R n (px_pu none sh e L R n) := by
  refine MX.of (by decide +kernel) (by exact Nat.le_of_ble_eq_true rfl) ?_
  have hcu : 0 ≤ 0 := Nat.zero_le _
  have hsu : 0 ≤ 0 := Nat.zero_le _
  have g : px_pu none sh e L R n none sh e L R n := ⟨rfl, rfl, rfl, rfl, rfl, rfl⟩
  unfold f_X8_tableFlaps at h
  refine wx_iconst (v := 0) dX8_tableFlaps_0 (by decide) ?_
  refine wx_istore_n (lv' := [(2, _), (0, _), (1, _)]) dX8_tableFlaps_1 (by decide) rfl ?_
  obtain ⟨e_2, k_2, h⟩ := bd1_some h
  refine wx_sub (s_X8_tableFlaps_2 hS hd hcu hsu k_2 ?_) (px_s rfl (px_s rfl (px_s rfl px_0)))
  refine wx_vret dX8_tableFlaps_114 hcu hsu ?_
  obtain rfl := Option.some.inj h
  exact g
noncomputable def f_X8_turnWithFlaps_5 (sh : px_Sh) (M : px_M) (R : px_R) (x2 : Int32) (x3 : Int32) (x4 : Int32) : Option ((Int32 × Int32) ⊕ (Int32)) :=
  if (M 6 3) ≤ x4 then
    some (.inr x3)
  else
    ok (ix x4 4) <|
    nm (((x4 * 5) + (M 10 x4.toNatClampNeg)) + 2) fun v_33 =>
    ok (ix v_33 20) <|
    ok (ix x4 4) <|
    bd1 (R 8 x4.toNatClampNeg) fun b_41 =>
    bd1 (f_X8_arm sh M b_41 x2) fun e_43 =>
    nm (x3 + ((M 13 v_33.toNatClampNeg) * e_43)) fun v_48 =>
    some (.inl (v_48, (x4 + 1)))
theorem s_X8_turnWithFlaps_5b {x2 : Int32} {x3 : Int32} {x4 : Int32} {M : px_M} {L : px_L} {R : px_R} {e : ((Int32 × Int32) ⊕ (Int32))} (hS : SR sh R) (hd : 1 ≤ d) (hcu : cu ≤ mc) (hsu : su ≤ ms) (h : f_X8_turnWithFlaps_5 sh M R x2 x3 x4 = some e) (g : (sE (fun a => WX RX8 cX8_turnWithFlaps 5 (some .int) ("turnWithFlaps", []) d mc ms X (px_QF Post mc ms) 5 [(0, .ref 6), (2, .int x2), (3, .int a.1), (4, .int a.2)] [] sh M L R n cu su) (fun t => WX RX8 cX8_turnWithFlaps 5 (some .int) ("turnWithFlaps", []) d mc ms X (px_QF Post mc ms) 55 [(3, .int t)] [] sh M L R n cu su)) e) : WX RX8 cX8_turnWithFlaps 5 (some .int) ("turnWithFlaps", []) d mc ms X (px_QF Post mc ms) 5 [(0, .ref 6), (2, .int x2), (3, .int x3), (4, .int x4)] [] sh M L R n cu su := by
  unfold f_X8_turnWithFlaps_5 at h
  refine wx_iload dX8_turnWithFlaps_5 rfl ?_
  refine wx_aload_n dX8_turnWithFlaps_7 rfl ?_
  refine wx_getI dX8_turnWithFlaps_8 fl_X8_47 (sc_6 hS) rfl ?_
  refine wx_icmp_ge (tgt := 55) dX8_turnWithFlaps_11 (by decide) (fun c_11 => ?_) (fun c_11 => ?_)
  · replace h := it_t h c_11
    obtain rfl := Option.some.inj h
    replace g := sE_r g
    exact wx_sub g (px_s rfl px_0)
  · replace h := it_f h c_11
    refine wx_iload_n dX8_turnWithFlaps_14 rfl ?_
    refine wx_aload_n dX8_turnWithFlaps_15 rfl ?_
    refine wx_getR dX8_turnWithFlaps_16 fl_X8_33 (sc_6 hS) rfl (rr_6_10 hS) ?_
    refine wx_iload dX8_turnWithFlaps_19 rfl ?_
    refine wx_iconst (v := 5) dX8_turnWithFlaps_21 (by decide) ?_
    refine wx_imul dX8_turnWithFlaps_22 ?_
    refine wx_aload_n dX8_turnWithFlaps_23 rfl ?_
    refine wx_getR dX8_turnWithFlaps_24 fl_X8_24 (sc_6 hS) rfl (rr_6_7 hS) ?_
    refine wx_iload dX8_turnWithFlaps_27 rfl ?_
    obtain ⟨w_29, h⟩ := ok_some h
    refine wx_iald dX8_turnWithFlaps_29 (sc_10 hS) (ix_in w_29) ?_
    refine wx_iadd dX8_turnWithFlaps_30 ?_
    refine wx_iconst (v := 2) dX8_turnWithFlaps_31 (by decide) ?_
    refine wx_iadd dX8_turnWithFlaps_32 ?_
    refine wx_nami (fun v_33 q_33 => ?_)
    replace h := nm_at h q_33
    obtain ⟨w_33, h⟩ := ok_some h
    refine wx_iald dX8_turnWithFlaps_33 (sc_13 hS) (ix_in w_33) ?_
    refine wx_aload_n dX8_turnWithFlaps_34 rfl ?_
    refine wx_aload_n dX8_turnWithFlaps_35 rfl ?_
    refine wx_getR dX8_turnWithFlaps_36 fl_X8_17 (sc_6 hS) rfl (rr_6_2 hS) ?_
    refine wx_iload dX8_turnWithFlaps_39 rfl ?_
    obtain ⟨w_41, h⟩ := ok_some h
    obtain ⟨b_41, wr_41, h⟩ := bd1_some h
    refine wx_aald dX8_turnWithFlaps_41 (sc_8 hS) (by decide) (by decide) (ix_in w_41) wr_41 ?_
    refine wx_iload_n dX8_turnWithFlaps_42 rfl ?_
    obtain ⟨e_43, k_43, h⟩ := bd1_some h
    refine wx_cVi dX8_turnWithFlaps_43 ml_X8_99 my_X8_arm iv_X8_arm (sc_6 hS) (by decide) (s_X8_arm (d := d - 1) hS (by omega) k_43) rfl (by omega) (by exact Nat.le_of_ble_eq_true rfl) hcu hsu ?_
    refine wx_imul dX8_turnWithFlaps_46 ?_
    refine wx_iadd dX8_turnWithFlaps_47 ?_
    refine wx_nami (fun v_48 q_48 => ?_)
    replace h := nm_at h q_48
    refine wx_istore_n (lv' := [(3, _), (0, _), (2, _), (4, _)]) dX8_turnWithFlaps_48 (by decide) rfl ?_
    refine wx_iinc (lv' := [(4, _), (3, _), (0, _), (2, _)]) dX8_turnWithFlaps_49 rfl (i_1 _) (by decide) rfl ?_
    refine wx_goto (tgt := 5) dX8_turnWithFlaps_52 (by decide) ?_
    obtain rfl := Option.some.inj h
    replace g := sE_l g
    exact wx_sub g (px_s rfl (px_s rfl (px_s rfl (px_s rfl px_0))))
theorem s_X8_turnWithFlaps_5 {x2 : Int32} {x3 : Int32} {x4 : Int32} {M : px_M} {L : px_L} {R : px_R} {e : (Int32)} (hS : SR sh R) (hd : 1 ≤ d) (hcu : cu ≤ mc) (hsu : su ≤ ms) (h : lpf (fun a : Int32 × Int32 => f_X8_turnWithFlaps_5 sh M R x2 a.1 a.2) (x3, x4) = some e) (g : WX RX8 cX8_turnWithFlaps 5 (some .int) ("turnWithFlaps", []) d mc ms X (px_QF Post mc ms) 55 [(3, .int e)] [] sh M L R n cu su) : WX RX8 cX8_turnWithFlaps 5 (some .int) ("turnWithFlaps", []) d mc ms X (px_QF Post mc ms) 5 [(0, .ref 6), (2, .int x2), (3, .int x3), (4, .int x4)] [] sh M L R n cu su := by
  have key := lpf_wp (P := (fun a => WX RX8 cX8_turnWithFlaps 5 (some .int) ("turnWithFlaps", []) d mc ms X (px_QF Post mc ms) 5 [(0, .ref 6), (2, .int x2), (3, .int a.1), (4, .int a.2)] [] sh M L R n cu su)) (G := (fun t => WX RX8 cX8_turnWithFlaps 5 (some .int) ("turnWithFlaps", []) d mc ms X (px_QF Post mc ms) 55 [(3, .int t)] [] sh M L R n cu su)) (fun a r h g => s_X8_turnWithFlaps_5b (x2 := x2) (x3 := a.1) (x4 := a.2) (M := M) (L := L) (R := R) hS hd hcu hsu h g) (a := (x3, x4)) h g
  exact key
noncomputable def f_X8_turnWithFlaps (sh : px_Sh) (M : px_M) (R : px_R) (p1 : Int32) (p2 : Int32) : Option (Int32) :=
  bd1 (lpf (fun a : Int32 × Int32 => f_X8_turnWithFlaps_5 sh M R p2 a.1 a.2) (p1, 0)) fun e_5 =>
  some e_5
theorem s_X8_turnWithFlaps {d : Nat} {X : Nat × (Nat → Int32)} {sh : px_Sh} {M : px_M} {L : px_L} {R : px_R} {n : Nat} {p1 : Int32} {p2 : Int32} {e : Int32} (hS : SR sh R) (hd : 1 ≤ d) (h : f_X8_turnWithFlaps sh M R p1 p2 = some e) : MX yX8_turnWithFlaps cX8_turnWithFlaps 5 (some .int) d 0 0 X [.ref 6, .int p1, .int p2] sh M L R n (px_pu (some (.int e)) sh M L R n) := by
  refine MX.of (by decide +kernel) (by exact Nat.le_of_ble_eq_true rfl) ?_
  have hcu : 0 ≤ 0 := Nat.zero_le _
  have hsu : 0 ≤ 0 := Nat.zero_le _
  have g : px_pu (some (.int e)) sh M L R n (some (.int e)) sh M L R n := ⟨rfl, rfl, rfl, rfl, rfl, rfl⟩
  unfold f_X8_turnWithFlaps at h
  refine wx_iload_n dX8_turnWithFlaps_0 rfl ?_
  refine wx_istore_n (lv' := [(3, _), (0, _), (1, _), (2, _)]) dX8_turnWithFlaps_1 (by decide) rfl ?_
  refine wx_iconst (v := 0) dX8_turnWithFlaps_2 (by decide) ?_
  refine wx_istore (lv' := [(4, _), (3, _), (0, _), (1, _), (2, _)]) dX8_turnWithFlaps_3 (by decide) rfl ?_
  obtain ⟨e_5, k_5, h⟩ := bd1_some h
  refine wx_sub (s_X8_turnWithFlaps_5 hS hd hcu hsu k_5 ?_) (px_s rfl (px_s rfl (px_s rfl (px_s rfl px_0))))
  refine wx_iload_n dX8_turnWithFlaps_55 rfl ?_
  refine wx_iret dX8_turnWithFlaps_56 hcu hsu ?_
  obtain rfl := Option.some.inj h
  exact g
noncomputable def f_X8_findTrim_84 (sh : px_Sh) (M : px_M) (R : px_R) (x2 : Int32) (x4 : Int32) : Option ((Int32 × Int32 × Int32 × px_M) ⊕ (Int32 × px_M)) :=
  bd1 (f_X11_nextRow sh M 10 11 12 (M 6 3)) fun e_100 =>
  some (.inl (x2, e_100.1, (x4 + 1), e_100.2))
theorem s_X8_findTrim_84 {x2 : Int32} {x4 : Int32} {M : px_M} {L : px_L} {R : px_R} {e : ((Int32 × Int32 × Int32 × px_M) ⊕ (Int32 × px_M))} (hS : SR sh R) (hd : 4 ≤ d) (hcu : cu ≤ mc) (hsu : su ≤ ms) (h : f_X8_findTrim_84 sh M R x2 x4 = some e) (g : (sE (fun a => WX RX8 cX8_findTrim 6 (some .int) ("findTrim", []) d mc ms X (px_QF Post mc ms) 17 [(0, .ref 6), (2, .int a.1), (3, .int a.2.1), (4, .int a.2.2.1)] [] sh (a.2.2.2) L R n cu su) (fun t => WX RX8 cX8_findTrim 6 (some .int) ("findTrim", []) d mc ms X (px_QF Post mc ms) 110 [(2, .int t.1)] [] sh (t.2) L R n cu su)) e) : WX RX8 cX8_findTrim 6 (some .int) ("findTrim", []) d mc ms X (px_QF Post mc ms) 84 [(0, .ref 6), (2, .int x2), (4, .int x4)] [] sh M L R n cu su := by
  unfold f_X8_findTrim_84 at h
  refine wx_aload_n dX8_findTrim_84 rfl ?_
  refine wx_getR dX8_findTrim_85 fl_X8_24 (sc_6 hS) rfl (rr_6_7 hS) ?_
  refine wx_aload_n dX8_findTrim_88 rfl ?_
  refine wx_getR dX8_findTrim_89 fl_X8_27 (sc_6 hS) rfl (rr_6_8 hS) ?_
  refine wx_aload_n dX8_findTrim_92 rfl ?_
  refine wx_getR dX8_findTrim_93 fl_X8_30 (sc_6 hS) rfl (rr_6_9 hS) ?_
  refine wx_aload_n dX8_findTrim_96 rfl ?_
  refine wx_getI dX8_findTrim_97 fl_X8_47 (sc_6 hS) rfl ?_
  obtain ⟨e_100, k_100, h⟩ := bd1_some h
  refine wx_cSi dX8_findTrim_100 ml_X8_131 my_X11_nextRow sv_X11_nextRow (s_X11_nextRow (d := d - 1) hS (by omega) k_100) rfl (by omega) (by exact Nat.le_of_ble_eq_true rfl) hcu hsu ?_
  refine wx_istore_n (lv' := [(3, _), (0, _), (2, _), (4, _)]) dX8_findTrim_103 (by decide) rfl ?_
  refine wx_iinc (lv' := [(4, _), (3, _), (0, _), (2, _)]) dX8_findTrim_104 rfl (i_1 _) (by decide) rfl ?_
  refine wx_goto (tgt := 17) dX8_findTrim_107 (by decide) ?_
  obtain rfl := Option.some.inj h
  replace g := sE_l g
  exact wx_sub g (px_s rfl (px_s rfl (px_s rfl (px_s rfl px_0))))
noncomputable def f_X8_findTrim_67 (sh : px_Sh) (M : px_M) (R : px_R) (x4 : Int32) (x5 : Int32) : Option ((Int32 × Int32 × Int32 × px_M) ⊕ (Int32 × px_M)) :=
  nm (px_c M 9 (va_cpy (M 10) (M 9) 0 0 4)) fun M_81 =>
  f_X8_findTrim_84 sh M_81 R x5 x4
theorem s_X8_findTrim_67 {x4 : Int32} {x5 : Int32} {M : px_M} {L : px_L} {R : px_R} {e : ((Int32 × Int32 × Int32 × px_M) ⊕ (Int32 × px_M))} (hS : SR sh R) (hd : 4 ≤ d) (hcu : cu ≤ mc) (hsu : su ≤ ms) (h : f_X8_findTrim_67 sh M R x4 x5 = some e) (g : (sE (fun a => WX RX8 cX8_findTrim 6 (some .int) ("findTrim", []) d mc ms X (px_QF Post mc ms) 17 [(0, .ref 6), (2, .int a.1), (3, .int a.2.1), (4, .int a.2.2.1)] [] sh (a.2.2.2) L R n cu su) (fun t => WX RX8 cX8_findTrim 6 (some .int) ("findTrim", []) d mc ms X (px_QF Post mc ms) 110 [(2, .int t.1)] [] sh (t.2) L R n cu su)) e) : WX RX8 cX8_findTrim 6 (some .int) ("findTrim", []) d mc ms X (px_QF Post mc ms) 67 [(0, .ref 6), (4, .int x4), (5, .int x5)] [] sh M L R n cu su := by
  unfold f_X8_findTrim_67 at h
  refine wx_iload dX8_findTrim_67 rfl ?_
  refine wx_istore_n (lv' := [(2, _), (0, _), (4, _), (5, _)]) dX8_findTrim_69 (by decide) rfl ?_
  refine wx_aload_n dX8_findTrim_70 rfl ?_
  refine wx_getR dX8_findTrim_71 fl_X8_24 (sc_6 hS) rfl (rr_6_7 hS) ?_
  refine wx_iconst (v := 0) dX8_findTrim_74 (by decide) ?_
  refine wx_aload_n dX8_findTrim_75 rfl ?_
  refine wx_getR dX8_findTrim_76 fl_X8_20 (sc_6 hS) rfl (rr_6_6 hS) ?_
  refine wx_iconst (v := 0) dX8_findTrim_79 (by decide) ?_
  refine wx_iconst (v := 4) dX8_findTrim_80 (by decide) ?_
  refine wx_acopy (N := 4) dX8_findTrim_81 ay_X8 (sc_10 hS) (sc_9 hS) (by decide) (by decide) (by decide) (by omega) (by exact Nat.le_of_ble_eq_true rfl) ?_
  refine wx_namM (fun M_81 q_81 => ?_)
  replace h := nm_at h q_81
  exact wx_sub (s_X8_findTrim_84 hS hd hcu hsu h g) (px_s rfl (px_s rfl (px_s rfl px_0)))
noncomputable def f_X8_findTrim_17 (sh : px_Sh) (M : px_M) (R : px_R) (x2 : Int32) (x3 : Int32) (x4 : Int32) : Option ((Int32 × Int32 × Int32 × px_M) ⊕ (Int32 × px_M)) :=
  if 625 ≤ x4 then
    some (.inr (x2, M))
  else
    if x3 = 0 then
      some (.inr (x2, M))
    else
      bd1 (f_X8_turnWithFlaps sh M R (M 6 11) 0) fun e_35 =>
      bd1 (f_J9_abs_0f7a4 e_35) fun e_38 =>
      bd1 (f_X8_turnWithFlaps sh M R (M 6 12) 1) fun e_47 =>
      bd1 (f_J9_abs_0f7a4 e_47) fun e_50 =>
      nm (e_38 + e_50) fun v_54 =>
      if x2 = (-1) then
        f_X8_findTrim_67 sh M R x4 v_54
      else
        if x2 ≤ v_54 then
          f_X8_findTrim_84 sh M R x2 x4
        else
          f_X8_findTrim_67 sh M R x4 v_54
theorem s_X8_findTrim_17b {x2 : Int32} {x3 : Int32} {x4 : Int32} {M : px_M} {L : px_L} {R : px_R} {e : ((Int32 × Int32 × Int32 × px_M) ⊕ (Int32 × px_M))} (hS : SR sh R) (hd : 4 ≤ d) (hcu : cu ≤ mc) (hsu : su ≤ ms) (h : f_X8_findTrim_17 sh M R x2 x3 x4 = some e) (g : (sE (fun a => WX RX8 cX8_findTrim 6 (some .int) ("findTrim", []) d mc ms X (px_QF Post mc ms) 17 [(0, .ref 6), (2, .int a.1), (3, .int a.2.1), (4, .int a.2.2.1)] [] sh (a.2.2.2) L R n cu su) (fun t => WX RX8 cX8_findTrim 6 (some .int) ("findTrim", []) d mc ms X (px_QF Post mc ms) 110 [(2, .int t.1)] [] sh (t.2) L R n cu su)) e) : WX RX8 cX8_findTrim 6 (some .int) ("findTrim", []) d mc ms X (px_QF Post mc ms) 17 [(0, .ref 6), (2, .int x2), (3, .int x3), (4, .int x4)] [] sh M L R n cu su := by
  unfold f_X8_findTrim_17 at h
  refine wx_iload dX8_findTrim_17 rfl ?_
  refine wx_sipush (v := 625) dX8_findTrim_19 (by decide) ?_
  refine wx_icmp_ge (tgt := 110) dX8_findTrim_22 (by decide) (fun c_22 => ?_) (fun c_22 => ?_)
  · replace h := it_t h c_22
    obtain rfl := Option.some.inj h
    replace g := sE_r g
    exact wx_sub g (px_s rfl px_0)
  · replace h := it_f h c_22
    refine wx_iload_n dX8_findTrim_25 rfl ?_
    refine wx_if_eq (tgt := 110) dX8_findTrim_26 (by decide) (fun c_26 => ?_) (fun c_26 => ?_)
    · replace h := it_t h c_26
      obtain rfl := Option.some.inj h
      replace g := sE_r g
      exact wx_sub g (px_s rfl px_0)
    · replace h := it_f h c_26
      refine wx_aload_n dX8_findTrim_29 rfl ?_
      refine wx_aload_n dX8_findTrim_30 rfl ?_
      refine wx_getI dX8_findTrim_31 fl_X8_113 (sc_6 hS) rfl ?_
      refine wx_iconst (v := 0) dX8_findTrim_34 (by decide) ?_
      obtain ⟨e_35, k_35, h⟩ := bd1_some h
      refine wx_cVi dX8_findTrim_35 ml_X8_116 my_X8_turnWithFlaps iv_X8_turnWithFlaps (sc_6 hS) (by decide) (s_X8_turnWithFlaps (d := d - 1) hS (by omega) k_35) rfl (by omega) (by exact Nat.le_of_ble_eq_true rfl) hcu hsu ?_
      obtain ⟨e_38, k_38, h⟩ := bd1_some h
      refine wx_cSi dX8_findTrim_38 ml_X8_119 my_J9_abs_0f7a4 sv_J9_abs_0f7a4 (s_J9_abs_0f7a4 (d := d - 1) hS (by omega) k_38) rfl (by omega) (by exact Nat.le_of_ble_eq_true rfl) hcu hsu ?_
      refine wx_aload_n dX8_findTrim_41 rfl ?_
      refine wx_aload_n dX8_findTrim_42 rfl ?_
      refine wx_getI dX8_findTrim_43 fl_X8_122 (sc_6 hS) rfl ?_
      refine wx_iconst (v := 1) dX8_findTrim_46 (by decide) ?_
      obtain ⟨e_47, k_47, h⟩ := bd1_some h
      refine wx_cVi dX8_findTrim_47 ml_X8_116 my_X8_turnWithFlaps iv_X8_turnWithFlaps (sc_6 hS) (by decide) (s_X8_turnWithFlaps (d := d - 1) hS (by omega) k_47) rfl (by omega) (by exact Nat.le_of_ble_eq_true rfl) hcu hsu ?_
      obtain ⟨e_50, k_50, h⟩ := bd1_some h
      refine wx_cSi dX8_findTrim_50 ml_X8_119 my_J9_abs_0f7a4 sv_J9_abs_0f7a4 (s_J9_abs_0f7a4 (d := d - 1) hS (by omega) k_50) rfl (by omega) (by exact Nat.le_of_ble_eq_true rfl) hcu hsu ?_
      refine wx_iadd dX8_findTrim_53 ?_
      refine wx_nami (fun v_54 q_54 => ?_)
      replace h := nm_at h q_54
      refine wx_istore (lv' := [(5, _), (0, _), (2, _), (3, _), (4, _)]) dX8_findTrim_54 (by decide) rfl ?_
      refine wx_iload_n dX8_findTrim_56 rfl ?_
      refine wx_iconst (v := (-1)) dX8_findTrim_57 (by decide) ?_
      refine wx_icmp_eq (tgt := 67) dX8_findTrim_58 (by decide) (fun c_58 => ?_) (fun c_58 => ?_)
      · replace h := it_t h c_58
        exact wx_sub (s_X8_findTrim_67 hS hd hcu hsu h g) (px_s rfl (px_s rfl (px_s rfl px_0)))
      · replace h := it_f h c_58
        refine wx_iload dX8_findTrim_61 rfl ?_
        refine wx_iload_n dX8_findTrim_63 rfl ?_
        refine wx_icmp_ge (tgt := 84) dX8_findTrim_64 (by decide) (fun c_64 => ?_) (fun c_64 => ?_)
        · replace h := it_t h c_64
          exact wx_sub (s_X8_findTrim_84 hS hd hcu hsu h g) (px_s rfl (px_s rfl (px_s rfl px_0)))
        · replace h := it_f h c_64
          exact wx_sub (s_X8_findTrim_67 hS hd hcu hsu h g) (px_s rfl (px_s rfl (px_s rfl px_0)))
theorem s_X8_findTrim_17 {x2 : Int32} {x3 : Int32} {x4 : Int32} {M : px_M} {L : px_L} {R : px_R} {e : (Int32 × px_M)} (hS : SR sh R) (hd : 4 ≤ d) (hcu : cu ≤ mc) (hsu : su ≤ ms) (h : lpf (fun a : Int32 × Int32 × Int32 × px_M => f_X8_findTrim_17 sh a.2.2.2 R a.1 a.2.1 a.2.2.1) (x2, x3, x4, M) = some e) (g : WX RX8 cX8_findTrim 6 (some .int) ("findTrim", []) d mc ms X (px_QF Post mc ms) 110 [(2, .int e.1)] [] sh (e.2) L R n cu su) : WX RX8 cX8_findTrim 6 (some .int) ("findTrim", []) d mc ms X (px_QF Post mc ms) 17 [(0, .ref 6), (2, .int x2), (3, .int x3), (4, .int x4)] [] sh M L R n cu su := by
  have key := lpf_wp (P := (fun a => WX RX8 cX8_findTrim 6 (some .int) ("findTrim", []) d mc ms X (px_QF Post mc ms) 17 [(0, .ref 6), (2, .int a.1), (3, .int a.2.1), (4, .int a.2.2.1)] [] sh (a.2.2.2) L R n cu su)) (G := (fun t => WX RX8 cX8_findTrim 6 (some .int) ("findTrim", []) d mc ms X (px_QF Post mc ms) 110 [(2, .int t.1)] [] sh (t.2) L R n cu su)) (fun a r h g => s_X8_findTrim_17b (x2 := a.1) (x3 := a.2.1) (x4 := a.2.2.1) (M := a.2.2.2) (L := L) (R := R) hS hd hcu hsu h g) (a := (x2, x3, x4, M)) h g
  exact key
noncomputable def f_X8_findTrim (sh : px_Sh) (M : px_M) (R : px_R) (p1 : Int32) : Option (Int32 × px_M) :=
  bd1 (f_X8_sumUpRest sh M R p1) fun e_2 =>
  bd1 (f_X8_tableFlaps sh e_2 R p1) fun e_7 =>
  bd1 (lpf (fun a : Int32 × Int32 × Int32 × px_M => f_X8_findTrim_17 sh a.2.2.2 R a.1 a.2.1 a.2.2.1) ((-1), 1, 0, e_7)) fun e_17 =>
  some (e_17.1, e_17.2)
theorem s_X8_findTrim {d : Nat} {X : Nat × (Nat → Int32)} {sh : px_Sh} {M : px_M} {L : px_L} {R : px_R} {n : Nat} {p1 : Int32} {e : Int32 × px_M} (hS : SR sh R) (hd : 4 ≤ d) (h : f_X8_findTrim sh M R p1 = some e) : MX yX8_findTrim cX8_findTrim 6 (some .int) d 0 0 X [.ref 6, .int p1] sh M L R n (px_pu (some (.int e.1)) sh e.2 L R n) := by
  refine MX.of (by decide +kernel) (by exact Nat.le_of_ble_eq_true rfl) ?_
  have hcu : 0 ≤ 0 := Nat.zero_le _
  have hsu : 0 ≤ 0 := Nat.zero_le _
  have g : px_pu (some (.int e.1)) sh e.2 L R n (some (.int e.1)) sh e.2 L R n := ⟨rfl, rfl, rfl, rfl, rfl, rfl⟩
  unfold f_X8_findTrim at h
  refine wx_aload_n dX8_findTrim_0 rfl ?_
  refine wx_iload_n dX8_findTrim_1 rfl ?_
  obtain ⟨e_2, k_2, h⟩ := bd1_some h
  refine wx_cVv dX8_findTrim_2 ml_X8_106 my_X8_sumUpRest iv_X8_sumUpRest (sc_6 hS) (by decide) (s_X8_sumUpRest (d := d - 1) hS (by omega) k_2) rfl (by omega) (by exact Nat.le_of_ble_eq_true rfl) hcu hsu ?_
  refine wx_aload_n dX8_findTrim_5 rfl ?_
  refine wx_iload_n dX8_findTrim_6 rfl ?_
  obtain ⟨e_7, k_7, h⟩ := bd1_some h
  refine wx_cVv dX8_findTrim_7 ml_X8_110 my_X8_tableFlaps iv_X8_tableFlaps (sc_6 hS) (by decide) (s_X8_tableFlaps (d := d - 1) hS (by omega) k_7) rfl (by omega) (by exact Nat.le_of_ble_eq_true rfl) hcu hsu ?_
  refine wx_iconst (v := (-1)) dX8_findTrim_10 (by decide) ?_
  refine wx_istore_n (lv' := [(2, _), (0, _), (1, _)]) dX8_findTrim_11 (by decide) rfl ?_
  refine wx_iconst (v := 1) dX8_findTrim_12 (by decide) ?_
  refine wx_istore_n (lv' := [(3, _), (2, _), (0, _), (1, _)]) dX8_findTrim_13 (by decide) rfl ?_
  refine wx_iconst (v := 0) dX8_findTrim_14 (by decide) ?_
  refine wx_istore (lv' := [(4, _), (3, _), (2, _), (0, _), (1, _)]) dX8_findTrim_15 (by decide) rfl ?_
  obtain ⟨e_17, k_17, h⟩ := bd1_some h
  refine wx_sub (s_X8_findTrim_17 hS hd hcu hsu k_17 ?_) (px_s rfl (px_s rfl (px_s rfl (px_s rfl px_0))))
  refine wx_iload_n dX8_findTrim_110 rfl ?_
  refine wx_iret dX8_findTrim_111 hcu hsu ?_
  obtain rfl := Option.some.inj h
  exact g
end LIFT
