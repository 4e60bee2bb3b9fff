/-! Voyage -/
section LIFT
variable {d mc ms : Nat} {X : Nat × (Nat → Int32)} {Post : px_Post} {sh : px_Sh} {n cu su : Nat}
noncomputable def f_X9_hasWorld (M : px_M) (p1 : Int32) : Option (Int32) :=
  bd1 (f_X11_within p1 0 ((M 14 5) - 1)) fun e_8 =>
  ok (zb e_8) <|
  some e_8
theorem s_X9_hasWorld {d : Nat} {X : Nat × (Nat → Int32)} {sh : px_Sh} {M : px_M} {L : px_L} {R : px_R} {n : Nat} {p1 : Int32} {e : Int32} (hS : SR sh R) (hd : 1 ≤ d) (h : f_X9_hasWorld M p1 = some e) : MX yX9_hasWorld cX9_hasWorld 2 (some .boolean) d 0 0 X [.ref 14, .int p1] sh M L R n (px_pu (some (.int e)) sh M L R n) := by
  refine MX.of (by decide +kernel) (by exact Nat.le_of_ble_eq_true rfl) ?_
  have hcu : 0 ≤ 0 := Nat.zero_le _
  have hsu : 0 ≤ 0 := Nat.zero_le _
  have g : px_pu (some (.int e)) sh M L R n (some (.int e)) sh M L R n := ⟨rfl, rfl, rfl, rfl, rfl, rfl⟩
  unfold f_X9_hasWorld at h
  refine wx_iload_n dX9_hasWorld_0 rfl ?_
  refine wx_iconst (v := 0) dX9_hasWorld_1 (by decide) ?_
  refine wx_aload_n dX9_hasWorld_2 rfl ?_
  refine wx_getI dX9_hasWorld_3 fl_X9_37 (sc_14 hS) rfl ?_
  refine wx_iconst (v := 1) dX9_hasWorld_6 (by decide) ?_
  refine wx_isub dX9_hasWorld_7 ?_
  obtain ⟨e_8, k_8, h⟩ := bd1_some h
  refine wx_cSi dX9_hasWorld_8 ml_X9_43 my_X11_within sv_X11_within (s_X11_within (d := d - 1) hS (by omega) k_8) rfl (by omega) (by exact Nat.le_of_ble_eq_true rfl) hcu hsu ?_
  obtain ⟨w_11, h⟩ := ok_some h
  refine wx_zret dX9_hasWorld_11 (zb_n w_11) hcu hsu ?_
  obtain rfl := Option.some.inj h
  exact g
noncomputable def f_X9_firstRule_112 (sh : px_Sh) (M : px_M) (R : px_R) (a2 : Nat) (x3 : Int32) (z0 : Int32) (z1 : Int32) : Option (Int32 × px_M) :=
  ok (ix z1 7) <|
  nm (px_u M 19 z1.toNatClampNeg z0) fun M_112 =>
  bd1 (f_X11_stepsAt (M_112 14 1) x3) fun e_123 =>
  nm (px_u M_112 19 (5 : Int32).toNatClampNeg e_123) fun M_126 =>
  bd1 (f_X8_tornPanels sh M_126 R) fun e_134 =>
  nm (px_u M_126 19 (6 : Int32).toNatClampNeg e_134) fun M_137 =>
  ok (hk sh a2 7) <|
  bd1 (f_X7_firstHolding sh M_137 R a2) fun e_143 =>
  some (e_143.1, e_143.2)
theorem s_X9_firstRule_112 {a2 : Nat} {x3 : Int32} {z0 : Int32} {z1 : Int32} {M : px_M} {L : px_L} {R : px_R} {e : (Int32 × px_M)} (hS : SR sh R) (hd : 4 ≤ d) (hcu : cu ≤ mc) (hsu : su ≤ ms) (h : f_X9_firstRule_112 sh M R a2 x3 z0 z1 = some e) (g : Post (some (.int (e.1))) sh (e.2) L R n) : WX RX9 cX9_firstRule 5 (some .int) ("firstRule", []) d mc ms X (px_QF Post mc ms) 112 [(0, .ref 14), (1, .ref 6), (2, .ref a2), (3, .int x3)] [.int z0, .int z1, .ref 19] sh M L R n cu su := by
  unfold f_X9_firstRule_112 at h
  obtain ⟨w_112, h⟩ := ok_some h
  refine wx_iast dX9_firstRule_112 (sc_19 hS) (ix_in w_112) ?_
  refine wx_namM (fun M_112 q_112 => ?_)
  replace h := nm_at h q_112
  refine wx_aload_n dX9_firstRule_113 rfl ?_
  refine wx_getR dX9_firstRule_114 fl_X9_34 (sc_14 hS) rfl (rr_14_10 hS) ?_
  refine wx_iconst (v := 5) dX9_firstRule_117 (by decide) ?_
  refine wx_aload_n dX9_firstRule_118 rfl ?_
  refine wx_getI dX9_firstRule_119 fl_X9_9 (sc_14 hS) rfl ?_
  refine wx_iload_n dX9_firstRule_122 rfl ?_
  obtain ⟨e_123, k_123, h⟩ := bd1_some h
  refine wx_cSi dX9_firstRule_123 ml_X9_103 my_X11_stepsAt sv_X11_stepsAt (s_X11_stepsAt (d := d - 1) hS (by omega) k_123) rfl (by omega) (by exact Nat.le_of_ble_eq_true rfl) hcu hsu ?_
  refine wx_iast dX9_firstRule_126 (sc_19 hS) (ix_in (by decide)) ?_
  refine wx_namM (fun M_126 q_126 => ?_)
  replace h := nm_at h q_126
  refine wx_aload_n dX9_firstRule_127 rfl ?_
  refine wx_getR dX9_firstRule_128 fl_X9_34 (sc_14 hS) rfl (rr_14_10 hS) ?_
  refine wx_bipush (v := 6) dX9_firstRule_131 (by decide) ?_
  refine wx_aload_n dX9_firstRule_133 rfl ?_
  obtain ⟨e_134, k_134, h⟩ := bd1_some h
  refine wx_cVi dX9_firstRule_134 ml_X9_106 my_X8_tornPanels iv_X8_tornPanels (sc_6 hS) (by decide) (s_X8_tornPanels (d := d - 1) hS (by omega) k_134) rfl (by omega) (by exact Nat.le_of_ble_eq_true rfl) hcu hsu ?_
  refine wx_iast dX9_firstRule_137 (sc_19 hS) (ix_in (by decide)) ?_
  refine wx_namM (fun M_137 q_137 => ?_)
  replace h := nm_at h q_137
  refine wx_aload_n dX9_firstRule_138 rfl ?_
  refine wx_aload_n dX9_firstRule_139 rfl ?_
  refine wx_getR dX9_firstRule_140 fl_X9_34 (sc_14 hS) rfl (rr_14_10 hS) ?_
  obtain ⟨ws_143, h⟩ := ok_some h
  obtain ⟨ln_143, wt_143⟩ := hk_some ws_143
  obtain ⟨e_143, k_143, h⟩ := bd1_some h
  refine wx_cVi dX9_firstRule_143 ml_X9_112 my_X7_firstHolding iv_X7_firstHolding wt_143 (by decide) (s_X7_firstHolding (d := d - 1) hS (by omega) k_143) rfl (by omega) (by exact Nat.le_of_ble_eq_true rfl) hcu hsu ?_
  refine wx_iret dX9_firstRule_146 hcu hsu ?_
  obtain rfl := Option.some.inj h
  exact g
noncomputable def f_X9_firstRule_71 (sh : px_Sh) (M : px_M) (R : px_R) (a2 : Nat) (x3 : Int32) (x4 : Int32) (z0 : Int32) (z1 : Int32) : Option (Int32 × px_M) :=
  ok (ix z1 7) <|
  nm (px_u M 19 z1.toNatClampNeg z0) fun M_71 =>
  if x4 = 0 then
    f_X9_firstRule_112 sh M_71 R a2 x3 0 4
  else
    nm (M_71 14 3) fun v_90 =>
    ok (ix v_90 4) <|
    bd1 (R 15 v_90.toNatClampNeg) fun b_90 =>
    ok (hk sh b_90 10) <|
    bd1 (f_X10_angleOn sh M_71 b_90 (M_71 14 0)) fun e_95 =>
    bd1 (f_J9_floorMod_7cf53 (e_95 - (M_71 14 2)) 72) fun e_105 =>
    f_X9_firstRule_112 sh M_71 R a2 x3 e_105 4
theorem s_X9_firstRule_71 {a2 : Nat} {x3 : Int32} {x4 : Int32} {z0 : Int32} {z1 : Int32} {M : px_M} {L : px_L} {R : px_R} {e : (Int32 × px_M)} (hS : SR sh R) (hd : 4 ≤ d) (hcu : cu ≤ mc) (hsu : su ≤ ms) (h : f_X9_firstRule_71 sh M R a2 x3 x4 z0 z1 = some e) (g : Post (some (.int (e.1))) sh (e.2) L R n) : WX RX9 cX9_firstRule 5 (some .int) ("firstRule", []) d mc ms X (px_QF Post mc ms) 71 [(0, .ref 14), (1, .ref 6), (2, .ref a2), (3, .int x3), (4, .int x4)] [.int z0, .int z1, .ref 19] sh M L R n cu su := by
  unfold f_X9_firstRule_71 at h
  obtain ⟨w_71, h⟩ := ok_some h
  refine wx_iast dX9_firstRule_71 (sc_19 hS) (ix_in w_71) ?_
  refine wx_namM (fun M_71 q_71 => ?_)
  replace h := nm_at h q_71
  refine wx_aload_n dX9_firstRule_72 rfl ?_
  refine wx_getR dX9_firstRule_73 fl_X9_34 (sc_14 hS) rfl (rr_14_10 hS) ?_
  refine wx_iconst (v := 4) dX9_firstRule_76 (by decide) ?_
  refine wx_iload dX9_firstRule_77 rfl ?_
  refine wx_if_eq (tgt := 111) dX9_firstRule_79 (by decide) (fun c_79 => ?_) (fun c_79 => ?_)
  · replace h := it_t h c_79
    refine wx_iconst (v := 0) dX9_firstRule_111 (by decide) ?_
    exact wx_sub (s_X9_firstRule_112 hS hd hcu hsu h g) (px_s rfl (px_s rfl (px_s rfl (px_s rfl px_0))))
  · replace h := it_f h c_79
    refine wx_aload_n dX9_firstRule_82 rfl ?_
    refine wx_getR dX9_firstRule_83 fl_X9_20 (sc_14 hS) rfl (rr_14_4 hS) ?_
    refine wx_aload_n dX9_firstRule_86 rfl ?_
    refine wx_getI dX9_firstRule_87 fl_X9_15 (sc_14 hS) rfl ?_
    refine wx_nami (fun v_90 q_90 => ?_)
    replace h := nm_at h q_90
    obtain ⟨w_90, h⟩ := ok_some h
    obtain ⟨b_90, wr_90, h⟩ := bd1_some h
    refine wx_aald dX9_firstRule_90 (sc_15 hS) (by decide) (by decide) (ix_in w_90) wr_90 ?_
    refine wx_aload_n dX9_firstRule_91 rfl ?_
    refine wx_getI dX9_firstRule_92 fl_X9_52 (sc_14 hS) rfl ?_
    obtain ⟨ws_95, h⟩ := ok_some h
    obtain ⟨ln_95, wt_95⟩ := hk_some ws_95
    obtain ⟨e_95, k_95, h⟩ := bd1_some h
    refine wx_cVi dX9_firstRule_95 ml_X9_95 my_X10_angleOn iv_X10_angleOn wt_95 (by decide) (s_X10_angleOn (d := d - 1) hS (by omega) k_95) rfl (by omega) (by exact Nat.le_of_ble_eq_true rfl) hcu hsu ?_
    refine wx_aload_n dX9_firstRule_98 rfl ?_
    refine wx_getI dX9_firstRule_99 fl_X9_55 (sc_14 hS) rfl ?_
    refine wx_isub dX9_firstRule_102 ?_
    refine wx_bipush (v := 72) dX9_firstRule_103 (by decide) ?_
    obtain ⟨e_105, k_105, h⟩ := bd1_some h
    refine wx_cSi dX9_firstRule_105 ml_X9_98 my_J9_floorMod_7cf53 sv_J9_floorMod_7cf53 (s_J9_floorMod_7cf53 (d := d - 1) hS (by omega) k_105) rfl (by omega) (by exact Nat.le_of_ble_eq_true rfl) hcu hsu ?_
    refine wx_goto (tgt := 112) dX9_firstRule_108 (by decide) ?_
    exact wx_sub (s_X9_firstRule_112 hS hd hcu hsu h g) (px_s rfl (px_s rfl (px_s rfl (px_s rfl px_0))))
noncomputable def f_X9_firstRule (sh : px_Sh) (M : px_M) (R : px_R) (a2 : Nat) (p3 : Int32) : Option (Int32 × px_M) :=
  bd1 (f_X9_hasWorld M (M 14 3)) fun e_5 =>
  nm (M 14 1) fun v_19 =>
  nm (px_u M 19 (0 : Int32).toNatClampNeg v_19) fun M_19 =>
  nm (M_19 14 2) fun v_29 =>
  nm (px_u M_19 19 (1 : Int32).toNatClampNeg v_29) fun M_29 =>
  nm (M_29 14 0) fun v_39 =>
  nm (px_u M_29 19 (2 : Int32).toNatClampNeg v_39) fun M_39 =>
  if e_5 = 0 then
    f_X9_firstRule_71 sh M_39 R a2 p3 e_5 0 3
  else
    nm (M_39 14 3) fun v_58 =>
    ok (ix v_58 4) <|
    bd1 (R 15 v_58.toNatClampNeg) fun b_58 =>
    ok (hk sh b_58 10) <|
    f_X9_firstRule_71 sh M_39 R a2 p3 e_5 ((M_39 b_58 0) - (M_39 14 1)) 3
theorem s_X9_firstRule {d : Nat} {X : Nat × (Nat → Int32)} {sh : px_Sh} {M : px_M} {L : px_L} {R : px_R} {n : Nat} {a2 : Nat} {p3 : Int32} {e : Int32 × px_M} (hS : SR sh R) (hd : 4 ≤ d) (h : f_X9_firstRule sh M R a2 p3 = some e) : MX yX9_firstRule cX9_firstRule 5 (some .int) d 0 0 X [.ref 14, .ref 6, .ref a2, .int p3] sh M L R n (px_pu (some (.int e.1)) sh e.2 L R n) := by
  refine MX.of (by decide +kernel) (by exact Nat.le_of_ble_eq_true rfl) ?_
  have hcu : 0 ≤ 0 := Nat.zero_le _
  have hsu : 0 ≤ 0 := Nat.zero_le _
  have g : px_pu (some (.int e.1)) sh e.2 L R n (some (.int e.1)) sh e.2 L R n := ⟨rfl, rfl, rfl, rfl, rfl, rfl⟩
  unfold f_X9_firstRule at h
  refine wx_aload_n dX9_firstRule_0 rfl ?_
  refine wx_aload_n dX9_firstRule_1 rfl ?_
  refine wx_getI dX9_firstRule_2 fl_X9_15 (sc_14 hS) rfl ?_
  obtain ⟨e_5, k_5, h⟩ := bd1_some h
  refine wx_cVi dX9_firstRule_5 ml_X9_47 my_X9_hasWorld iv_X9_hasWorld (sc_14 hS) (by decide) (s_X9_hasWorld (d := d - 1) hS (by omega) k_5) rfl (by omega) (by exact Nat.le_of_ble_eq_true rfl) hcu hsu ?_
  refine wx_istore (lv' := [(4, _), (0, _), (1, _), (2, _), (3, _)]) dX9_firstRule_8 (by decide) rfl ?_
  refine wx_aload_n dX9_firstRule_10 rfl ?_
  refine wx_getR dX9_firstRule_11 fl_X9_34 (sc_14 hS) rfl (rr_14_10 hS) ?_
  refine wx_iconst (v := 0) dX9_firstRule_14 (by decide) ?_
  refine wx_aload_n dX9_firstRule_15 rfl ?_
  refine wx_getI dX9_firstRule_16 fl_X9_9 (sc_14 hS) rfl ?_
  refine wx_nami (fun v_19 q_19 => ?_)
  replace h := nm_at h q_19
  refine wx_iast dX9_firstRule_19 (sc_19 hS) (ix_in (by decide)) ?_
  refine wx_namM (fun M_19 q_19 => ?_)
  replace h := nm_at h q_19
  refine wx_aload_n dX9_firstRule_20 rfl ?_
  refine wx_getR dX9_firstRule_21 fl_X9_34 (sc_14 hS) rfl (rr_14_10 hS) ?_
  refine wx_iconst (v := 1) dX9_firstRule_24 (by decide) ?_
  refine wx_aload_n dX9_firstRule_25 rfl ?_
  refine wx_getI dX9_firstRule_26 fl_X9_55 (sc_14 hS) rfl ?_
  refine wx_nami (fun v_29 q_29 => ?_)
  replace h := nm_at h q_29
  refine wx_iast dX9_firstRule_29 (sc_19 hS) (ix_in (by decide)) ?_
  refine wx_namM (fun M_29 q_29 => ?_)
  replace h := nm_at h q_29
  refine wx_aload_n dX9_firstRule_30 rfl ?_
  refine wx_getR dX9_firstRule_31 fl_X9_34 (sc_14 hS) rfl (rr_14_10 hS) ?_
  refine wx_iconst (v := 2) dX9_firstRule_34 (by decide) ?_
  refine wx_aload_n dX9_firstRule_35 rfl ?_
  refine wx_getI dX9_firstRule_36 fl_X9_52 (sc_14 hS) rfl ?_
  refine wx_nami (fun v_39 q_39 => ?_)
  replace h := nm_at h q_39
  refine wx_iast dX9_firstRule_39 (sc_19 hS) (ix_in (by decide)) ?_
  refine wx_namM (fun M_39 q_39 => ?_)
  replace h := nm_at h q_39
  refine wx_aload_n dX9_firstRule_40 rfl ?_
  refine wx_getR dX9_firstRule_41 fl_X9_34 (sc_14 hS) rfl (rr_14_10 hS) ?_
  refine wx_iconst (v := 3) dX9_firstRule_44 (by decide) ?_
  refine wx_iload dX9_firstRule_45 rfl ?_
  refine wx_if_eq (tgt := 70) dX9_firstRule_47 (by decide) (fun c_47 => ?_) (fun c_47 => ?_)
  · replace h := it_t h c_47
    refine wx_iconst (v := 0) dX9_firstRule_70 (by decide) ?_
    exact wx_sub (s_X9_firstRule_71 hS hd hcu hsu h g) (px_s rfl (px_s rfl (px_s rfl (px_s rfl (px_s rfl px_0)))))
  · replace h := it_f h c_47
    refine wx_aload_n dX9_firstRule_50 rfl ?_
    refine wx_getR dX9_firstRule_51 fl_X9_20 (sc_14 hS) rfl (rr_14_4 hS) ?_
    refine wx_aload_n dX9_firstRule_54 rfl ?_
    refine wx_getI dX9_firstRule_55 fl_X9_15 (sc_14 hS) rfl ?_
    refine wx_nami (fun v_58 q_58 => ?_)
    replace h := nm_at h q_58
    obtain ⟨w_58, h⟩ := ok_some h
    obtain ⟨b_58, wr_58, h⟩ := bd1_some h
    refine wx_aald dX9_firstRule_58 (sc_15 hS) (by decide) (by decide) (ix_in w_58) wr_58 ?_
    obtain ⟨ws_59, h⟩ := ok_some h
    obtain ⟨ln_59, wt_59⟩ := hk_some ws_59
    refine wx_getI dX9_firstRule_59 fl_X9_51 wt_59 rfl ?_
    refine wx_aload_n dX9_firstRule_62 rfl ?_
    refine wx_getI dX9_firstRule_63 fl_X9_9 (sc_14 hS) rfl ?_
    refine wx_isub dX9_firstRule_66 ?_
    refine wx_goto (tgt := 71) dX9_firstRule_67 (by decide) ?_
    exact wx_sub (s_X9_firstRule_71 hS hd hcu hsu h g) (px_s rfl (px_s rfl (px_s rfl (px_s rfl (px_s rfl px_0)))))
noncomputable def f_X9_isGoalMet (sh : px_Sh) (M : px_M) (R : px_R) : Option (Int32) :=
  bd1 (f_X9_hasWorld M (M 14 3)) fun e_5 =>
  if e_5 = 0 then
    some 0
  else
    nm (M 14 3) fun v_21 =>
    ok (ix v_21 4) <|
    bd1 (R 15 v_21.toNatClampNeg) fun b_21 =>
    ok (hk sh b_21 10) <|
    ok (hk sh b_21 10) <|
    bd1 (f_X10_aheadOn sh M b_21 (M 14 0) (M 14 2)) fun e_41 =>
    bd1 (f_X1_isMet ((M 14 1) - (M b_21 0)) e_41) fun e_44 =>
    ok (zb e_44) <|
    some e_44
theorem s_X9_isGoalMet {d : Nat} {X : Nat × (Nat → Int32)} {sh : px_Sh} {M : px_M} {L : px_L} {R : px_R} {n : Nat} {e : Int32} (hS : SR sh R) (hd : 2 ≤ d) (h : f_X9_isGoalMet sh M R = some e) : MX yX9_isGoalMet cX9_isGoalMet 2 (some .boolean) d 0 0 X [.ref 14] sh M L R n (px_pu (some (.int e)) sh M L R n) := by
  refine MX.of (by decide +kernel) (by exact Nat.le_of_ble_eq_true rfl) ?_
  have hcu : 0 ≤ 0 := Nat.zero_le _
  have hsu : 0 ≤ 0 := Nat.zero_le _
  have g : px_pu (some (.int e)) sh M L R n (some (.int e)) sh M L R n := ⟨rfl, rfl, rfl, rfl, rfl, rfl⟩
  unfold f_X9_isGoalMet at h
  refine wx_aload_n dX9_isGoalMet_0 rfl ?_
  refine wx_aload_n dX9_isGoalMet_1 rfl ?_
  refine wx_getI dX9_isGoalMet_2 fl_X9_15 (sc_14 hS) rfl ?_
  obtain ⟨e_5, k_5, h⟩ := bd1_some h
  refine wx_cVi dX9_isGoalMet_5 ml_X9_47 my_X9_hasWorld iv_X9_hasWorld (sc_14 hS) (by decide) (s_X9_hasWorld (d := d - 1) hS (by omega) k_5) rfl (by omega) (by exact Nat.le_of_ble_eq_true rfl) hcu hsu ?_
  refine wx_if_ne (tgt := 13) dX9_isGoalMet_8 (by decide) (fun c_8 => ?_) (fun c_8 => ?_)
  · replace h := it_f h c_8
    refine wx_aload_n dX9_isGoalMet_13 rfl ?_
    refine wx_getR dX9_isGoalMet_14 fl_X9_20 (sc_14 hS) rfl (rr_14_4 hS) ?_
    refine wx_aload_n dX9_isGoalMet_17 rfl ?_
    refine wx_getI dX9_isGoalMet_18 fl_X9_15 (sc_14 hS) rfl ?_
    refine wx_nami (fun v_21 q_21 => ?_)
    replace h := nm_at h q_21
    obtain ⟨w_21, h⟩ := ok_some h
    obtain ⟨b_21, wr_21, h⟩ := bd1_some h
    refine wx_aald dX9_isGoalMet_21 (sc_15 hS) (by decide) (by decide) (ix_in w_21) wr_21 ?_
    refine wx_astore_n (lv' := [(1, _), (0, _)]) dX9_isGoalMet_22 (by decide) rfl ?_
    refine wx_aload_n dX9_isGoalMet_23 rfl ?_
    refine wx_getI dX9_isGoalMet_24 fl_X9_9 (sc_14 hS) rfl ?_
    refine wx_aload_n dX9_isGoalMet_27 rfl ?_
    obtain ⟨ws_28, h⟩ := ok_some h
    obtain ⟨ln_28, wt_28⟩ := hk_some ws_28
    refine wx_getI dX9_isGoalMet_28 fl_X9_51 wt_28 rfl ?_
    refine wx_isub dX9_isGoalMet_31 ?_
    refine wx_aload_n dX9_isGoalMet_32 rfl ?_
    refine wx_aload_n dX9_isGoalMet_33 rfl ?_
    refine wx_getI dX9_isGoalMet_34 fl_X9_52 (sc_14 hS) rfl ?_
    refine wx_aload_n dX9_isGoalMet_37 rfl ?_
    refine wx_getI dX9_isGoalMet_38 fl_X9_55 (sc_14 hS) rfl ?_
    obtain ⟨ws_41, h⟩ := ok_some h
    obtain ⟨ln_41, wt_41⟩ := hk_some ws_41
    obtain ⟨e_41, k_41, h⟩ := bd1_some h
    refine wx_cVi dX9_isGoalMet_41 ml_X9_58 my_X10_aheadOn iv_X10_aheadOn wt_41 (by decide) (s_X10_aheadOn (d := d - 1) hS (by omega) k_41) rfl (by omega) (by exact Nat.le_of_ble_eq_true rfl) hcu hsu ?_
    obtain ⟨e_44, k_44, h⟩ := bd1_some h
    refine wx_cSi dX9_isGoalMet_44 ml_X9_62 my_X1_isMet sv_X1_isMet (s_X1_isMet (d := d - 1) hS (by omega) k_44) rfl (by omega) (by exact Nat.le_of_ble_eq_true rfl) hcu hsu ?_
    obtain ⟨w_47, h⟩ := ok_some h
    refine wx_zret dX9_isGoalMet_47 (zb_n w_47) hcu hsu ?_
    obtain rfl := Option.some.inj h
    exact g
  · replace h := it_t h c_8
    refine wx_iconst (v := 0) dX9_isGoalMet_11 (by decide) ?_
    refine wx_zret dX9_isGoalMet_12 rfl hcu hsu ?_
    obtain rfl := Option.some.inj h
    exact g
noncomputable def f_X9_fewestDays (sh : px_Sh) (M : px_M) (L : px_L) (R : px_R) (p1 : Int32) (p2 : Int32) (p3 : Int32) : Option (Int32 × px_M × px_L) :=
  bd1 (f_X11_turnOfDay (M 14 1)) fun e_9 =>
  nm ((M 14 2) + (p2 * e_9)) fun v_14 =>
  ok (ix p1 4) <|
  bd1 (R 15 p1.toNatClampNeg) fun b_21 =>
  ok (hk sh b_21 10) <|
  bd1 (f_X10_aheadOn sh M b_21 ((M 14 0) + p2) v_14) fun e_30 =>
  ok (ix p1 4) <|
  bd1 (R 15 p1.toNatClampNeg) fun b_40 =>
  ok (hk sh b_40 10) <|
  bd1 (f_X10_chartFor sh M R b_40 p3) fun e_42 =>
  ok (hk sh e_42.1 1) <|
  bd1 (f_X1_fewestFrom sh e_42.2 L R e_42.1 (e_42.2 14 1) e_30) fun e_51 =>
  some (e_51.1, e_51.2.1, e_51.2.2)
theorem s_X9_fewestDays {d : Nat} {X : Nat × (Nat → Int32)} {sh : px_Sh} {M : px_M} {L : px_L} {R : px_R} {n : Nat} {p1 : Int32} {p2 : Int32} {p3 : Int32} {e : Int32 × px_M × px_L} (hS : SR sh R) (hd : 4 ≤ d) (h : f_X9_fewestDays sh M L R p1 p2 p3 = some e) : MX yX9_fewestDays cX9_fewestDays 6 (some .int) d 0 0 X [.ref 14, .int p1, .int p2, .int p3] sh M L R n (px_pu (some (.int e.1)) sh e.2.1 e.2.2 R n) := by
  refine MX.of (by decide +kernel) (by exact Nat.le_of_ble_eq_true rfl) ?_
  have hcu : 0 ≤ 0 := Nat.zero_le _
  have hsu : 0 ≤ 0 := Nat.zero_le _
  have g : px_pu (some (.int e.1)) sh e.2.1 e.2.2 R n (some (.int e.1)) sh e.2.1 e.2.2 R n := ⟨rfl, rfl, rfl, rfl, rfl, rfl⟩
  unfold f_X9_fewestDays at h
  refine wx_aload_n dX9_fewestDays_0 rfl ?_
  refine wx_getI dX9_fewestDays_1 fl_X9_55 (sc_14 hS) rfl ?_
  refine wx_iload_n dX9_fewestDays_4 rfl ?_
  refine wx_aload_n dX9_fewestDays_5 rfl ?_
  refine wx_getI dX9_fewestDays_6 fl_X9_9 (sc_14 hS) rfl ?_
  obtain ⟨e_9, k_9, h⟩ := bd1_some h
  refine wx_cSi dX9_fewestDays_9 ml_X9_68 my_X11_turnOfDay sv_X11_turnOfDay (s_X11_turnOfDay (d := d - 1) hS (by omega) k_9) rfl (by omega) (by exact Nat.le_of_ble_eq_true rfl) hcu hsu ?_
  refine wx_imul dX9_fewestDays_12 ?_
  refine wx_iadd dX9_fewestDays_13 ?_
  refine wx_nami (fun v_14 q_14 => ?_)
  replace h := nm_at h q_14
  refine wx_istore (lv' := [(4, _), (0, _), (1, _), (2, _), (3, _)]) dX9_fewestDays_14 (by decide) rfl ?_
  refine wx_aload_n dX9_fewestDays_16 rfl ?_
  refine wx_getR dX9_fewestDays_17 fl_X9_20 (sc_14 hS) rfl (rr_14_4 hS) ?_
  refine wx_iload_n dX9_fewestDays_20 rfl ?_
  obtain ⟨w_21, h⟩ := ok_some h
  obtain ⟨b_21, wr_21, h⟩ := bd1_some h
  refine wx_aald dX9_fewestDays_21 (sc_15 hS) (by decide) (by decide) (ix_in w_21) wr_21 ?_
  refine wx_aload_n dX9_fewestDays_22 rfl ?_
  refine wx_getI dX9_fewestDays_23 fl_X9_52 (sc_14 hS) rfl ?_
  refine wx_iload_n dX9_fewestDays_26 rfl ?_
  refine wx_iadd dX9_fewestDays_27 ?_
  refine wx_iload dX9_fewestDays_28 rfl ?_
  obtain ⟨ws_30, h⟩ := ok_some h
  obtain ⟨ln_30, wt_30⟩ := hk_some ws_30
  obtain ⟨e_30, k_30, h⟩ := bd1_some h
  refine wx_cVi dX9_fewestDays_30 ml_X9_58 my_X10_aheadOn iv_X10_aheadOn wt_30 (by decide) (s_X10_aheadOn (d := d - 1) hS (by omega) k_30) rfl (by omega) (by exact Nat.le_of_ble_eq_true rfl) hcu hsu ?_
  refine wx_istore (lv' := [(5, _), (4, _), (0, _), (1, _), (2, _), (3, _)]) dX9_fewestDays_33 (by decide) rfl ?_
  refine wx_aload_n dX9_fewestDays_35 rfl ?_
  refine wx_getR dX9_fewestDays_36 fl_X9_20 (sc_14 hS) rfl (rr_14_4 hS) ?_
  refine wx_iload_n dX9_fewestDays_39 rfl ?_
  obtain ⟨w_40, h⟩ := ok_some h
  obtain ⟨b_40, wr_40, h⟩ := bd1_some h
  refine wx_aald dX9_fewestDays_40 (sc_15 hS) (by decide) (by decide) (ix_in w_40) wr_40 ?_
  refine wx_iload_n dX9_fewestDays_41 rfl ?_
  obtain ⟨ws_42, h⟩ := ok_some h
  obtain ⟨ln_42, wt_42⟩ := hk_some ws_42
  obtain ⟨e_42, k_42, h⟩ := bd1_some h
  refine wx_cVr dX9_fewestDays_42 ml_X9_72 my_X10_chartFor iv_X10_chartFor wt_42 (by decide) (s_X10_chartFor (d := d - 1) hS (by omega) k_42) rfl (by omega) (by exact Nat.le_of_ble_eq_true rfl) hcu hsu ?_
  refine wx_aload_n dX9_fewestDays_45 rfl ?_
  refine wx_getI dX9_fewestDays_46 fl_X9_9 (sc_14 hS) rfl ?_
  refine wx_iload dX9_fewestDays_49 rfl ?_
  obtain ⟨ws_51, h⟩ := ok_some h
  obtain ⟨ln_51, wt_51⟩ := hk_some ws_51
  obtain ⟨e_51, k_51, h⟩ := bd1_some h
  refine wx_cVi dX9_fewestDays_51 ml_X9_76 my_X1_fewestFrom iv_X1_fewestFrom wt_51 (by decide) (s_X1_fewestFrom (d := d - 1) hS (by omega) k_51) rfl (by omega) (by exact Nat.le_of_ble_eq_true rfl) hcu hsu ?_
  refine wx_iret dX9_fewestDays_54 hcu hsu ?_
  obtain rfl := Option.some.inj h
  exact g
noncomputable def f_X9_steerOfFirstWay_60 (sh : px_Sh) (M : px_M) (L : px_L) (R : px_R) (x2 : Int32) (x3 : Int32) (x4 : Int32) (a5 : Nat) (x6 : Int32) (x7 : Int32) (x8 : Int32) (x9 : Int32) : Option ((Int32 × Int32 × Int32 × Int32 × px_M × px_L) ⊕ (Int32 × px_M × px_L)) :=
  if x2 < x9 then
    some (.inr (x8, M, L))
  else
    ok (hk sh a5 1) <|
    bd1 (f_X1_firstSteer sh M L R a5 x6 x7 (x4 - x9)) fun e_77 =>
    ok (hk sh a5 1) <|
    bd1 (f_X1_aheadBehind sh e_77.2.1 a5 x6 x7) fun e_88 =>
    bd1 (f_X11_rhoBehind x6 e_77.1 x3) fun e_98 =>
    some (.inl (e_98, e_88, e_77.1, (x9 + 1), e_77.2.1, e_77.2.2))
theorem s_X9_steerOfFirstWay_60b {x2 : Int32} {x3 : Int32} {x4 : Int32} {a5 : Nat} {x6 : Int32} {x7 : Int32} {x8 : Int32} {x9 : Int32} {M : px_M} {L : px_L} {R : px_R} {e : ((Int32 × Int32 × Int32 × Int32 × px_M × px_L) ⊕ (Int32 × px_M × px_L))} (hS : SR sh R) (hd : 5 ≤ d) (hcu : cu ≤ mc) (hsu : su ≤ ms) (h : f_X9_steerOfFirstWay_60 sh M L R x2 x3 x4 a5 x6 x7 x8 x9 = some e) (g : (sE (fun a => WX RX9 cX9_steerOfFirstWay 10 (some .int) ("steerOfFirstWay", []) d mc ms X (px_QF Post mc ms) 60 [(2, .int x2), (3, .int x3), (4, .int x4), (5, .ref a5), (6, .int a.1), (7, .int a.2.1), (8, .int a.2.2.1), (9, .int a.2.2.2.1)] [] sh (a.2.2.2.2.1) (a.2.2.2.2.2) R n cu su) (fun t => WX RX9 cX9_steerOfFirstWay 10 (some .int) ("steerOfFirstWay", []) d mc ms X (px_QF Post mc ms) 109 [(8, .int t.1)] [] sh (t.2.1) (t.2.2) R n cu su)) e) : WX RX9 cX9_steerOfFirstWay 10 (some .int) ("steerOfFirstWay", []) d mc ms X (px_QF Post mc ms) 60 [(2, .int x2), (3, .int x3), (4, .int x4), (5, .ref a5), (6, .int x6), (7, .int x7), (8, .int x8), (9, .int x9)] [] sh M L R n cu su := by
  unfold f_X9_steerOfFirstWay_60 at h
  refine wx_iload dX9_steerOfFirstWay_60 rfl ?_
  refine wx_iload_n dX9_steerOfFirstWay_62 rfl ?_
  refine wx_icmp_gt (tgt := 109) dX9_steerOfFirstWay_63 (by decide) (fun c_63 => ?_) (fun c_63 => ?_)
  · replace h := it_t h c_63
    obtain rfl := Option.some.inj h
    replace g := sE_r g
    exact wx_sub g (px_s rfl px_0)
  · replace h := it_f h c_63
    refine wx_aload dX9_steerOfFirstWay_66 rfl ?_
    refine wx_iload dX9_steerOfFirstWay_68 rfl ?_
    refine wx_iload dX9_steerOfFirstWay_70 rfl ?_
    refine wx_iload dX9_steerOfFirstWay_72 rfl ?_
    refine wx_iload dX9_steerOfFirstWay_74 rfl ?_
    refine wx_isub dX9_steerOfFirstWay_76 ?_
    obtain ⟨ws_77, h⟩ := ok_some h
    obtain ⟨ln_77, wt_77⟩ := hk_some ws_77
    obtain ⟨e_77, k_77, h⟩ := bd1_some h
    refine wx_cVi dX9_steerOfFirstWay_77 ml_X9_83 my_X1_firstSteer iv_X1_firstSteer wt_77 (by decide) (s_X1_firstSteer (d := d - 1) hS (by omega) k_77) rfl (by omega) (by exact Nat.le_of_ble_eq_true rfl) hcu hsu ?_
    refine wx_istore (lv' := [(8, _), (2, _), (3, _), (4, _), (5, _), (6, _), (7, _), (9, _)]) dX9_steerOfFirstWay_80 (by decide) rfl ?_
    refine wx_aload dX9_steerOfFirstWay_82 rfl ?_
    refine wx_iload dX9_steerOfFirstWay_84 rfl ?_
    refine wx_iload dX9_steerOfFirstWay_86 rfl ?_
    obtain ⟨ws_88, h⟩ := ok_some h
    obtain ⟨ln_88, wt_88⟩ := hk_some ws_88
    obtain ⟨e_88, k_88, h⟩ := bd1_some h
    refine wx_cVi dX9_steerOfFirstWay_88 ml_X9_86 my_X1_aheadBehind iv_X1_aheadBehind wt_88 (by decide) (s_X1_aheadBehind (d := d - 1) hS (by omega) k_88) rfl (by omega) (by exact Nat.le_of_ble_eq_true rfl) hcu hsu ?_
    refine wx_istore (lv' := [(7, _), (8, _), (2, _), (3, _), (4, _), (5, _), (6, _), (9, _)]) dX9_steerOfFirstWay_91 (by decide) rfl ?_
    refine wx_iload dX9_steerOfFirstWay_93 rfl ?_
    refine wx_iload dX9_steerOfFirstWay_95 rfl ?_
    refine wx_iload_n dX9_steerOfFirstWay_97 rfl ?_
    obtain ⟨e_98, k_98, h⟩ := bd1_some h
    refine wx_cSi dX9_steerOfFirstWay_98 ml_X9_89 my_X11_rhoBehind sv_X11_rhoBehind (s_X11_rhoBehind (d := d - 1) hS (by omega) k_98) rfl (by omega) (by exact Nat.le_of_ble_eq_true rfl) hcu hsu ?_
    refine wx_istore (lv' := [(6, _), (7, _), (8, _), (2, _), (3, _), (4, _), (5, _), (9, _)]) dX9_steerOfFirstWay_101 (by decide) rfl ?_
    refine wx_iinc (lv' := [(9, _), (6, _), (7, _), (8, _), (2, _), (3, _), (4, _), (5, _)]) dX9_steerOfFirstWay_103 rfl (i_1 _) (by decide) rfl ?_
    refine wx_goto (tgt := 60) dX9_steerOfFirstWay_106 (by decide) ?_
    obtain rfl := Option.some.inj h
    replace g := sE_l g
    exact wx_sub g (px_s rfl (px_s rfl (px_s rfl (px_s rfl (px_s rfl (px_s rfl (px_s rfl (px_s rfl px_0))))))))
theorem s_X9_steerOfFirstWay_60 {x2 : Int32} {x3 : Int32} {x4 : Int32} {a5 : Nat} {x6 : Int32} {x7 : Int32} {x8 : Int32} {x9 : Int32} {M : px_M} {L : px_L} {R : px_R} {e : (Int32 × px_M × px_L)} (hS : SR sh R) (hd : 5 ≤ d) (hcu : cu ≤ mc) (hsu : su ≤ ms) (h : lpf (fun a : Int32 × Int32 × Int32 × Int32 × px_M × px_L => f_X9_steerOfFirstWay_60 sh a.2.2.2.2.1 a.2.2.2.2.2 R x2 x3 x4 a5 a.1 a.2.1 a.2.2.1 a.2.2.2.1) (x6, x7, x8, x9, M, L) = some e) (g : WX RX9 cX9_steerOfFirstWay 10 (some .int) ("steerOfFirstWay", []) d mc ms X (px_QF Post mc ms) 109 [(8, .int e.1)] [] sh (e.2.1) (e.2.2) R n cu su) : WX RX9 cX9_steerOfFirstWay 10 (some .int) ("steerOfFirstWay", []) d mc ms X (px_QF Post mc ms) 60 [(2, .int x2), (3, .int x3), (4, .int x4), (5, .ref a5), (6, .int x6), (7, .int x7), (8, .int x8), (9, .int x9)] [] sh M L R n cu su := by
  have key := lpf_wp (P := (fun a => WX RX9 cX9_steerOfFirstWay 10 (some .int) ("steerOfFirstWay", []) d mc ms X (px_QF Post mc ms) 60 [(2, .int x2), (3, .int x3), (4, .int x4), (5, .ref a5), (6, .int a.1), (7, .int a.2.1), (8, .int a.2.2.1), (9, .int a.2.2.2.1)] [] sh (a.2.2.2.2.1) (a.2.2.2.2.2) R n cu su)) (G := (fun t => WX RX9 cX9_steerOfFirstWay 10 (some .int) ("steerOfFirstWay", []) d mc ms X (px_QF Post mc ms) 109 [(8, .int t.1)] [] sh (t.2.1) (t.2.2) R n cu su)) (fun a r h g => s_X9_steerOfFirstWay_60b (x2 := x2) (x3 := x3) (x4 := x4) (a5 := a5) (x6 := a.1) (x7 := a.2.1) (x8 := a.2.2.1) (x9 := a.2.2.2.1) (M := a.2.2.2.2.1) (L := a.2.2.2.2.2) (R := R) hS hd hcu hsu h g) (a := (x6, x7, x8, x9, M, L)) h g
  exact key
noncomputable def f_X9_steerOfFirstWay (sh : px_Sh) (M : px_M) (L : px_L) (R : px_R) (p1 : Int32) (p2 : Int32) (p3 : Int32) : Option (Int32 × px_M × px_L) :=
  bd1 (f_X9_fewestDays sh M L R p1 0 p3) fun e_4 =>
  if p2 < e_4.1 then
    ok (ix p1 4) <|
    bd1 (R 15 p1.toNatClampNeg) fun b_22 =>
    ok (hk sh b_22 10) <|
    bd1 (f_X10_chartFor sh e_4.2.1 R b_22 p3) fun e_24 =>
    nm (e_24.2 14 1) fun v_33 =>
    ok (ix p1 4) <|
    bd1 (R 15 p1.toNatClampNeg) fun b_40 =>
    ok (hk sh b_40 10) <|
    bd1 (f_X10_aheadOn sh e_24.2 b_40 (e_24.2 14 0) (e_24.2 14 2)) fun e_49 =>
    bd1 (lpf (fun a : Int32 × Int32 × Int32 × Int32 × px_M × px_L => f_X9_steerOfFirstWay_60 sh a.2.2.2.2.1 a.2.2.2.2.2 R p2 p3 e_4.1 e_24.1 a.1 a.2.1 a.2.2.1 a.2.2.2.1) (v_33, e_49, 1, 0, e_24.2, e_4.2.2)) fun e_60 =>
    some (e_60.1, e_60.2.1, e_60.2.2)
  else
    some ((-1), e_4.2.1, e_4.2.2)
theorem s_X9_steerOfFirstWay {d : Nat} {X : Nat × (Nat → Int32)} {sh : px_Sh} {M : px_M} {L : px_L} {R : px_R} {n : Nat} {p1 : Int32} {p2 : Int32} {p3 : Int32} {e : Int32 × px_M × px_L} (hS : SR sh R) (hd : 5 ≤ d) (h : f_X9_steerOfFirstWay sh M L R p1 p2 p3 = some e) : MX yX9_steerOfFirstWay cX9_steerOfFirstWay 10 (some .int) d 0 0 X [.ref 14, .int p1, .int p2, .int p3] sh M L R n (px_pu (some (.int e.1)) sh e.2.1 e.2.2 R n) := by
  refine MX.of (by decide +kernel) (by exact Nat.le_of_ble_eq_true rfl) ?_
  have hcu : 0 ≤ 0 := Nat.zero_le _
  have hsu : 0 ≤ 0 := Nat.zero_le _
  have g : px_pu (some (.int e.1)) sh e.2.1 e.2.2 R n (some (.int e.1)) sh e.2.1 e.2.2 R n := ⟨rfl, rfl, rfl, rfl, rfl, rfl⟩
  unfold f_X9_steerOfFirstWay at h
  refine wx_aload_n dX9_steerOfFirstWay_0 rfl ?_
  refine wx_iload_n dX9_steerOfFirstWay_1 rfl ?_
  refine wx_iconst (v := 0) dX9_steerOfFirstWay_2 (by decide) ?_
  refine wx_iload_n dX9_steerOfFirstWay_3 rfl ?_
  obtain ⟨e_4, k_4, h⟩ := bd1_some h
  refine wx_cVi dX9_steerOfFirstWay_4 ml_X9_79 my_X9_fewestDays iv_X9_fewestDays (sc_14 hS) (by decide) (s_X9_fewestDays (d := d - 1) hS (by omega) k_4) rfl (by omega) (by exact Nat.le_of_ble_eq_true rfl) hcu hsu ?_
  refine wx_istore (lv' := [(4, _), (0, _), (1, _), (2, _), (3, _)]) dX9_steerOfFirstWay_7 (by decide) rfl ?_
  refine wx_iload_n dX9_steerOfFirstWay_9 rfl ?_
  refine wx_iload dX9_steerOfFirstWay_10 rfl ?_
  refine wx_icmp_lt (tgt := 17) dX9_steerOfFirstWay_12 (by decide) (fun c_12 => ?_) (fun c_12 => ?_)
  · replace h := it_t h c_12
    refine wx_aload_n dX9_steerOfFirstWay_17 rfl ?_
    refine wx_getR dX9_steerOfFirstWay_18 fl_X9_20 (sc_14 hS) rfl (rr_14_4 hS) ?_
    refine wx_iload_n dX9_steerOfFirstWay_21 rfl ?_
    obtain ⟨w_22, h⟩ := ok_some h
    obtain ⟨b_22, wr_22, h⟩ := bd1_some h
    refine wx_aald dX9_steerOfFirstWay_22 (sc_15 hS) (by decide) (by decide) (ix_in w_22) wr_22 ?_
    refine wx_iload_n dX9_steerOfFirstWay_23 rfl ?_
    obtain ⟨ws_24, h⟩ := ok_some h
    obtain ⟨ln_24, wt_24⟩ := hk_some ws_24
    obtain ⟨e_24, k_24, h⟩ := bd1_some h
    refine wx_cVr dX9_steerOfFirstWay_24 ml_X9_72 my_X10_chartFor iv_X10_chartFor wt_24 (by decide) (s_X10_chartFor (d := d - 1) hS (by omega) k_24) rfl (by omega) (by exact Nat.le_of_ble_eq_true rfl) hcu hsu ?_
    refine wx_astore (lv' := [(5, _), (4, _), (0, _), (1, _), (2, _), (3, _)]) dX9_steerOfFirstWay_27 (by decide) rfl ?_
    refine wx_aload_n dX9_steerOfFirstWay_29 rfl ?_
    refine wx_getI dX9_steerOfFirstWay_30 fl_X9_9 (sc_14 hS) rfl ?_
    refine wx_nami (fun v_33 q_33 => ?_)
    replace h := nm_at h q_33
    refine wx_istore (lv' := [(6, _), (5, _), (4, _), (0, _), (1, _), (2, _), (3, _)]) dX9_steerOfFirstWay_33 (by decide) rfl ?_
    refine wx_aload_n dX9_steerOfFirstWay_35 rfl ?_
    refine wx_getR dX9_steerOfFirstWay_36 fl_X9_20 (sc_14 hS) rfl (rr_14_4 hS) ?_
    refine wx_iload_n dX9_steerOfFirstWay_39 rfl ?_
    obtain ⟨w_40, h⟩ := ok_some h
    obtain ⟨b_40, wr_40, h⟩ := bd1_some h
    refine wx_aald dX9_steerOfFirstWay_40 (sc_15 hS) (by decide) (by decide) (ix_in w_40) wr_40 ?_
    refine wx_aload_n dX9_steerOfFirstWay_41 rfl ?_
    refine wx_getI dX9_steerOfFirstWay_42 fl_X9_52 (sc_14 hS) rfl ?_
    refine wx_aload_n dX9_steerOfFirstWay_45 rfl ?_
    refine wx_getI dX9_steerOfFirstWay_46 fl_X9_55 (sc_14 hS) rfl ?_
    obtain ⟨ws_49, h⟩ := ok_some h
    obtain ⟨ln_49, wt_49⟩ := hk_some ws_49
    obtain ⟨e_49, k_49, h⟩ := bd1_some h
    refine wx_cVi dX9_steerOfFirstWay_49 ml_X9_58 my_X10_aheadOn iv_X10_aheadOn wt_49 (by decide) (s_X10_aheadOn (d := d - 1) hS (by omega) k_49) rfl (by omega) (by exact Nat.le_of_ble_eq_true rfl) hcu hsu ?_
    refine wx_istore (lv' := [(7, _), (6, _), (5, _), (4, _), (0, _), (1, _), (2, _), (3, _)]) dX9_steerOfFirstWay_52 (by decide) rfl ?_
    refine wx_iconst (v := 1) dX9_steerOfFirstWay_54 (by decide) ?_
    refine wx_istore (lv' := [(8, _), (7, _), (6, _), (5, _), (4, _), (0, _), (1, _), (2, _), (3, _)]) dX9_steerOfFirstWay_55 (by decide) rfl ?_
    refine wx_iconst (v := 0) dX9_steerOfFirstWay_57 (by decide) ?_
    refine wx_istore (lv' := [(9, _), (8, _), (7, _), (6, _), (5, _), (4, _), (0, _), (1, _), (2, _), (3, _)]) dX9_steerOfFirstWay_58 (by decide) rfl ?_
    obtain ⟨e_60, k_60, h⟩ := bd1_some h
    refine wx_sub (s_X9_steerOfFirstWay_60 hS hd hcu hsu k_60 ?_) (px_s rfl (px_s rfl (px_s rfl (px_s rfl (px_s rfl (px_s rfl (px_s rfl (px_s rfl px_0))))))))
    refine wx_iload dX9_steerOfFirstWay_109 rfl ?_
    refine wx_iret dX9_steerOfFirstWay_111 hcu hsu ?_
    obtain rfl := Option.some.inj h
    exact g
  · replace h := it_f h c_12
    refine wx_iconst (v := (-1)) dX9_steerOfFirstWay_15 (by decide) ?_
    refine wx_iret dX9_steerOfFirstWay_16 hcu hsu ?_
    obtain rfl := Option.some.inj h
    exact g
noncomputable def f_X9_addDust (M : px_M) (p1 : Int32) (p2 : Int32) : Option (Int32 × px_M) :=
  if (M 14 8) = 20 then
    some ((-1), M)
  else
    ok (ix (M 14 8) 20) <|
    nm (px_u M 16 (M 14 8).toNatClampNeg p1) fun M_20 =>
    ok (ix (M_20 14 8) 20) <|
    nm (px_u M_20 17 (M_20 14 8).toNatClampNeg p2) fun M_30 =>
    nm ((M_30 14 8) + 1) fun v_38 =>
    nm (px_u M_30 14 8 v_38) fun M_38 =>
    some ((M_38 14 8), M_38)
theorem s_X9_addDust {d : Nat} {X : Nat × (Nat → Int32)} {sh : px_Sh} {M : px_M} {L : px_L} {R : px_R} {n : Nat} {p1 : Int32} {p2 : Int32} {e : Int32 × px_M} (hS : SR sh R) (hd : 0 ≤ d) (h : f_X9_addDust M p1 p2 = some e) : MX yX9_addDust cX9_addDust 3 (some .int) d 0 0 X [.ref 14, .int p1, .int p2] sh M L R n (px_pu (some (.int e.1)) sh e.2 L R n) := by
  refine MX.of (by decide +kernel) (by exact Nat.le_of_ble_eq_true rfl) ?_
  have hcu : 0 ≤ 0 := Nat.zero_le _
  have hsu : 0 ≤ 0 := Nat.zero_le _
  have g : px_pu (some (.int e.1)) sh e.2 L R n (some (.int e.1)) sh e.2 L R n := ⟨rfl, rfl, rfl, rfl, rfl, rfl⟩
  unfold f_X9_addDust at h
  refine wx_aload_n dX9_addDust_0 rfl ?_
  refine wx_getI dX9_addDust_1 fl_X9_92 (sc_14 hS) rfl ?_
  refine wx_bipush (v := 20) dX9_addDust_4 (by decide) ?_
  refine wx_icmp_ne (tgt := 11) dX9_addDust_6 (by decide) (fun c_6 => ?_) (fun c_6 => ?_)
  · replace h := it_f h c_6
    refine wx_aload_n dX9_addDust_11 rfl ?_
    refine wx_getR dX9_addDust_12 fl_X9_24 (sc_14 hS) rfl (rr_14_6 hS) ?_
    refine wx_aload_n dX9_addDust_15 rfl ?_
    refine wx_getI dX9_addDust_16 fl_X9_92 (sc_14 hS) rfl ?_
    refine wx_iload_n dX9_addDust_19 rfl ?_
    obtain ⟨w_20, h⟩ := ok_some h
    refine wx_iast dX9_addDust_20 (sc_16 hS) (ix_in w_20) ?_
    refine wx_namM (fun M_20 q_20 => ?_)
    replace h := nm_at h q_20
    refine wx_aload_n dX9_addDust_21 rfl ?_
    refine wx_getR dX9_addDust_22 fl_X9_28 (sc_14 hS) rfl (rr_14_7 hS) ?_
    refine wx_aload_n dX9_addDust_25 rfl ?_
    refine wx_getI dX9_addDust_26 fl_X9_92 (sc_14 hS) rfl ?_
    refine wx_iload_n dX9_addDust_29 rfl ?_
    obtain ⟨w_30, h⟩ := ok_some h
    refine wx_iast dX9_addDust_30 (sc_17 hS) (ix_in w_30) ?_
    refine wx_namM (fun M_30 q_30 => ?_)
    replace h := nm_at h q_30
    refine wx_aload_n dX9_addDust_31 rfl ?_
    refine wx_dup dX9_addDust_32 rfl ?_
    refine wx_getI dX9_addDust_33 fl_X9_92 (sc_14 hS) rfl ?_
    refine wx_iconst (v := 1) dX9_addDust_36 (by decide) ?_
    refine wx_iadd dX9_addDust_37 ?_
    refine wx_nami (fun v_38 q_38 => ?_)
    replace h := nm_at h q_38
    refine wx_putI dX9_addDust_38 fl_X9_92 (sc_14 hS) (Or.inl rfl) rfl ⟨rfl, rfl⟩ ?_
    refine wx_namM (fun M_38 q_38 => ?_)
    replace h := nm_at h q_38
    refine wx_aload_n dX9_addDust_41 rfl ?_
    refine wx_getI dX9_addDust_42 fl_X9_92 (sc_14 hS) rfl ?_
    refine wx_iret dX9_addDust_45 hcu hsu ?_
    obtain rfl := Option.some.inj h
    exact g
  · replace h := it_t h c_6
    refine wx_iconst (v := (-1)) dX9_addDust_9 (by decide) ?_
    refine wx_iret dX9_addDust_10 hcu hsu ?_
    obtain rfl := Option.some.inj h
    exact g
noncomputable def f_X9_tearByDust_51 (sh : px_Sh) (M : px_M) (R : px_R) (x2 : Int32) : Option ((Int32 × px_M) ⊕ (px_M)) :=
  some (.inl ((x2 + 1), M))
theorem s_X9_tearByDust_51 {x2 : Int32} {M : px_M} {L : px_L} {R : px_R} {e : ((Int32 × px_M) ⊕ (px_M))} (hS : SR sh R) (hd : 2 ≤ d) (hcu : cu ≤ mc) (hsu : su ≤ ms) (h : f_X9_tearByDust_51 sh M R x2 = some e) (g : (sE (fun a => WX RX9 cX9_tearByDust 3 none ("tearByDust", []) d mc ms X (px_QF Post mc ms) 2 [(0, .ref 14), (1, .ref 6), (2, .int a.1)] [] sh (a.2) L R n cu su) (fun t => WX RX9 cX9_tearByDust 3 none ("tearByDust", []) d mc ms X (px_QF Post mc ms) 57 [] [] sh t L R n cu su)) e) : WX RX9 cX9_tearByDust 3 none ("tearByDust", []) d mc ms X (px_QF Post mc ms) 51 [(0, .ref 14), (1, .ref 6), (2, .int x2)] [] sh M L R n cu su := by
  unfold f_X9_tearByDust_51 at h
  refine wx_iinc (lv' := [(2, _), (0, _), (1, _)]) dX9_tearByDust_51 rfl (i_1 _) (by decide) rfl ?_
  refine wx_goto (tgt := 2) dX9_tearByDust_54 (by decide) ?_
  obtain rfl := Option.some.inj h
  replace g := sE_l g
  exact wx_sub g (px_s rfl (px_s rfl (px_s rfl px_0)))
noncomputable def f_X9_tearByDust_2 (sh : px_Sh) (M : px_M) (R : px_R) (x2 : Int32) : Option ((Int32 × px_M) ⊕ (px_M)) :=
  if (M 14 8) ≤ x2 then
    some (.inr M)
  else
    ok (ix x2 20) <|
    if (M 17 x2.toNatClampNeg) = (M 14 0) then
      ok (ix x2 20) <|
      bd1 (f_X8_hasPanel M (M 16 x2.toNatClampNeg)) fun e_30 =>
      if e_30 = 0 then
        f_X9_tearByDust_51 sh M R x2
      else
        ok (ix x2 20) <|
        nm (M 16 x2.toNatClampNeg) fun v_46 =>
        ok (ix v_46 16) <|
        bd1 (R 7 v_46.toNatClampNeg) fun b_46 =>
        ok (hk sh b_46 5) <|
        nm (px_u M b_46 5 1) fun M_48 =>
        f_X9_tearByDust_51 sh M_48 R x2
    else
      f_X9_tearByDust_51 sh M R x2
theorem s_X9_tearByDust_2b {x2 : Int32} {M : px_M} {L : px_L} {R : px_R} {e : ((Int32 × px_M) ⊕ (px_M))} (hS : SR sh R) (hd : 2 ≤ d) (hcu : cu ≤ mc) (hsu : su ≤ ms) (h : f_X9_tearByDust_2 sh M R x2 = some e) (g : (sE (fun a => WX RX9 cX9_tearByDust 3 none ("tearByDust", []) d mc ms X (px_QF Post mc ms) 2 [(0, .ref 14), (1, .ref 6), (2, .int a.1)] [] sh (a.2) L R n cu su) (fun t => WX RX9 cX9_tearByDust 3 none ("tearByDust", []) d mc ms X (px_QF Post mc ms) 57 [] [] sh t L R n cu su)) e) : WX RX9 cX9_tearByDust 3 none ("tearByDust", []) d mc ms X (px_QF Post mc ms) 2 [(0, .ref 14), (1, .ref 6), (2, .int x2)] [] sh M L R n cu su := by
  unfold f_X9_tearByDust_2 at h
  refine wx_iload_n dX9_tearByDust_2 rfl ?_
  refine wx_aload_n dX9_tearByDust_3 rfl ?_
  refine wx_getI dX9_tearByDust_4 fl_X9_92 (sc_14 hS) rfl ?_
  refine wx_icmp_ge (tgt := 57) dX9_tearByDust_7 (by decide) (fun c_7 => ?_) (fun c_7 => ?_)
  · replace h := it_t h c_7
    obtain rfl := Option.some.inj h
    replace g := sE_r g
    exact wx_sub g px_0
  · replace h := it_f h c_7
    refine wx_aload_n dX9_tearByDust_10 rfl ?_
    refine wx_getR dX9_tearByDust_11 fl_X9_28 (sc_14 hS) rfl (rr_14_7 hS) ?_
    refine wx_iload_n dX9_tearByDust_14 rfl ?_
    obtain ⟨w_15, h⟩ := ok_some h
    refine wx_iald dX9_tearByDust_15 (sc_17 hS) (ix_in w_15) ?_
    refine wx_aload_n dX9_tearByDust_16 rfl ?_
    refine wx_getI dX9_tearByDust_17 fl_X9_52 (sc_14 hS) rfl ?_
    refine wx_icmp_ne (tgt := 51) dX9_tearByDust_20 (by decide) (fun c_20 => ?_) (fun c_20 => ?_)
    · replace h := it_f h c_20
      exact wx_sub (s_X9_tearByDust_51 hS hd hcu hsu h g) (px_s rfl (px_s rfl (px_s rfl px_0)))
    · replace h := it_t h c_20
      refine wx_aload_n dX9_tearByDust_23 rfl ?_
      refine wx_aload_n dX9_tearByDust_24 rfl ?_
      refine wx_getR dX9_tearByDust_25 fl_X9_24 (sc_14 hS) rfl (rr_14_6 hS) ?_
      refine wx_iload_n dX9_tearByDust_28 rfl ?_
      obtain ⟨w_29, h⟩ := ok_some h
      refine wx_iald dX9_tearByDust_29 (sc_16 hS) (ix_in w_29) ?_
      obtain ⟨e_30, k_30, h⟩ := bd1_some h
      refine wx_cVi dX9_tearByDust_30 ml_X9_161 my_X8_hasPanel iv_X8_hasPanel (sc_6 hS) (by decide) (s_X8_hasPanel (d := d - 1) hS (by omega) k_30) rfl (by omega) (by exact Nat.le_of_ble_eq_true rfl) hcu hsu ?_
      refine wx_if_eq (tgt := 51) dX9_tearByDust_33 (by decide) (fun c_33 => ?_) (fun c_33 => ?_)
      · replace h := it_t h c_33
        exact wx_sub (s_X9_tearByDust_51 hS hd hcu hsu h g) (px_s rfl (px_s rfl (px_s rfl px_0)))
      · replace h := it_f h c_33
        refine wx_aload_n dX9_tearByDust_36 rfl ?_
        refine wx_getR dX9_tearByDust_37 fl_X9_143 (sc_6 hS) rfl (rr_6_0 hS) ?_
        refine wx_aload_n dX9_tearByDust_40 rfl ?_
        refine wx_getR dX9_tearByDust_41 fl_X9_24 (sc_14 hS) rfl (rr_14_6 hS) ?_
        refine wx_iload_n dX9_tearByDust_44 rfl ?_
        obtain ⟨w_45, h⟩ := ok_some h
        refine wx_iald dX9_tearByDust_45 (sc_16 hS) (ix_in w_45) ?_
        refine wx_nami (fun v_46 q_46 => ?_)
        replace h := nm_at h q_46
        obtain ⟨w_46, h⟩ := ok_some h
        obtain ⟨b_46, wr_46, h⟩ := bd1_some h
        refine wx_aald dX9_tearByDust_46 (sc_7 hS) (by decide) (by decide) (ix_in w_46) wr_46 ?_
        refine wx_iconst (v := 1) dX9_tearByDust_47 (by decide) ?_
        obtain ⟨ws_48, h⟩ := ok_some h
        obtain ⟨ln_48, wt_48⟩ := hk_some ws_48
        refine wx_putI dX9_tearByDust_48 fl_X9_147 wt_48 (Or.inl rfl) rfl ⟨rfl, rfl⟩ ?_
        refine wx_namM (fun M_48 q_48 => ?_)
        replace h := nm_at h q_48
        exact wx_sub (s_X9_tearByDust_51 hS hd hcu hsu h g) (px_s rfl (px_s rfl (px_s rfl px_0)))
theorem s_X9_tearByDust_2 {x2 : Int32} {M : px_M} {L : px_L} {R : px_R} {e : (px_M)} (hS : SR sh R) (hd : 2 ≤ d) (hcu : cu ≤ mc) (hsu : su ≤ ms) (h : lpf (fun a : Int32 × px_M => f_X9_tearByDust_2 sh a.2 R a.1) (x2, M) = some e) (g : WX RX9 cX9_tearByDust 3 none ("tearByDust", []) d mc ms X (px_QF Post mc ms) 57 [] [] sh e L R n cu su) : WX RX9 cX9_tearByDust 3 none ("tearByDust", []) d mc ms X (px_QF Post mc ms) 2 [(0, .ref 14), (1, .ref 6), (2, .int x2)] [] sh M L R n cu su := by
  have key := lpf_wp (P := (fun a => WX RX9 cX9_tearByDust 3 none ("tearByDust", []) d mc ms X (px_QF Post mc ms) 2 [(0, .ref 14), (1, .ref 6), (2, .int a.1)] [] sh (a.2) L R n cu su)) (G := (fun t => WX RX9 cX9_tearByDust 3 none ("tearByDust", []) d mc ms X (px_QF Post mc ms) 57 [] [] sh t L R n cu su)) (fun a r h g => s_X9_tearByDust_2b (x2 := a.1) (M := a.2) (L := L) (R := R) hS hd hcu hsu h g) (a := (x2, M)) h g
  exact key
noncomputable def f_X9_tearByDust (sh : px_Sh) (M : px_M) (R : px_R) : Option (px_M) :=
  bd1 (lpf (fun a : Int32 × px_M => f_X9_tearByDust_2 sh a.2 R a.1) (0, M)) fun e_2 =>
  some e_2
theorem s_X9_tearByDust {d : Nat} {X : Nat × (Nat → Int32)} {sh : px_Sh} {M : px_M} {L : px_L} {R : px_R} {n : Nat} {e : px_M} (hS : SR sh R) (hd : 2 ≤ d) (h : f_X9_tearByDust sh M R = some e) : MX yX9_tearByDust cX9_tearByDust 3 none d 0 0 X [.ref 14, .ref 6] sh M L R n (px_pu none sh e L R n) := by
  refine MX.of (by decide +kernel) (by exact Nat.le_of_ble_eq_true rfl) ?_
  have hcu : 0 ≤ 0 := Nat.zero_le _
  have hsu : 0 ≤ 0 := Nat.zero_le _
  have g : px_pu none sh e L R n none sh e L R n := ⟨rfl, rfl, rfl, rfl, rfl, rfl⟩
  unfold f_X9_tearByDust at h
  refine wx_iconst (v := 0) dX9_tearByDust_0 (by decide) ?_
  refine wx_istore_n (lv' := [(2, _), (0, _), (1, _)]) dX9_tearByDust_1 (by decide) rfl ?_
  obtain ⟨e_2, k_2, h⟩ := bd1_some h
  refine wx_sub (s_X9_tearByDust_2 hS hd hcu hsu k_2 ?_) (px_s rfl (px_s rfl (px_s rfl px_0)))
  refine wx_vret dX9_tearByDust_57 hcu hsu ?_
  obtain rfl := Option.some.inj h
  exact g
noncomputable def f_X9_takeNote (M : px_M) (p1 : Int32) (p2 : Int32) : Option (px_M) :=
  nm (4 * ((M 14 0) - (M 14 0) / 64 * 64)) fun v_9 =>
  ok (ix v_9 256) <|
  nm (px_u M 18 v_9.toNatClampNeg p1) fun M_16 =>
  nm (M_16 14 1) fun v_28 =>
  ok (ix (v_9 + 1) 256) <|
  nm (px_u M_16 18 (v_9 + 1).toNatClampNeg v_28) fun M_28 =>
  nm (M_28 14 2) fun v_40 =>
  ok (ix (v_9 + 2) 256) <|
  nm (px_u M_28 18 (v_9 + 2).toNatClampNeg v_40) fun M_40 =>
  ok (ix (v_9 + 3) 256) <|
  nm (px_u M_40 18 (v_9 + 3).toNatClampNeg p2) fun M_49 =>
  some M_49
theorem s_X9_takeNote {d : Nat} {X : Nat × (Nat → Int32)} {sh : px_Sh} {M : px_M} {L : px_L} {R : px_R} {n : Nat} {p1 : Int32} {p2 : Int32} {e : px_M} (hS : SR sh R) (hd : 0 ≤ d) (h : f_X9_takeNote M p1 p2 = some e) : MX yX9_takeNote cX9_takeNote 4 none d 0 0 X [.ref 14, .int p1, .int p2] sh M L R n (px_pu none sh e L R n) := by
  refine MX.of (by decide +kernel) (by exact Nat.le_of_ble_eq_true rfl) ?_
  have hcu : 0 ≤ 0 := Nat.zero_le _
  have hsu : 0 ≤ 0 := Nat.zero_le _
  have g : px_pu none sh e L R n none sh e L R n := ⟨rfl, rfl, rfl, rfl, rfl, rfl⟩
  unfold f_X9_takeNote at h
  refine wx_iconst (v := 4) dX9_takeNote_0 (by decide) ?_
  refine wx_aload_n dX9_takeNote_1 rfl ?_
  refine wx_getI dX9_takeNote_2 fl_X9_52 (sc_14 hS) rfl ?_
  refine wx_bipush (v := 64) dX9_takeNote_5 (by decide) ?_
  refine wx_irem dX9_takeNote_7 (by decide) ?_
  refine wx_imul dX9_takeNote_8 ?_
  refine wx_nami (fun v_9 q_9 => ?_)
  replace h := nm_at h q_9
  refine wx_istore_n (lv' := [(3, _), (0, _), (1, _), (2, _)]) dX9_takeNote_9 (by decide) rfl ?_
  refine wx_aload_n dX9_takeNote_10 rfl ?_
  refine wx_getR dX9_takeNote_11 fl_X9_31 (sc_14 hS) rfl (rr_14_9 hS) ?_
  refine wx_iload_n dX9_takeNote_14 rfl ?_
  refine wx_iload_n dX9_takeNote_15 rfl ?_
  obtain ⟨w_16, h⟩ := ok_some h
  refine wx_iast dX9_takeNote_16 (sc_18 hS) (ix_in w_16) ?_
  refine wx_namM (fun M_16 q_16 => ?_)
  replace h := nm_at h q_16
  refine wx_aload_n dX9_takeNote_17 rfl ?_
  refine wx_getR dX9_takeNote_18 fl_X9_31 (sc_14 hS) rfl (rr_14_9 hS) ?_
  refine wx_iload_n dX9_takeNote_21 rfl ?_
  refine wx_iconst (v := 1) dX9_takeNote_22 (by decide) ?_
  refine wx_iadd dX9_takeNote_23 ?_
  refine wx_aload_n dX9_takeNote_24 rfl ?_
  refine wx_getI dX9_takeNote_25 fl_X9_9 (sc_14 hS) rfl ?_
  refine wx_nami (fun v_28 q_28 => ?_)
  replace h := nm_at h q_28
  obtain ⟨w_28, h⟩ := ok_some h
  refine wx_iast dX9_takeNote_28 (sc_18 hS) (ix_in w_28) ?_
  refine wx_namM (fun M_28 q_28 => ?_)
  replace h := nm_at h q_28
  refine wx_aload_n dX9_takeNote_29 rfl ?_
  refine wx_getR dX9_takeNote_30 fl_X9_31 (sc_14 hS) rfl (rr_14_9 hS) ?_
  refine wx_iload_n dX9_takeNote_33 rfl ?_
  refine wx_iconst (v := 2) dX9_takeNote_34 (by decide) ?_
  refine wx_iadd dX9_takeNote_35 ?_
  refine wx_aload_n dX9_takeNote_36 rfl ?_
  refine wx_getI dX9_takeNote_37 fl_X9_55 (sc_14 hS) rfl ?_
  refine wx_nami (fun v_40 q_40 => ?_)
  replace h := nm_at h q_40
  obtain ⟨w_40, h⟩ := ok_some h
  refine wx_iast dX9_takeNote_40 (sc_18 hS) (ix_in w_40) ?_
  refine wx_namM (fun M_40 q_40 => ?_)
  replace h := nm_at h q_40
  refine wx_aload_n dX9_takeNote_41 rfl ?_
  refine wx_getR dX9_takeNote_42 fl_X9_31 (sc_14 hS) rfl (rr_14_9 hS) ?_
  refine wx_iload_n dX9_takeNote_45 rfl ?_
  refine wx_iconst (v := 3) dX9_takeNote_46 (by decide) ?_
  refine wx_iadd dX9_takeNote_47 ?_
  refine wx_iload_n dX9_takeNote_48 rfl ?_
  obtain ⟨w_49, h⟩ := ok_some h
  refine wx_iast dX9_takeNote_49 (sc_18 hS) (ix_in w_49) ?_
  refine wx_namM (fun M_49 q_49 => ?_)
  replace h := nm_at h q_49
  refine wx_vret dX9_takeNote_50 hcu hsu ?_
  obtain rfl := Option.some.inj h
  exact g
noncomputable def f_X9_flyDay_149 (sh : px_Sh) (M : px_M) (R : px_R) (x3 : Int32) (x5 : Int32) (x6 : Int32) : Option ((Int32 × px_M) ⊕ (px_M)) :=
  some (.inl ((x6 + 1), M))
theorem s_X9_flyDay_149 {x3 : Int32} {x5 : Int32} {x6 : Int32} {M : px_M} {L : px_L} {R : px_R} {e : ((Int32 × px_M) ⊕ (px_M))} (hS : SR sh R) (hd : 5 ≤ d) (hcu : cu ≤ mc) (hsu : su ≤ ms) (h : f_X9_flyDay_149 sh M R x3 x5 x6 = some e) (g : (sE (fun a => WX RX9 cX9_flyDay 7 none ("flyDay", []) d mc ms X (px_QF Post mc ms) 96 [(0, .ref 14), (1, .ref 6), (3, .int x3), (5, .int x5), (6, .int a.1)] [] sh (a.2) L R n cu su) (fun t => WX RX9 cX9_flyDay 7 none ("flyDay", []) d mc ms X (px_QF Post mc ms) 155 [(0, .ref 14), (3, .int x3), (5, .int x5)] [] sh t L R n cu su)) e) : WX RX9 cX9_flyDay 7 none ("flyDay", []) d mc ms X (px_QF Post mc ms) 149 [(0, .ref 14), (1, .ref 6), (3, .int x3), (5, .int x5), (6, .int x6)] [] sh M L R n cu su := by
  unfold f_X9_flyDay_149 at h
  refine wx_iinc (lv' := [(6, _), (0, _), (1, _), (3, _), (5, _)]) dX9_flyDay_149 rfl (i_1 _) (by decide) rfl ?_
  refine wx_goto (tgt := 96) dX9_flyDay_152 (by decide) ?_
  obtain rfl := Option.some.inj h
  replace g := sE_l g
  exact wx_sub g (px_s rfl (px_s rfl (px_s rfl (px_s rfl (px_s rfl px_0)))))
noncomputable def f_X9_flyDay_146 (sh : px_Sh) (M : px_M) (R : px_R) (x3 : Int32) (x5 : Int32) (x6 : Int32) (z0 : Int32) (z1 : Int32) (z2 : Nat) : Option ((Int32 × px_M) ⊕ (px_M)) :=
  ok (hk sh z2 5) <|
  bd1 (f_X5_live sh M z2 z1 z0) fun e_146 =>
  f_X9_flyDay_149 sh e_146 R x3 x5 x6
theorem s_X9_flyDay_146 {x3 : Int32} {x5 : Int32} {x6 : Int32} {z0 : Int32} {z1 : Int32} {z2 : Nat} {M : px_M} {L : px_L} {R : px_R} {e : ((Int32 × px_M) ⊕ (px_M))} (hS : SR sh R) (hd : 5 ≤ d) (hcu : cu ≤ mc) (hsu : su ≤ ms) (h : f_X9_flyDay_146 sh M R x3 x5 x6 z0 z1 z2 = some e) (g : (sE (fun a => WX RX9 cX9_flyDay 7 none ("flyDay", []) d mc ms X (px_QF Post mc ms) 96 [(0, .ref 14), (1, .ref 6), (3, .int x3), (5, .int x5), (6, .int a.1)] [] sh (a.2) L R n cu su) (fun t => WX RX9 cX9_flyDay 7 none ("flyDay", []) d mc ms X (px_QF Post mc ms) 155 [(0, .ref 14), (3, .int x3), (5, .int x5)] [] sh t L R n cu su)) e) : WX RX9 cX9_flyDay 7 none ("flyDay", []) d mc ms X (px_QF Post mc ms) 146 [(0, .ref 14), (1, .ref 6), (3, .int x3), (5, .int x5), (6, .int x6)] [.int z0, .int z1, .ref z2] sh M L R n cu su := by
  unfold f_X9_flyDay_146 at h
  obtain ⟨ws_146, h⟩ := ok_some h
  obtain ⟨ln_146, wt_146⟩ := hk_some ws_146
  obtain ⟨e_146, k_146, h⟩ := bd1_some h
  refine wx_cVv dX9_flyDay_146 ml_X9_153 my_X5_live iv_X5_live wt_146 (by decide) (s_X5_live (d := d - 1) hS (by omega) k_146) rfl (by omega) (by exact Nat.le_of_ble_eq_true rfl) hcu hsu ?_
  exact wx_sub (s_X9_flyDay_149 hS hd hcu hsu h g) (px_s rfl (px_s rfl (px_s rfl (px_s rfl (px_s rfl px_0)))))
noncomputable def f_X9_flyDay_96 (sh : px_Sh) (M : px_M) (R : px_R) (x3 : Int32) (x5 : Int32) (x6 : Int32) : Option ((Int32 × px_M) ⊕ (px_M)) :=
  if (M 6 1) ≤ x6 then
    some (.inr M)
  else
    ok (ix x6 16) <|
    bd1 (R 7 x6.toNatClampNeg) fun b_111 =>
    ok (hk sh b_111 5) <|
    if (M b_111 5) = 0 then
      ok (ix x6 16) <|
      bd1 (R 7 x6.toNatClampNeg) fun b_124 =>
      if ((M 14 0) - (M 14 0) / 10 * 10) = 9 then
        f_X9_flyDay_146 sh M R x3 x5 x6 1 (M 14 1) b_124
      else
        f_X9_flyDay_146 sh M R x3 x5 x6 0 (M 14 1) b_124
    else
      f_X9_flyDay_149 sh M R x3 x5 x6
theorem s_X9_flyDay_96b {x3 : Int32} {x5 : Int32} {x6 : Int32} {M : px_M} {L : px_L} {R : px_R} {e : ((Int32 × px_M) ⊕ (px_M))} (hS : SR sh R) (hd : 5 ≤ d) (hcu : cu ≤ mc) (hsu : su ≤ ms) (h : f_X9_flyDay_96 sh M R x3 x5 x6 = some e) (g : (sE (fun a => WX RX9 cX9_flyDay 7 none ("flyDay", []) d mc ms X (px_QF Post mc ms) 96 [(0, .ref 14), (1, .ref 6), (3, .int x3), (5, .int x5), (6, .int a.1)] [] sh (a.2) L R n cu su) (fun t => WX RX9 cX9_flyDay 7 none ("flyDay", []) d mc ms X (px_QF Post mc ms) 155 [(0, .ref 14), (3, .int x3), (5, .int x5)] [] sh t L R n cu su)) e) : WX RX9 cX9_flyDay 7 none ("flyDay", []) d mc ms X (px_QF Post mc ms) 96 [(0, .ref 14), (1, .ref 6), (3, .int x3), (5, .int x5), (6, .int x6)] [] sh M L R n cu su := by
  unfold f_X9_flyDay_96 at h
  refine wx_iload dX9_flyDay_96 rfl ?_
  refine wx_aload_n dX9_flyDay_98 rfl ?_
  refine wx_getI dX9_flyDay_99 fl_X9_140 (sc_6 hS) rfl ?_
  refine wx_icmp_ge (tgt := 155) dX9_flyDay_102 (by decide) (fun c_102 => ?_) (fun c_102 => ?_)
  · replace h := it_t h c_102
    obtain rfl := Option.some.inj h
    replace g := sE_r g
    exact wx_sub g (px_s rfl (px_s rfl (px_s rfl px_0)))
  · replace h := it_f h c_102
    refine wx_aload_n dX9_flyDay_105 rfl ?_
    refine wx_getR dX9_flyDay_106 fl_X9_143 (sc_6 hS) rfl (rr_6_0 hS) ?_
    refine wx_iload dX9_flyDay_109 rfl ?_
    obtain ⟨w_111, h⟩ := ok_some h
    obtain ⟨b_111, wr_111, h⟩ := bd1_some h
    refine wx_aald dX9_flyDay_111 (sc_7 hS) (by decide) (by decide) (ix_in w_111) wr_111 ?_
    obtain ⟨ws_112, h⟩ := ok_some h
    obtain ⟨ln_112, wt_112⟩ := hk_some ws_112
    refine wx_getI dX9_flyDay_112 fl_X9_147 wt_112 rfl ?_
    refine wx_if_ne (tgt := 149) dX9_flyDay_115 (by decide) (fun c_115 => ?_) (fun c_115 => ?_)
    · replace h := it_f h c_115
      exact wx_sub (s_X9_flyDay_149 hS hd hcu hsu h g) (px_s rfl (px_s rfl (px_s rfl (px_s rfl (px_s rfl px_0)))))
    · replace h := it_t h c_115
      refine wx_aload_n dX9_flyDay_118 rfl ?_
      refine wx_getR dX9_flyDay_119 fl_X9_143 (sc_6 hS) rfl (rr_6_0 hS) ?_
      refine wx_iload dX9_flyDay_122 rfl ?_
      obtain ⟨w_124, h⟩ := ok_some h
      obtain ⟨b_124, wr_124, h⟩ := bd1_some h
      refine wx_aald dX9_flyDay_124 (sc_7 hS) (by decide) (by decide) (ix_in w_124) wr_124 ?_
      refine wx_aload_n dX9_flyDay_125 rfl ?_
      refine wx_getI dX9_flyDay_126 fl_X9_9 (sc_14 hS) rfl ?_
      refine wx_aload_n dX9_flyDay_129 rfl ?_
      refine wx_getI dX9_flyDay_130 fl_X9_52 (sc_14 hS) rfl ?_
      refine wx_bipush (v := 10) dX9_flyDay_133 (by decide) ?_
      refine wx_irem dX9_flyDay_135 (by decide) ?_
      refine wx_bipush (v := 9) dX9_flyDay_136 (by decide) ?_
      refine wx_icmp_ne (tgt := 145) dX9_flyDay_138 (by decide) (fun c_138 => ?_) (fun c_138 => ?_)
      · replace h := it_f h c_138
        refine wx_iconst (v := 0) dX9_flyDay_145 (by decide) ?_
        exact wx_sub (s_X9_flyDay_146 hS hd hcu hsu h g) (px_s rfl (px_s rfl (px_s rfl (px_s rfl (px_s rfl px_0)))))
      · replace h := it_t h c_138
        refine wx_iconst (v := 1) dX9_flyDay_141 (by decide) ?_
        refine wx_goto (tgt := 146) dX9_flyDay_142 (by decide) ?_
        exact wx_sub (s_X9_flyDay_146 hS hd hcu hsu h g) (px_s rfl (px_s rfl (px_s rfl (px_s rfl (px_s rfl px_0)))))
theorem s_X9_flyDay_96 {x3 : Int32} {x5 : Int32} {x6 : Int32} {M : px_M} {L : px_L} {R : px_R} {e : (px_M)} (hS : SR sh R) (hd : 5 ≤ d) (hcu : cu ≤ mc) (hsu : su ≤ ms) (h : lpf (fun a : Int32 × px_M => f_X9_flyDay_96 sh a.2 R x3 x5 a.1) (x6, M) = some e) (g : WX RX9 cX9_flyDay 7 none ("flyDay", []) d mc ms X (px_QF Post mc ms) 155 [(0, .ref 14), (3, .int x3), (5, .int x5)] [] sh e L R n cu su) : WX RX9 cX9_flyDay 7 none ("flyDay", []) d mc ms X (px_QF Post mc ms) 96 [(0, .ref 14), (1, .ref 6), (3, .int x3), (5, .int x5), (6, .int x6)] [] sh M L R n cu su := by
  have key := lpf_wp (P := (fun a => WX RX9 cX9_flyDay 7 none ("flyDay", []) d mc ms X (px_QF Post mc ms) 96 [(0, .ref 14), (1, .ref 6), (3, .int x3), (5, .int x5), (6, .int a.1)] [] sh (a.2) L R n cu su)) (G := (fun t => WX RX9 cX9_flyDay 7 none ("flyDay", []) d mc ms X (px_QF Post mc ms) 155 [(0, .ref 14), (3, .int x3), (5, .int x5)] [] sh t L R n cu su)) (fun a r h g => s_X9_flyDay_96b (x3 := x3) (x5 := x5) (x6 := a.1) (M := a.2) (L := L) (R := R) hS hd hcu hsu h g) (a := (x6, M)) h g
  exact key
noncomputable def f_X9_flyDay_55 (sh : px_Sh) (M : px_M) (R : px_R) (x3 : Int32) (x5 : Int32) : Option (px_M) :=
  bd1 (f_X11_turnOfDay (M 14 1)) fun e_64 =>
  nm (((M 14 2) + e_64) - ((M 14 2) + e_64) / 72 * 72) fun v_71 =>
  nm (px_u M 14 2 v_71) fun M_71 =>
  bd1 (f_X11_rhoBehind (M_71 14 1) x5 x3) fun e_82 =>
  nm (px_u M_71 14 1 e_82) fun M_85 =>
  bd1 (f_X9_tearByDust sh M_85 R) fun e_90 =>
  bd1 (lpf (fun a : Int32 × px_M => f_X9_flyDay_96 sh a.2 R x3 x5 a.1) (0, e_90)) fun e_96 =>
  bd1 (f_X9_takeNote e_96 x5 x3) fun e_159 =>
  nm ((e_159 14 0) + 1) fun v_169 =>
  nm (px_u e_159 14 0 v_169) fun M_169 =>
  some M_169
theorem s_X9_flyDay_55 {x3 : Int32} {x5 : Int32} {M : px_M} {L : px_L} {R : px_R} {e : (px_M)} (hS : SR sh R) (hd : 5 ≤ d) (hcu : cu ≤ mc) (hsu : su ≤ ms) (h : f_X9_flyDay_55 sh M R x3 x5 = some e) (g : Post none sh e L R n) : WX RX9 cX9_flyDay 7 none ("flyDay", []) d mc ms X (px_QF Post mc ms) 55 [(0, .ref 14), (1, .ref 6), (3, .int x3), (5, .int x5)] [] sh M L R n cu su := by
  unfold f_X9_flyDay_55 at h
  refine wx_aload_n dX9_flyDay_55 rfl ?_
  refine wx_aload_n dX9_flyDay_56 rfl ?_
  refine wx_getI dX9_flyDay_57 fl_X9_55 (sc_14 hS) rfl ?_
  refine wx_aload_n dX9_flyDay_60 rfl ?_
  refine wx_getI dX9_flyDay_61 fl_X9_9 (sc_14 hS) rfl ?_
  obtain ⟨e_64, k_64, h⟩ := bd1_some h
  refine wx_cSi dX9_flyDay_64 ml_X9_68 my_X11_turnOfDay sv_X11_turnOfDay (s_X11_turnOfDay (d := d - 1) hS (by omega) k_64) rfl (by omega) (by exact Nat.le_of_ble_eq_true rfl) hcu hsu ?_
  refine wx_iadd dX9_flyDay_67 ?_
  refine wx_bipush (v := 72) dX9_flyDay_68 (by decide) ?_
  refine wx_irem dX9_flyDay_70 (by decide) ?_
  refine wx_nami (fun v_71 q_71 => ?_)
  replace h := nm_at h q_71
  refine wx_putI dX9_flyDay_71 fl_X9_55 (sc_14 hS) (Or.inl rfl) rfl ⟨rfl, rfl⟩ ?_
  refine wx_namM (fun M_71 q_71 => ?_)
  replace h := nm_at h q_71
  refine wx_aload_n dX9_flyDay_74 rfl ?_
  refine wx_aload_n dX9_flyDay_75 rfl ?_
  refine wx_getI dX9_flyDay_76 fl_X9_9 (sc_14 hS) rfl ?_
  refine wx_iload dX9_flyDay_79 rfl ?_
  refine wx_iload_n dX9_flyDay_81 rfl ?_
  obtain ⟨e_82, k_82, h⟩ := bd1_some h
  refine wx_cSi dX9_flyDay_82 ml_X9_89 my_X11_rhoBehind sv_X11_rhoBehind (s_X11_rhoBehind (d := d - 1) hS (by omega) k_82) rfl (by omega) (by exact Nat.le_of_ble_eq_true rfl) hcu hsu ?_
  refine wx_putI dX9_flyDay_85 fl_X9_9 (sc_14 hS) (Or.inl rfl) rfl ⟨rfl, rfl⟩ ?_
  refine wx_namM (fun M_85 q_85 => ?_)
  replace h := nm_at h q_85
  refine wx_aload_n dX9_flyDay_88 rfl ?_
  refine wx_aload_n dX9_flyDay_89 rfl ?_
  obtain ⟨e_90, k_90, h⟩ := bd1_some h
  refine wx_cVv dX9_flyDay_90 ml_X9_136 my_X9_tearByDust iv_X9_tearByDust (sc_14 hS) (by decide) (s_X9_tearByDust (d := d - 1) hS (by omega) k_90) rfl (by omega) (by exact Nat.le_of_ble_eq_true rfl) hcu hsu ?_
  refine wx_iconst (v := 0) dX9_flyDay_93 (by decide) ?_
  refine wx_istore (lv' := [(6, _), (0, _), (1, _), (3, _), (5, _)]) dX9_flyDay_94 (by decide) rfl ?_
  obtain ⟨e_96, k_96, h⟩ := bd1_some h
  refine wx_sub (s_X9_flyDay_96 hS hd hcu hsu k_96 ?_) (px_s rfl (px_s rfl (px_s rfl (px_s rfl (px_s rfl px_0)))))
  refine wx_aload_n dX9_flyDay_155 rfl ?_
  refine wx_iload dX9_flyDay_156 rfl ?_
  refine wx_iload_n dX9_flyDay_158 rfl ?_
  obtain ⟨e_159, k_159, h⟩ := bd1_some h
  refine wx_cVv dX9_flyDay_159 ml_X9_157 my_X9_takeNote iv_X9_takeNote (sc_14 hS) (by decide) (s_X9_takeNote (d := d - 1) hS (by omega) k_159) rfl (by omega) (by exact Nat.le_of_ble_eq_true rfl) hcu hsu ?_
  refine wx_aload_n dX9_flyDay_162 rfl ?_
  refine wx_dup dX9_flyDay_163 rfl ?_
  refine wx_getI dX9_flyDay_164 fl_X9_52 (sc_14 hS) rfl ?_
  refine wx_iconst (v := 1) dX9_flyDay_167 (by decide) ?_
  refine wx_iadd dX9_flyDay_168 ?_
  refine wx_nami (fun v_169 q_169 => ?_)
  replace h := nm_at h q_169
  refine wx_putI dX9_flyDay_169 fl_X9_52 (sc_14 hS) (Or.inl rfl) rfl ⟨rfl, rfl⟩ ?_
  refine wx_namM (fun M_169 q_169 => ?_)
  replace h := nm_at h q_169
  refine wx_vret dX9_flyDay_172 hcu hsu ?_
  obtain rfl := Option.some.inj h
  exact g
noncomputable def f_X9_flyDay_30 (sh : px_Sh) (M : px_M) (R : px_R) (x3 : Int32) (z0 : Int32) : Option (px_M) :=
  bd1 (f_X11_rhoBehind (M 14 1) z0 x3) fun e_39 =>
  bd1 (f_X11_within e_39 0 255) fun e_46 =>
  if e_46 = 0 then
    f_X9_flyDay_55 sh M R x3 1
  else
    f_X9_flyDay_55 sh M R x3 z0
theorem s_X9_flyDay_30 {x3 : Int32} {z0 : Int32} {M : px_M} {L : px_L} {R : px_R} {e : (px_M)} (hS : SR sh R) (hd : 5 ≤ d) (hcu : cu ≤ mc) (hsu : su ≤ ms) (h : f_X9_flyDay_30 sh M R x3 z0 = some e) (g : Post none sh e L R n) : WX RX9 cX9_flyDay 7 none ("flyDay", []) d mc ms X (px_QF Post mc ms) 30 [(0, .ref 14), (1, .ref 6), (3, .int x3)] [.int z0] sh M L R n cu su := by
  unfold f_X9_flyDay_30 at h
  refine wx_istore (lv' := [(5, _), (0, _), (1, _), (3, _)]) dX9_flyDay_30 (by decide) rfl ?_
  refine wx_aload_n dX9_flyDay_32 rfl ?_
  refine wx_getI dX9_flyDay_33 fl_X9_9 (sc_14 hS) rfl ?_
  refine wx_iload dX9_flyDay_36 rfl ?_
  refine wx_iload_n dX9_flyDay_38 rfl ?_
  obtain ⟨e_39, k_39, h⟩ := bd1_some h
  refine wx_cSi dX9_flyDay_39 ml_X9_89 my_X11_rhoBehind sv_X11_rhoBehind (s_X11_rhoBehind (d := d - 1) hS (by omega) k_39) rfl (by omega) (by exact Nat.le_of_ble_eq_true rfl) hcu hsu ?_
  refine wx_iconst (v := 0) dX9_flyDay_42 (by decide) ?_
  refine wx_sipush (v := 255) dX9_flyDay_43 (by decide) ?_
  obtain ⟨e_46, k_46, h⟩ := bd1_some h
  refine wx_cSi dX9_flyDay_46 ml_X9_43 my_X11_within sv_X11_within (s_X11_within (d := d - 1) hS (by omega) k_46) rfl (by omega) (by exact Nat.le_of_ble_eq_true rfl) hcu hsu ?_
  refine wx_if_ne (tgt := 55) dX9_flyDay_49 (by decide) (fun c_49 => ?_) (fun c_49 => ?_)
  · replace h := it_f h c_49
    exact wx_sub (s_X9_flyDay_55 hS hd hcu hsu h g) (px_s rfl (px_s rfl (px_s rfl (px_s rfl px_0))))
  · replace h := it_t h c_49
    refine wx_iconst (v := 1) dX9_flyDay_52 (by decide) ?_
    refine wx_istore (lv' := [(5, _), (0, _), (1, _), (3, _)]) dX9_flyDay_53 (by decide) rfl ?_
    exact wx_sub (s_X9_flyDay_55 hS hd hcu hsu h g) (px_s rfl (px_s rfl (px_s rfl (px_s rfl px_0))))
noncomputable def f_X9_flyDay (sh : px_Sh) (M : px_M) (R : px_R) (a2 : Nat) : Option (px_M) :=
  bd1 (f_X8_strength sh M R) fun e_1 =>
  bd1 (f_X9_firstRule sh M R a2 e_1) fun e_9 =>
  if e_9.1 = (-1) then
    f_X9_flyDay_30 sh e_9.2 R e_1 1
  else
    ok (hk sh a2 7) <|
    bd1 (f_X7_steerOf sh e_9.2 R a2 e_9.1) fun e_27 =>
    f_X9_flyDay_30 sh e_9.2 R e_1 e_27
theorem s_X9_flyDay {d : Nat} {X : Nat × (Nat → Int32)} {sh : px_Sh} {M : px_M} {L : px_L} {R : px_R} {n : Nat} {a2 : Nat} {e : px_M} (hS : SR sh R) (hd : 5 ≤ d) (h : f_X9_flyDay sh M R a2 = some e) : MX yX9_flyDay cX9_flyDay 7 none d 0 0 X [.ref 14, .ref 6, .ref a2] sh M L R n (px_pu none sh e L R n) := by
  refine MX.of (by decide +kernel) (by exact Nat.le_of_ble_eq_true rfl) ?_
  have hcu : 0 ≤ 0 := Nat.zero_le _
  have hsu : 0 ≤ 0 := Nat.zero_le _
  have g : px_pu none sh e L R n none sh e L R n := ⟨rfl, rfl, rfl, rfl, rfl, rfl⟩
  unfold f_X9_flyDay at h
  refine wx_aload_n dX9_flyDay_0 rfl ?_
  obtain ⟨e_1, k_1, h⟩ := bd1_some h
  refine wx_cVi dX9_flyDay_1 ml_X9_126 my_X8_strength iv_X8_strength (sc_6 hS) (by decide) (s_X8_strength (d := d - 1) hS (by omega) k_1) rfl (by omega) (by exact Nat.le_of_ble_eq_true rfl) hcu hsu ?_
  refine wx_istore_n (lv' := [(3, _), (0, _), (1, _), (2, _)]) dX9_flyDay_4 (by decide) rfl ?_
  refine wx_aload_n dX9_flyDay_5 rfl ?_
  refine wx_aload_n dX9_flyDay_6 rfl ?_
  refine wx_aload_n dX9_flyDay_7 rfl ?_
  refine wx_iload_n dX9_flyDay_8 rfl ?_
  obtain ⟨e_9, k_9, h⟩ := bd1_some h
  refine wx_cVi dX9_flyDay_9 ml_X9_129 my_X9_firstRule iv_X9_firstRule (sc_14 hS) (by decide) (s_X9_firstRule (d := d - 1) hS (by omega) k_9) rfl (by omega) (by exact Nat.le_of_ble_eq_true rfl) hcu hsu ?_
  refine wx_istore (lv' := [(4, _), (3, _), (0, _), (1, _), (2, _)]) dX9_flyDay_12 (by decide) rfl ?_
  refine wx_iload dX9_flyDay_14 rfl ?_
  refine wx_iconst (v := (-1)) dX9_flyDay_16 (by decide) ?_
  refine wx_icmp_ne (tgt := 24) dX9_flyDay_17 (by decide) (fun c_17 => ?_) (fun c_17 => ?_)
  · replace h := it_f h c_17
    refine wx_aload_n dX9_flyDay_24 rfl ?_
    refine wx_iload dX9_flyDay_25 rfl ?_
    obtain ⟨ws_27, h⟩ := ok_some h
    obtain ⟨ln_27, wt_27⟩ := hk_some ws_27
    obtain ⟨e_27, k_27, h⟩ := bd1_some h
    refine wx_cVi dX9_flyDay_27 ml_X9_133 my_X7_steerOf iv_X7_steerOf wt_27 (by decide) (s_X7_steerOf (d := d - 1) hS (by omega) k_27) rfl (by omega) (by exact Nat.le_of_ble_eq_true rfl) hcu hsu ?_
    exact wx_sub (s_X9_flyDay_30 hS hd hcu hsu h g) (px_s rfl (px_s rfl (px_s rfl px_0)))
  · replace h := it_t h c_17
    refine wx_iconst (v := 1) dX9_flyDay_20 (by decide) ?_
    refine wx_goto (tgt := 30) dX9_flyDay_21 (by decide) ?_
    exact wx_sub (s_X9_flyDay_30 hS hd hcu hsu h g) (px_s rfl (px_s rfl (px_s rfl px_0)))
noncomputable def f_X9_flyFor_6 (sh : px_Sh) (M : px_M) (R : px_R) (x1 : Int32) (a3 : Nat) (x4 : Int32) (x5 : Int32) : Option ((Int32 × Int32 × px_M) ⊕ (Int32 × px_M)) :=
  if x1 ≤ x4 then
    some (.inr (x4, M))
  else
    if x5 = 0 then
      bd1 (f_X9_flyDay sh M R a3) fun e_20 =>
      bd1 (f_X9_isGoalMet sh e_20 R) fun e_27 =>
      some (.inl ((x4 + 1), e_27, e_20))
    else
      some (.inr (x4, M))
theorem s_X9_flyFor_6b {x1 : Int32} {a3 : Nat} {x4 : Int32} {x5 : Int32} {M : px_M} {L : px_L} {R : px_R} {e : ((Int32 × Int32 × px_M) ⊕ (Int32 × px_M))} (hS : SR sh R) (hd : 6 ≤ d) (hcu : cu ≤ mc) (hsu : su ≤ ms) (h : f_X9_flyFor_6 sh M R x1 a3 x4 x5 = some e) (g : (sE (fun a => WX RX9 cX9_flyFor 6 (some .int) ("flyFor", []) d mc ms X (px_QF Post mc ms) 6 [(0, .ref 14), (1, .int x1), (2, .ref 6), (3, .ref a3), (4, .int a.1), (5, .int a.2.1)] [] sh (a.2.2) L R n cu su) (fun t => WX RX9 cX9_flyFor 6 (some .int) ("flyFor", []) d mc ms X (px_QF Post mc ms) 35 [(4, .int t.1)] [] sh (t.2) L R n cu su)) e) : WX RX9 cX9_flyFor 6 (some .int) ("flyFor", []) d mc ms X (px_QF Post mc ms) 6 [(0, .ref 14), (1, .int x1), (2, .ref 6), (3, .ref a3), (4, .int x4), (5, .int x5)] [] sh M L R n cu su := by
  unfold f_X9_flyFor_6 at h
  refine wx_iload dX9_flyFor_6 rfl ?_
  refine wx_iload_n dX9_flyFor_8 rfl ?_
  refine wx_icmp_ge (tgt := 35) dX9_flyFor_9 (by decide) (fun c_9 => ?_) (fun c_9 => ?_)
  · replace h := it_t h c_9
    obtain rfl := Option.some.inj h
    replace g := sE_r g
    exact wx_sub g (px_s rfl px_0)
  · replace h := it_f h c_9
    refine wx_iload dX9_flyFor_12 rfl ?_
    refine wx_if_ne (tgt := 35) dX9_flyFor_14 (by decide) (fun c_14 => ?_) (fun c_14 => ?_)
    · replace h := it_f h c_14
      obtain rfl := Option.some.inj h
      replace g := sE_r g
      exact wx_sub g (px_s rfl px_0)
    · replace h := it_t h c_14
      refine wx_aload_n dX9_flyFor_17 rfl ?_
      refine wx_aload_n dX9_flyFor_18 rfl ?_
      refine wx_aload_n dX9_flyFor_19 rfl ?_
      obtain ⟨e_20, k_20, h⟩ := bd1_some h
      refine wx_cVv dX9_flyFor_20 ml_X9_118 my_X9_flyDay iv_X9_flyDay (sc_14 hS) (by decide) (s_X9_flyDay (d := d - 1) hS (by omega) k_20) rfl (by omega) (by exact Nat.le_of_ble_eq_true rfl) hcu hsu ?_
      refine wx_iinc (lv' := [(4, _), (0, _), (1, _), (2, _), (3, _), (5, _)]) dX9_flyFor_23 rfl (i_1 _) (by decide) rfl ?_
      refine wx_aload_n dX9_flyFor_26 rfl ?_
      obtain ⟨e_27, k_27, h⟩ := bd1_some h
      refine wx_cVi dX9_flyFor_27 ml_X9_122 my_X9_isGoalMet iv_X9_isGoalMet (sc_14 hS) (by decide) (s_X9_isGoalMet (d := d - 1) hS (by omega) k_27) rfl (by omega) (by exact Nat.le_of_ble_eq_true rfl) hcu hsu ?_
      refine wx_istore (lv' := [(5, _), (4, _), (0, _), (1, _), (2, _), (3, _)]) dX9_flyFor_30 (by decide) rfl ?_
      refine wx_goto (tgt := 6) dX9_flyFor_32 (by decide) ?_
      obtain rfl := Option.some.inj h
      replace g := sE_l g
      exact wx_sub g (px_s rfl (px_s rfl (px_s rfl (px_s rfl (px_s rfl (px_s rfl px_0))))))
theorem s_X9_flyFor_6 {x1 : Int32} {a3 : Nat} {x4 : Int32} {x5 : Int32} {M : px_M} {L : px_L} {R : px_R} {e : (Int32 × px_M)} (hS : SR sh R) (hd : 6 ≤ d) (hcu : cu ≤ mc) (hsu : su ≤ ms) (h : lpf (fun a : Int32 × Int32 × px_M => f_X9_flyFor_6 sh a.2.2 R x1 a3 a.1 a.2.1) (x4, x5, M) = some e) (g : WX RX9 cX9_flyFor 6 (some .int) ("flyFor", []) d mc ms X (px_QF Post mc ms) 35 [(4, .int e.1)] [] sh (e.2) L R n cu su) : WX RX9 cX9_flyFor 6 (some .int) ("flyFor", []) d mc ms X (px_QF Post mc ms) 6 [(0, .ref 14), (1, .int x1), (2, .ref 6), (3, .ref a3), (4, .int x4), (5, .int x5)] [] sh M L R n cu su := by
  have key := lpf_wp (P := (fun a => WX RX9 cX9_flyFor 6 (some .int) ("flyFor", []) d mc ms X (px_QF Post mc ms) 6 [(0, .ref 14), (1, .int x1), (2, .ref 6), (3, .ref a3), (4, .int a.1), (5, .int a.2.1)] [] sh (a.2.2) L R n cu su)) (G := (fun t => WX RX9 cX9_flyFor 6 (some .int) ("flyFor", []) d mc ms X (px_QF Post mc ms) 35 [(4, .int t.1)] [] sh (t.2) L R n cu su)) (fun a r h g => s_X9_flyFor_6b (x1 := x1) (a3 := a3) (x4 := a.1) (x5 := a.2.1) (M := a.2.2) (L := L) (R := R) hS hd hcu hsu h g) (a := (x4, x5, M)) h g
  exact key
noncomputable def f_X9_flyFor (sh : px_Sh) (M : px_M) (R : px_R) (p1 : Int32) (a3 : Nat) : Option (Int32 × px_M) :=
  bd1 (lpf (fun a : Int32 × Int32 × px_M => f_X9_flyFor_6 sh a.2.2 R p1 a3 a.1 a.2.1) (0, 0, M)) fun e_6 =>
  some (e_6.1, e_6.2)
theorem s_X9_flyFor {d : Nat} {X : Nat × (Nat → Int32)} {sh : px_Sh} {M : px_M} {L : px_L} {R : px_R} {n : Nat} {p1 : Int32} {a3 : Nat} {e : Int32 × px_M} (hS : SR sh R) (hd : 6 ≤ d) (h : f_X9_flyFor sh M R p1 a3 = some e) : MX yX9_flyFor cX9_flyFor 6 (some .int) d 0 0 X [.ref 14, .int p1, .ref 6, .ref a3] sh M L R n (px_pu (some (.int e.1)) sh e.2 L R n) := by
  refine MX.of (by decide +kernel) (by exact Nat.le_of_ble_eq_true rfl) ?_
  have hcu : 0 ≤ 0 := Nat.zero_le _
  have hsu : 0 ≤ 0 := Nat.zero_le _
  have g : px_pu (some (.int e.1)) sh e.2 L R n (some (.int e.1)) sh e.2 L R n := ⟨rfl, rfl, rfl, rfl, rfl, rfl⟩
  unfold f_X9_flyFor at h
  refine wx_iconst (v := 0) dX9_flyFor_0 (by decide) ?_
  refine wx_istore (lv' := [(4, _), (0, _), (1, _), (2, _), (3, _)]) dX9_flyFor_1 (by decide) rfl ?_
  refine wx_iconst (v := 0) dX9_flyFor_3 (by decide) ?_
  refine wx_istore (lv' := [(5, _), (4, _), (0, _), (1, _), (2, _), (3, _)]) dX9_flyFor_4 (by decide) rfl ?_
  obtain ⟨e_6, k_6, h⟩ := bd1_some h
  refine wx_sub (s_X9_flyFor_6 hS hd hcu hsu k_6 ?_) (px_s rfl (px_s rfl (px_s rfl (px_s rfl (px_s rfl (px_s rfl px_0))))))
  refine wx_iload dX9_flyFor_35 rfl ?_
  refine wx_iret dX9_flyFor_37 hcu hsu ?_
  obtain rfl := Option.some.inj h
  exact g
noncomputable def f_X9_noteOf_50 (M : px_M) (z0 : Int32) : Option (Int32) :=
  some z0
theorem s_X9_noteOf_50 {z0 : Int32} {M : px_M} {L : px_L} {R : px_R} {e : (Int32)} (hS : SR sh R) (hd : 1 ≤ d) (hcu : cu ≤ mc) (hsu : su ≤ ms) (h : f_X9_noteOf_50 M z0 = some e) (g : Post (some (.int e)) sh M L R n) : WX RX9 cX9_noteOf 4 (some .int) ("noteOf", []) d mc ms X (px_QF Post mc ms) 50 [] [.int z0] sh M L R n cu su := by
  unfold f_X9_noteOf_50 at h
  refine wx_iret dX9_noteOf_50 hcu hsu ?_
  obtain rfl := Option.some.inj h
  exact g
noncomputable def f_X9_noteOf_28 (M : px_M) (x1 : Int32) (x2 : Int32) (z0 : Int32) : Option (Int32) :=
  if z0 = 0 then
    f_X9_noteOf_50 M (-1)
  else
    nm ((4 * (x1 - x1 / 64 * 64)) + x2) fun v_45 =>
    ok (ix v_45 256) <|
    f_X9_noteOf_50 M (M 18 v_45.toNatClampNeg)
theorem s_X9_noteOf_28 {x1 : Int32} {x2 : Int32} {z0 : Int32} {M : px_M} {L : px_L} {R : px_R} {e : (Int32)} (hS : SR sh R) (hd : 1 ≤ d) (hcu : cu ≤ mc) (hsu : su ≤ ms) (h : f_X9_noteOf_28 M x1 x2 z0 = some e) (g : Post (some (.int e)) sh M L R n) : WX RX9 cX9_noteOf 4 (some .int) ("noteOf", []) d mc ms X (px_QF Post mc ms) 28 [(0, .ref 14), (1, .int x1), (2, .int x2)] [.int z0] sh M L R n cu su := by
  unfold f_X9_noteOf_28 at h
  refine wx_istore_n (lv' := [(3, _), (0, _), (1, _), (2, _)]) dX9_noteOf_28 (by decide) rfl ?_
  refine wx_iload_n dX9_noteOf_29 rfl ?_
  refine wx_if_eq (tgt := 49) dX9_noteOf_30 (by decide) (fun c_30 => ?_) (fun c_30 => ?_)
  · replace h := it_t h c_30
    refine wx_iconst (v := (-1)) dX9_noteOf_49 (by decide) ?_
    exact wx_sub (s_X9_noteOf_50 hS hd hcu hsu h g) px_0
  · replace h := it_f h c_30
    refine wx_aload_n dX9_noteOf_33 rfl ?_
    refine wx_getR dX9_noteOf_34 fl_X9_31 (sc_14 hS) rfl (rr_14_9 hS) ?_
    refine wx_iconst (v := 4) dX9_noteOf_37 (by decide) ?_
    refine wx_iload_n dX9_noteOf_38 rfl ?_
    refine wx_bipush (v := 64) dX9_noteOf_39 (by decide) ?_
    refine wx_irem dX9_noteOf_41 (by decide) ?_
    refine wx_imul dX9_noteOf_42 ?_
    refine wx_iload_n dX9_noteOf_43 rfl ?_
    refine wx_iadd dX9_noteOf_44 ?_
    refine wx_nami (fun v_45 q_45 => ?_)
    replace h := nm_at h q_45
    obtain ⟨w_45, h⟩ := ok_some h
    refine wx_iald dX9_noteOf_45 (sc_18 hS) (ix_in w_45) ?_
    refine wx_goto (tgt := 50) dX9_noteOf_46 (by decide) ?_
    exact wx_sub (s_X9_noteOf_50 hS hd hcu hsu h g) px_0
noncomputable def f_X9_noteOf_27 (M : px_M) (x1 : Int32) (x2 : Int32) : Option (Int32) :=
  f_X9_noteOf_28 M x1 x2 0
theorem s_X9_noteOf_27 {x1 : Int32} {x2 : Int32} {M : px_M} {L : px_L} {R : px_R} {e : (Int32)} (hS : SR sh R) (hd : 1 ≤ d) (hcu : cu ≤ mc) (hsu : su ≤ ms) (h : f_X9_noteOf_27 M x1 x2 = some e) (g : Post (some (.int e)) sh M L R n) : WX RX9 cX9_noteOf 4 (some .int) ("noteOf", []) d mc ms X (px_QF Post mc ms) 27 [(0, .ref 14), (1, .int x1), (2, .int x2)] [] sh M L R n cu su := by
  unfold f_X9_noteOf_27 at h
  refine wx_iconst (v := 0) dX9_noteOf_27 (by decide) ?_
  exact wx_sub (s_X9_noteOf_28 hS hd hcu hsu h g) (px_s rfl (px_s rfl (px_s rfl px_0)))
noncomputable def f_X9_noteOf (M : px_M) (p1 : Int32) (p2 : Int32) : Option (Int32) :=
  bd1 (f_J9_max_7cf53 0 ((M 14 0) - 64)) fun e_9 =>
  if p1 < e_9 then
    f_X9_noteOf_27 M p1 p2
  else
    if (M 14 0) ≤ p1 then
      f_X9_noteOf_27 M p1 p2
    else
      f_X9_noteOf_28 M p1 p2 1
theorem s_X9_noteOf {d : Nat} {X : Nat × (Nat → Int32)} {sh : px_Sh} {M : px_M} {L : px_L} {R : px_R} {n : Nat} {p1 : Int32} {p2 : Int32} {e : Int32} (hS : SR sh R) (hd : 1 ≤ d) (h : f_X9_noteOf M p1 p2 = some e) : MX yX9_noteOf cX9_noteOf 4 (some .int) d 0 0 X [.ref 14, .int p1, .int p2] sh M L R n (px_pu (some (.int e)) sh M L R n) := by
  refine MX.of (by decide +kernel) (by exact Nat.le_of_ble_eq_true rfl) ?_
  have hcu : 0 ≤ 0 := Nat.zero_le _
  have hsu : 0 ≤ 0 := Nat.zero_le _
  have g : px_pu (some (.int e)) sh M L R n (some (.int e)) sh M L R n := ⟨rfl, rfl, rfl, rfl, rfl, rfl⟩
  unfold f_X9_noteOf at h
  refine wx_iload_n dX9_noteOf_0 rfl ?_
  refine wx_iconst (v := 0) dX9_noteOf_1 (by decide) ?_
  refine wx_aload_n dX9_noteOf_2 rfl ?_
  refine wx_getI dX9_noteOf_3 fl_X9_52 (sc_14 hS) rfl ?_
  refine wx_bipush (v := 64) dX9_noteOf_6 (by decide) ?_
  refine wx_isub dX9_noteOf_8 ?_
  obtain ⟨e_9, k_9, h⟩ := bd1_some h
  refine wx_cSi dX9_noteOf_9 ml_X9_164 my_J9_max_7cf53 sv_J9_max_7cf53 (s_J9_max_7cf53 (d := d - 1) hS (by omega) k_9) rfl (by omega) (by exact Nat.le_of_ble_eq_true rfl) hcu hsu ?_
  refine wx_icmp_lt (tgt := 27) dX9_noteOf_12 (by decide) (fun c_12 => ?_) (fun c_12 => ?_)
  · replace h := it_t h c_12
    exact wx_sub (s_X9_noteOf_27 hS hd hcu hsu h g) (px_s rfl (px_s rfl (px_s rfl px_0)))
  · replace h := it_f h c_12
    refine wx_iload_n dX9_noteOf_15 rfl ?_
    refine wx_aload_n dX9_noteOf_16 rfl ?_
    refine wx_getI dX9_noteOf_17 fl_X9_52 (sc_14 hS) rfl ?_
    refine wx_icmp_ge (tgt := 27) dX9_noteOf_20 (by decide) (fun c_20 => ?_) (fun c_20 => ?_)
    · replace h := it_t h c_20
      exact wx_sub (s_X9_noteOf_27 hS hd hcu hsu h g) (px_s rfl (px_s rfl (px_s rfl px_0)))
    · replace h := it_f h c_20
      refine wx_iconst (v := 1) dX9_noteOf_23 (by decide) ?_
      refine wx_goto (tgt := 28) dX9_noteOf_24 (by decide) ?_
      exact wx_sub (s_X9_noteOf_28 hS hd hcu hsu h g) (px_s rfl (px_s rfl (px_s rfl px_0)))
noncomputable def f_X9_daysInAll_23 (sh : px_Sh) (M : px_M) (L : px_L) (R : px_R) (z0 : Int32) : Option (Int32 × px_M × px_L) :=
  some (z0, M, L)
theorem s_X9_daysInAll_23 {z0 : Int32} {M : px_M} {L : px_L} {R : px_R} {e : (Int32 × px_M × px_L)} (hS : SR sh R) (hd : 5 ≤ d) (hcu : cu ≤ mc) (hsu : su ≤ ms) (h : f_X9_daysInAll_23 sh M L R z0 = some e) (g : Post (some (.int (e.1))) sh (e.2.1) (e.2.2) R n) : WX RX9 cX9_daysInAll 5 (some .int) ("daysInAll", []) d mc ms X (px_QF Post mc ms) 23 [] [.int z0] sh M L R n cu su := by
  unfold f_X9_daysInAll_23 at h
  refine wx_iret dX9_daysInAll_23 hcu hsu ?_
  obtain rfl := Option.some.inj h
  exact g
noncomputable def f_X9_daysInAll (sh : px_Sh) (M : px_M) (L : px_L) (R : px_R) (p1 : Int32) (p2 : Int32) (p3 : Int32) : Option (Int32 × px_M × px_L) :=
  bd1 (f_X9_fewestDays sh M L R p1 p2 p3) fun e_4 =>
  if e_4.1 = (-1) then
    f_X9_daysInAll_23 sh e_4.2.1 e_4.2.2 R (-1)
  else
    f_X9_daysInAll_23 sh e_4.2.1 e_4.2.2 R (p2 + e_4.1)
theorem s_X9_daysInAll {d : Nat} {X : Nat × (Nat → Int32)} {sh : px_Sh} {M : px_M} {L : px_L} {R : px_R} {n : Nat} {p1 : Int32} {p2 : Int32} {p3 : Int32} {e : Int32 × px_M × px_L} (hS : SR sh R) (hd : 5 ≤ d) (h : f_X9_daysInAll sh M L R p1 p2 p3 = some e) : MX yX9_daysInAll cX9_daysInAll 5 (some .int) d 0 0 X [.ref 14, .int p1, .int p2, .int p3] sh M L R n (px_pu (some (.int e.1)) sh e.2.1 e.2.2 R n) := by
  refine MX.of (by decide +kernel) (by exact Nat.le_of_ble_eq_true rfl) ?_
  have hcu : 0 ≤ 0 := Nat.zero_le _
  have hsu : 0 ≤ 0 := Nat.zero_le _
  have g : px_pu (some (.int e.1)) sh e.2.1 e.2.2 R n (some (.int e.1)) sh e.2.1 e.2.2 R n := ⟨rfl, rfl, rfl, rfl, rfl, rfl⟩
  unfold f_X9_daysInAll at h
  refine wx_aload_n dX9_daysInAll_0 rfl ?_
  refine wx_iload_n dX9_daysInAll_1 rfl ?_
  refine wx_iload_n dX9_daysInAll_2 rfl ?_
  refine wx_iload_n dX9_daysInAll_3 rfl ?_
  obtain ⟨e_4, k_4, h⟩ := bd1_some h
  refine wx_cVi dX9_daysInAll_4 ml_X9_79 my_X9_fewestDays iv_X9_fewestDays (sc_14 hS) (by decide) (s_X9_fewestDays (d := d - 1) hS (by omega) k_4) rfl (by omega) (by exact Nat.le_of_ble_eq_true rfl) hcu hsu ?_
  refine wx_istore (lv' := [(4, _), (0, _), (1, _), (2, _), (3, _)]) dX9_daysInAll_7 (by decide) rfl ?_
  refine wx_iload dX9_daysInAll_9 rfl ?_
  refine wx_iconst (v := (-1)) dX9_daysInAll_11 (by decide) ?_
  refine wx_icmp_ne (tgt := 19) dX9_daysInAll_12 (by decide) (fun c_12 => ?_) (fun c_12 => ?_)
  · replace h := it_f h c_12
    refine wx_iload_n dX9_daysInAll_19 rfl ?_
    refine wx_iload dX9_daysInAll_20 rfl ?_
    refine wx_iadd dX9_daysInAll_22 ?_
    exact wx_sub (s_X9_daysInAll_23 hS hd hcu hsu h g) px_0
  · replace h := it_t h c_12
    refine wx_iconst (v := (-1)) dX9_daysInAll_15 (by decide) ?_
    refine wx_goto (tgt := 23) dX9_daysInAll_16 (by decide) ?_
    exact wx_sub (s_X9_daysInAll_23 hS hd hcu hsu h g) px_0
noncomputable def f_X9_bestWaiting_56 (sh : px_Sh) (M : px_M) (L : px_L) (R : px_R) (x1 : Int32) (x2 : Int32) (x3 : Int32) (x4 : Int32) (x5 : Int32) : Option ((Int32 × Int32 × Int32 × px_M × px_L) ⊕ (Int32 × px_M × px_L)) :=
  some (.inl (x3, x4, (x5 + 1), M, L))
theorem s_X9_bestWaiting_56 {x1 : Int32} {x2 : Int32} {x3 : Int32} {x4 : Int32} {x5 : Int32} {M : px_M} {L : px_L} {R : px_R} {e : ((Int32 × Int32 × Int32 × px_M × px_L) ⊕ (Int32 × px_M × px_L))} (hS : SR sh R) (hd : 5 ≤ d) (hcu : cu ≤ mc) (hsu : su ≤ ms) (h : f_X9_bestWaiting_56 sh M L R x1 x2 x3 x4 x5 = some e) (g : (sE (fun a => WX RX9 cX9_bestWaiting 7 (some .int) ("bestWaiting", []) d mc ms X (px_QF Post mc ms) 8 [(0, .ref 14), (1, .int x1), (2, .int x2), (3, .int a.1), (4, .int a.2.1), (5, .int a.2.2.1)] [] sh (a.2.2.2.1) (a.2.2.2.2) R n cu su) (fun t => WX RX9 cX9_bestWaiting 7 (some .int) ("bestWaiting", []) d mc ms X (px_QF Post mc ms) 62 [(3, .int t.1)] [] sh (t.2.1) (t.2.2) R n cu su)) e) : WX RX9 cX9_bestWaiting 7 (some .int) ("bestWaiting", []) d mc ms X (px_QF Post mc ms) 56 [(0, .ref 14), (1, .int x1), (2, .int x2), (3, .int x3), (4, .int x4), (5, .int x5)] [] sh M L R n cu su := by
  unfold f_X9_bestWaiting_56 at h
  refine wx_iinc (lv' := [(5, _), (0, _), (1, _), (2, _), (3, _), (4, _)]) dX9_bestWaiting_56 rfl (i_1 _) (by decide) rfl ?_
  refine wx_goto (tgt := 8) dX9_bestWaiting_59 (by decide) ?_
  obtain rfl := Option.some.inj h
  replace g := sE_l g
  exact wx_sub g (px_s rfl (px_s rfl (px_s rfl (px_s rfl (px_s rfl (px_s rfl px_0))))))
noncomputable def f_X9_bestWaiting_46 (sh : px_Sh) (M : px_M) (L : px_L) (R : px_R) (x1 : Int32) (x2 : Int32) (x5 : Int32) (x6 : Int32) : Option ((Int32 × Int32 × Int32 × px_M × px_L) ⊕ (Int32 × px_M × px_L)) :=
  nm (x5 + x6) fun v_54 =>
  f_X9_bestWaiting_56 sh M L R x1 x2 x5 v_54 x5
theorem s_X9_bestWaiting_46 {x1 : Int32} {x2 : Int32} {x5 : Int32} {x6 : Int32} {M : px_M} {L : px_L} {R : px_R} {e : ((Int32 × Int32 × Int32 × px_M × px_L) ⊕ (Int32 × px_M × px_L))} (hS : SR sh R) (hd : 5 ≤ d) (hcu : cu ≤ mc) (hsu : su ≤ ms) (h : f_X9_bestWaiting_46 sh M L R x1 x2 x5 x6 = some e) (g : (sE (fun a => WX RX9 cX9_bestWaiting 7 (some .int) ("bestWaiting", []) d mc ms X (px_QF Post mc ms) 8 [(0, .ref 14), (1, .int x1), (2, .int x2), (3, .int a.1), (4, .int a.2.1), (5, .int a.2.2.1)] [] sh (a.2.2.2.1) (a.2.2.2.2) R n cu su) (fun t => WX RX9 cX9_bestWaiting 7 (some .int) ("bestWaiting", []) d mc ms X (px_QF Post mc ms) 62 [(3, .int t.1)] [] sh (t.2.1) (t.2.2) R n cu su)) e) : WX RX9 cX9_bestWaiting 7 (some .int) ("bestWaiting", []) d mc ms X (px_QF Post mc ms) 46 [(0, .ref 14), (1, .int x1), (2, .int x2), (5, .int x5), (6, .int x6)] [] sh M L R n cu su := by
  unfold f_X9_bestWaiting_46 at h
  refine wx_iload dX9_bestWaiting_46 rfl ?_
  refine wx_istore_n (lv' := [(3, _), (0, _), (1, _), (2, _), (5, _), (6, _)]) dX9_bestWaiting_48 (by decide) rfl ?_
  refine wx_iload dX9_bestWaiting_49 rfl ?_
  refine wx_iload dX9_bestWaiting_51 rfl ?_
  refine wx_iadd dX9_bestWaiting_53 ?_
  refine wx_nami (fun v_54 q_54 => ?_)
  replace h := nm_at h q_54
  refine wx_istore (lv' := [(4, _), (3, _), (0, _), (1, _), (2, _), (5, _), (6, _)]) dX9_bestWaiting_54 (by decide) rfl ?_
  exact wx_sub (s_X9_bestWaiting_56 hS hd hcu hsu h g) (px_s rfl (px_s rfl (px_s rfl (px_s rfl (px_s rfl (px_s rfl px_0))))))
noncomputable def f_X9_bestWaiting_8 (sh : px_Sh) (M : px_M) (L : px_L) (R : px_R) (x1 : Int32) (x2 : Int32) (x3 : Int32) (x4 : Int32) (x5 : Int32) : Option ((Int32 × Int32 × Int32 × px_M × px_L) ⊕ (Int32 × px_M × px_L)) :=
  if 20 < x5 then
    some (.inr (x3, M, L))
  else
    bd1 (f_X9_fewestDays sh M L R x1 x5 x2) fun e_20 =>
    if e_20.1 = (-1) then
      f_X9_bestWaiting_56 sh e_20.2.1 e_20.2.2 R x1 x2 x3 x4 x5
    else
      if x3 = (-1) then
        f_X9_bestWaiting_46 sh e_20.2.1 e_20.2.2 R x1 x2 x5 e_20.1
      else
        if x4 ≤ (x5 + e_20.1) then
          f_X9_bestWaiting_56 sh e_20.2.1 e_20.2.2 R x1 x2 x3 x4 x5
        else
          f_X9_bestWaiting_46 sh e_20.2.1 e_20.2.2 R x1 x2 x5 e_20.1
theorem s_X9_bestWaiting_8b {x1 : Int32} {x2 : Int32} {x3 : Int32} {x4 : Int32} {x5 : Int32} {M : px_M} {L : px_L} {R : px_R} {e : ((Int32 × Int32 × Int32 × px_M × px_L) ⊕ (Int32 × px_M × px_L))} (hS : SR sh R) (hd : 5 ≤ d) (hcu : cu ≤ mc) (hsu : su ≤ ms) (h : f_X9_bestWaiting_8 sh M L R x1 x2 x3 x4 x5 = some e) (g : (sE (fun a => WX RX9 cX9_bestWaiting 7 (some .int) ("bestWaiting", []) d mc ms X (px_QF Post mc ms) 8 [(0, .ref 14), (1, .int x1), (2, .int x2), (3, .int a.1), (4, .int a.2.1), (5, .int a.2.2.1)] [] sh (a.2.2.2.1) (a.2.2.2.2) R n cu su) (fun t => WX RX9 cX9_bestWaiting 7 (some .int) ("bestWaiting", []) d mc ms X (px_QF Post mc ms) 62 [(3, .int t.1)] [] sh (t.2.1) (t.2.2) R n cu su)) e) : WX RX9 cX9_bestWaiting 7 (some .int) ("bestWaiting", []) d mc ms X (px_QF Post mc ms) 8 [(0, .ref 14), (1, .int x1), (2, .int x2), (3, .int x3), (4, .int x4), (5, .int x5)] [] sh M L R n cu su := by
  unfold f_X9_bestWaiting_8 at h
  refine wx_iload dX9_bestWaiting_8 rfl ?_
  refine wx_bipush (v := 20) dX9_bestWaiting_10 (by decide) ?_
  refine wx_icmp_gt (tgt := 62) dX9_bestWaiting_12 (by decide) (fun c_12 => ?_) (fun c_12 => ?_)
  · replace h := it_t h c_12
    obtain rfl := Option.some.inj h
    replace g := sE_r g
    exact wx_sub g (px_s rfl px_0)
  · replace h := it_f h c_12
    refine wx_aload_n dX9_bestWaiting_15 rfl ?_
    refine wx_iload_n dX9_bestWaiting_16 rfl ?_
    refine wx_iload dX9_bestWaiting_17 rfl ?_
    refine wx_iload_n dX9_bestWaiting_19 rfl ?_
    obtain ⟨e_20, k_20, h⟩ := bd1_some h
    refine wx_cVi dX9_bestWaiting_20 ml_X9_79 my_X9_fewestDays iv_X9_fewestDays (sc_14 hS) (by decide) (s_X9_fewestDays (d := d - 1) hS (by omega) k_20) rfl (by omega) (by exact Nat.le_of_ble_eq_true rfl) hcu hsu ?_
    refine wx_istore (lv' := [(6, _), (0, _), (1, _), (2, _), (3, _), (4, _), (5, _)]) dX9_bestWaiting_23 (by decide) rfl ?_
    refine wx_iload dX9_bestWaiting_25 rfl ?_
    refine wx_iconst (v := (-1)) dX9_bestWaiting_27 (by decide) ?_
    refine wx_icmp_eq (tgt := 56) dX9_bestWaiting_28 (by decide) (fun c_28 => ?_) (fun c_28 => ?_)
    · replace h := it_t h c_28
      exact wx_sub (s_X9_bestWaiting_56 hS hd hcu hsu h g) (px_s rfl (px_s rfl (px_s rfl (px_s rfl (px_s rfl (px_s rfl px_0))))))
    · replace h := it_f h c_28
      refine wx_iload_n dX9_bestWaiting_31 rfl ?_
      refine wx_iconst (v := (-1)) dX9_bestWaiting_32 (by decide) ?_
      refine wx_icmp_eq (tgt := 46) dX9_bestWaiting_33 (by decide) (fun c_33 => ?_) (fun c_33 => ?_)
      · replace h := it_t h c_33
        exact wx_sub (s_X9_bestWaiting_46 hS hd hcu hsu h g) (px_s rfl (px_s rfl (px_s rfl (px_s rfl (px_s rfl px_0)))))
      · replace h := it_f h c_33
        refine wx_iload dX9_bestWaiting_36 rfl ?_
        refine wx_iload dX9_bestWaiting_38 rfl ?_
        refine wx_iadd dX9_bestWaiting_40 ?_
        refine wx_iload dX9_bestWaiting_41 rfl ?_
        refine wx_icmp_ge (tgt := 56) dX9_bestWaiting_43 (by decide) (fun c_43 => ?_) (fun c_43 => ?_)
        · replace h := it_t h c_43
          exact wx_sub (s_X9_bestWaiting_56 hS hd hcu hsu h g) (px_s rfl (px_s rfl (px_s rfl (px_s rfl (px_s rfl (px_s rfl px_0))))))
        · replace h := it_f h c_43
          exact wx_sub (s_X9_bestWaiting_46 hS hd hcu hsu h g) (px_s rfl (px_s rfl (px_s rfl (px_s rfl (px_s rfl px_0)))))
theorem s_X9_bestWaiting_8 {x1 : Int32} {x2 : Int32} {x3 : Int32} {x4 : Int32} {x5 : Int32} {M : px_M} {L : px_L} {R : px_R} {e : (Int32 × px_M × px_L)} (hS : SR sh R) (hd : 5 ≤ d) (hcu : cu ≤ mc) (hsu : su ≤ ms) (h : lpf (fun a : Int32 × Int32 × Int32 × px_M × px_L => f_X9_bestWaiting_8 sh a.2.2.2.1 a.2.2.2.2 R x1 x2 a.1 a.2.1 a.2.2.1) (x3, x4, x5, M, L) = some e) (g : WX RX9 cX9_bestWaiting 7 (some .int) ("bestWaiting", []) d mc ms X (px_QF Post mc ms) 62 [(3, .int e.1)] [] sh (e.2.1) (e.2.2) R n cu su) : WX RX9 cX9_bestWaiting 7 (some .int) ("bestWaiting", []) d mc ms X (px_QF Post mc ms) 8 [(0, .ref 14), (1, .int x1), (2, .int x2), (3, .int x3), (4, .int x4), (5, .int x5)] [] sh M L R n cu su := by
  have key := lpf_wp (P := (fun a => WX RX9 cX9_bestWaiting 7 (some .int) ("bestWaiting", []) d mc ms X (px_QF Post mc ms) 8 [(0, .ref 14), (1, .int x1), (2, .int x2), (3, .int a.1), (4, .int a.2.1), (5, .int a.2.2.1)] [] sh (a.2.2.2.1) (a.2.2.2.2) R n cu su)) (G := (fun t => WX RX9 cX9_bestWaiting 7 (some .int) ("bestWaiting", []) d mc ms X (px_QF Post mc ms) 62 [(3, .int t.1)] [] sh (t.2.1) (t.2.2) R n cu su)) (fun a r h g => s_X9_bestWaiting_8b (x1 := x1) (x2 := x2) (x3 := a.1) (x4 := a.2.1) (x5 := a.2.2.1) (M := a.2.2.2.1) (L := a.2.2.2.2) (R := R) hS hd hcu hsu h g) (a := (x3, x4, x5, M, L)) h g
  exact key
noncomputable def f_X9_bestWaiting (sh : px_Sh) (M : px_M) (L : px_L) (R : px_R) (p1 : Int32) (p2 : Int32) : Option (Int32 × px_M × px_L) :=
  bd1 (lpf (fun a : Int32 × Int32 × Int32 × px_M × px_L => f_X9_bestWaiting_8 sh a.2.2.2.1 a.2.2.2.2 R p1 p2 a.1 a.2.1 a.2.2.1) ((-1), (-1), 0, M, L)) fun e_8 =>
  some (e_8.1, e_8.2.1, e_8.2.2)
theorem s_X9_bestWaiting {d : Nat} {X : Nat × (Nat → Int32)} {sh : px_Sh} {M : px_M} {L : px_L} {R : px_R} {n : Nat} {p1 : Int32} {p2 : Int32} {e : Int32 × px_M × px_L} (hS : SR sh R) (hd : 5 ≤ d) (h : f_X9_bestWaiting sh M L R p1 p2 = some e) : MX yX9_bestWaiting cX9_bestWaiting 7 (some .int) d 0 0 X [.ref 14, .int p1, .int p2] sh M L R n (px_pu (some (.int e.1)) sh e.2.1 e.2.2 R n) := by
  refine MX.of (by decide +kernel) (by exact Nat.le_of_ble_eq_true rfl) ?_
  have hcu : 0 ≤ 0 := Nat.zero_le _
  have hsu : 0 ≤ 0 := Nat.zero_le _
  have g : px_pu (some (.int e.1)) sh e.2.1 e.2.2 R n (some (.int e.1)) sh e.2.1 e.2.2 R n := ⟨rfl, rfl, rfl, rfl, rfl, rfl⟩
  unfold f_X9_bestWaiting at h
  refine wx_iconst (v := (-1)) dX9_bestWaiting_0 (by decide) ?_
  refine wx_istore_n (lv' := [(3, _), (0, _), (1, _), (2, _)]) dX9_bestWaiting_1 (by decide) rfl ?_
  refine wx_iconst (v := (-1)) dX9_bestWaiting_2 (by decide) ?_
  refine wx_istore (lv' := [(4, _), (3, _), (0, _), (1, _), (2, _)]) dX9_bestWaiting_3 (by decide) rfl ?_
  refine wx_iconst (v := 0) dX9_bestWaiting_5 (by decide) ?_
  refine wx_istore (lv' := [(5, _), (4, _), (3, _), (0, _), (1, _), (2, _)]) dX9_bestWaiting_6 (by decide) rfl ?_
  obtain ⟨e_8, k_8, h⟩ := bd1_some h
  refine wx_sub (s_X9_bestWaiting_8 hS hd hcu hsu k_8 ?_) (px_s rfl (px_s rfl (px_s rfl (px_s rfl (px_s rfl (px_s rfl px_0))))))
  refine wx_iload_n dX9_bestWaiting_62 rfl ?_
  refine wx_iret dX9_bestWaiting_63 hcu hsu ?_
  obtain rfl := Option.some.inj h
  exact g
end LIFT
