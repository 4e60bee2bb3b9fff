/-! Hiding -/
section LIFT
variable {d mc ms : Nat} {X : Nat × (Nat → Int32)} {Post : px_Post} {sh : px_Sh} {n cu su : Nat}
noncomputable def f_X3_addCoat (M : px_M) (p1 : Int32) (p2 : Int32) : Option (Int32 × px_M) :=
  if (M 27 2) = 5 then
    some ((-1), M)
  else
    ok (ix (M 27 2) 5) <|
    nm (px_u M 28 (M 27 2).toNatClampNeg p1) fun M_19 =>
    ok (ix (M_19 27 2) 5) <|
    nm (px_u M_19 29 (M_19 27 2).toNatClampNeg p2) fun M_29 =>
    nm (M_29 27 2) fun v_35 =>
    nm (v_35 + 1) fun v_38 =>
    nm (px_u M_29 27 2 v_38) fun M_38 =>
    some (v_35, M_38)
theorem s_X3_addCoat {d : Nat} {X : Nat × (Nat → Int32)} {sh : px_Sh} {M : px_M} {L : px_L} {R : px_R} {n : Nat} {p1 : Int32} {p2 : Int32} {e : Int32 × px_M} (hS : SR sh R) (hd : 0 ≤ d) (h : f_X3_addCoat M p1 p2 = some e) : MX yX3_addCoat cX3_addCoat 3 (some .int) d 0 0 X [.ref 27, .int p1, .int p2] sh M L R n (px_pu (some (.int e.1)) sh e.2 L R n) := by
  refine MX.of (by decide +kernel) (by exact Nat.le_of_ble_eq_true rfl) ?_
  have hcu : 0 ≤ 0 := Nat.zero_le _
  have hsu : 0 ≤ 0 := Nat.zero_le _
  have g : px_pu (some (.int e.1)) sh e.2 L R n (some (.int e.1)) sh e.2 L R n := ⟨rfl, rfl, rfl, rfl, rfl, rfl⟩
  unfold f_X3_addCoat at h
  refine wx_aload_n dX3_addCoat_0 rfl ?_
  refine wx_getI dX3_addCoat_1 fl_X3_51 (sc_27 hS) rfl ?_
  refine wx_iconst (v := 5) dX3_addCoat_4 (by decide) ?_
  refine wx_icmp_ne (tgt := 10) dX3_addCoat_5 (by decide) (fun c_5 => ?_) (fun c_5 => ?_)
  · replace h := it_f h c_5
    refine wx_aload_n dX3_addCoat_10 rfl ?_
    refine wx_getR dX3_addCoat_11 fl_X3_13 (sc_27 hS) rfl (rr_27_0 hS) ?_
    refine wx_aload_n dX3_addCoat_14 rfl ?_
    refine wx_getI dX3_addCoat_15 fl_X3_51 (sc_27 hS) rfl ?_
    refine wx_iload_n dX3_addCoat_18 rfl ?_
    obtain ⟨w_19, h⟩ := ok_some h
    refine wx_iast dX3_addCoat_19 (sc_28 hS) (ix_in w_19) ?_
    refine wx_namM (fun M_19 q_19 => ?_)
    replace h := nm_at h q_19
    refine wx_aload_n dX3_addCoat_20 rfl ?_
    refine wx_getR dX3_addCoat_21 fl_X3_17 (sc_27 hS) rfl (rr_27_1 hS) ?_
    refine wx_aload_n dX3_addCoat_24 rfl ?_
    refine wx_getI dX3_addCoat_25 fl_X3_51 (sc_27 hS) rfl ?_
    refine wx_iload_n dX3_addCoat_28 rfl ?_
    obtain ⟨w_29, h⟩ := ok_some h
    refine wx_iast dX3_addCoat_29 (sc_29 hS) (ix_in w_29) ?_
    refine wx_namM (fun M_29 q_29 => ?_)
    replace h := nm_at h q_29
    refine wx_aload_n dX3_addCoat_30 rfl ?_
    refine wx_dup dX3_addCoat_31 rfl ?_
    refine wx_getI dX3_addCoat_32 fl_X3_51 (sc_27 hS) rfl ?_
    refine wx_nami (fun v_35 q_35 => ?_)
    replace h := nm_at h q_35
    refine wx_dup_x1 dX3_addCoat_35 rfl rfl ?_
    refine wx_iconst (v := 1) dX3_addCoat_36 (by decide) ?_
    refine wx_iadd dX3_addCoat_37 ?_
    refine wx_nami (fun v_38 q_38 => ?_)
    replace h := nm_at h q_38
    refine wx_putI dX3_addCoat_38 fl_X3_51 (sc_27 hS) (Or.inl rfl) rfl ⟨rfl, rfl⟩ ?_
    refine wx_namM (fun M_38 q_38 => ?_)
    replace h := nm_at h q_38
    refine wx_iret dX3_addCoat_41 hcu hsu ?_
    obtain rfl := Option.some.inj h
    exact g
  · replace h := it_t h c_5
    refine wx_iconst (v := (-1)) dX3_addCoat_8 (by decide) ?_
    refine wx_iret dX3_addCoat_9 hcu hsu ?_
    obtain rfl := Option.some.inj h
    exact g
noncomputable def f_X3_addSight (M : px_M) (p1 : Int32) (p2 : Int32) (p3 : Int32) : Option (Int32 × px_M) :=
  if (M 27 6) = 6 then
    some ((-1), M)
  else
    ok (ix (M 27 6) 6) <|
    nm (px_u M 30 (M 27 6).toNatClampNeg p1) fun M_20 =>
    ok (ix (M_20 27 6) 6) <|
    nm (px_u M_20 31 (M_20 27 6).toNatClampNeg p2) fun M_30 =>
    ok (ix (M_30 27 6) 6) <|
    nm (px_u M_30 32 (M_30 27 6).toNatClampNeg p3) fun M_40 =>
    nm ((M_40 27 6) + 1) fun v_48 =>
    nm (px_u M_40 27 6 v_48) fun M_48 =>
    some ((M_48 27 6), M_48)
theorem s_X3_addSight {d : Nat} {X : Nat × (Nat → Int32)} {sh : px_Sh} {M : px_M} {L : px_L} {R : px_R} {n : Nat} {p1 : Int32} {p2 : Int32} {p3 : Int32} {e : Int32 × px_M} (hS : SR sh R) (hd : 0 ≤ d) (h : f_X3_addSight M p1 p2 p3 = some e) : MX yX3_addSight cX3_addSight 4 (some .int) d 0 0 X [.ref 27, .int p1, .int p2, .int p3] sh M L R n (px_pu (some (.int e.1)) sh e.2 L R n) := by
  refine MX.of (by decide +kernel) (by exact Nat.le_of_ble_eq_true rfl) ?_
  have hcu : 0 ≤ 0 := Nat.zero_le _
  have hsu : 0 ≤ 0 := Nat.zero_le _
  have g : px_pu (some (.int e.1)) sh e.2 L R n (some (.int e.1)) sh e.2 L R n := ⟨rfl, rfl, rfl, rfl, rfl, rfl⟩
  unfold f_X3_addSight at h
  refine wx_aload_n dX3_addSight_0 rfl ?_
  refine wx_getI dX3_addSight_1 fl_X3_55 (sc_27 hS) rfl ?_
  refine wx_bipush (v := 6) dX3_addSight_4 (by decide) ?_
  refine wx_icmp_ne (tgt := 11) dX3_addSight_6 (by decide) (fun c_6 => ?_) (fun c_6 => ?_)
  · replace h := it_f h c_6
    refine wx_aload_n dX3_addSight_11 rfl ?_
    refine wx_getR dX3_addSight_12 fl_X3_20 (sc_27 hS) rfl (rr_27_3 hS) ?_
    refine wx_aload_n dX3_addSight_15 rfl ?_
    refine wx_getI dX3_addSight_16 fl_X3_55 (sc_27 hS) rfl ?_
    refine wx_iload_n dX3_addSight_19 rfl ?_
    obtain ⟨w_20, h⟩ := ok_some h
    refine wx_iast dX3_addSight_20 (sc_30 hS) (ix_in w_20) ?_
    refine wx_namM (fun M_20 q_20 => ?_)
    replace h := nm_at h q_20
    refine wx_aload_n dX3_addSight_21 rfl ?_
    refine wx_getR dX3_addSight_22 fl_X3_23 (sc_27 hS) rfl (rr_27_4 hS) ?_
    refine wx_aload_n dX3_addSight_25 rfl ?_
    refine wx_getI dX3_addSight_26 fl_X3_55 (sc_27 hS) rfl ?_
    refine wx_iload_n dX3_addSight_29 rfl ?_
    obtain ⟨w_30, h⟩ := ok_some h
    refine wx_iast dX3_addSight_30 (sc_31 hS) (ix_in w_30) ?_
    refine wx_namM (fun M_30 q_30 => ?_)
    replace h := nm_at h q_30
    refine wx_aload_n dX3_addSight_31 rfl ?_
    refine wx_getR dX3_addSight_32 fl_X3_26 (sc_27 hS) rfl (rr_27_5 hS) ?_
    refine wx_aload_n dX3_addSight_35 rfl ?_
    refine wx_getI dX3_addSight_36 fl_X3_55 (sc_27 hS) rfl ?_
    refine wx_iload_n dX3_addSight_39 rfl ?_
    obtain ⟨w_40, h⟩ := ok_some h
    refine wx_iast dX3_addSight_40 (sc_32 hS) (ix_in w_40) ?_
    refine wx_namM (fun M_40 q_40 => ?_)
    replace h := nm_at h q_40
    refine wx_aload_n dX3_addSight_41 rfl ?_
    refine wx_dup dX3_addSight_42 rfl ?_
    refine wx_getI dX3_addSight_43 fl_X3_55 (sc_27 hS) rfl ?_
    refine wx_iconst (v := 1) dX3_addSight_46 (by decide) ?_
    refine wx_iadd dX3_addSight_47 ?_
    refine wx_nami (fun v_48 q_48 => ?_)
    replace h := nm_at h q_48
    refine wx_putI dX3_addSight_48 fl_X3_55 (sc_27 hS) (Or.inl rfl) rfl ⟨rfl, rfl⟩ ?_
    refine wx_namM (fun M_48 q_48 => ?_)
    replace h := nm_at h q_48
    refine wx_aload_n dX3_addSight_51 rfl ?_
    refine wx_getI dX3_addSight_52 fl_X3_55 (sc_27 hS) rfl ?_
    refine wx_iret dX3_addSight_55 hcu hsu ?_
    obtain rfl := Option.some.inj h
    exact g
  · replace h := it_t h c_6
    refine wx_iconst (v := (-1)) dX3_addSight_9 (by decide) ?_
    refine wx_iret dX3_addSight_10 hcu hsu ?_
    obtain rfl := Option.some.inj h
    exact g
noncomputable def f_X3_shareAt (p0 : Int32) (p1 : Int32) (p2 : Int32) : Option (Int32) :=
  some (((((p0 + 8) * 4) + p1) * 5) + p2)
theorem s_X3_shareAt {d : Nat} {X : Nat × (Nat → Int32)} {sh : px_Sh} {M : px_M} {L : px_L} {R : px_R} {n : Nat} {p0 : Int32} {p1 : Int32} {p2 : Int32} {e : Int32} (hS : SR sh R) (hd : 0 ≤ d) (h : f_X3_shareAt p0 p1 p2 = some e) : MX yX3_shareAt cX3_shareAt 3 (some .int) d 0 0 X [.int p0, .int p1, .int p2] sh M L R n (px_pu (some (.int e)) sh M L R n) := by
  refine MX.of (by decide +kernel) (by exact Nat.le_of_ble_eq_true rfl) ?_
  have hcu : 0 ≤ 0 := Nat.zero_le _
  have hsu : 0 ≤ 0 := Nat.zero_le _
  have g : px_pu (some (.int e)) sh M L R n (some (.int e)) sh M L R n := ⟨rfl, rfl, rfl, rfl, rfl, rfl⟩
  unfold f_X3_shareAt at h
  refine wx_iload_n dX3_shareAt_0 rfl ?_
  refine wx_bipush (v := 8) dX3_shareAt_1 (by decide) ?_
  refine wx_iadd dX3_shareAt_3 ?_
  refine wx_iconst (v := 4) dX3_shareAt_4 (by decide) ?_
  refine wx_imul dX3_shareAt_5 ?_
  refine wx_iload_n dX3_shareAt_6 rfl ?_
  refine wx_iadd dX3_shareAt_7 ?_
  refine wx_iconst (v := 5) dX3_shareAt_8 (by decide) ?_
  refine wx_imul dX3_shareAt_9 ?_
  refine wx_iload_n dX3_shareAt_10 rfl ?_
  refine wx_iadd dX3_shareAt_11 ?_
  refine wx_iret dX3_shareAt_12 hcu hsu ?_
  obtain rfl := Option.some.inj h
  exact g
noncomputable def f_X3_tableShares_36 (sh : px_Sh) (M : px_M) (R : px_R) (x2 : Int32) (x3 : Int32) (x4 : Int32) (x5 : Int32) : Option ((Int32 × px_M) ⊕ (px_M)) :=
  if (M 27 2) ≤ x5 then
    some (.inr M)
  else
    bd1 (f_X3_shareAt x3 x4 x5) fun e_54 =>
    ok (ix x4 16) <|
    bd1 (R 7 x4.toNatClampNeg) fun b_63 =>
    ok (ix x5 5) <|
    ok (ix x5 5) <|
    ok (hk sh b_63 5) <|
    bd1 (f_X5_pushX sh M b_63 x3 (M 28 x5.toNatClampNeg) (M 29 x5.toNatClampNeg)) fun e_79 =>
    ok (ix e_54 340) <|
    nm (px_u M 34 e_54.toNatClampNeg e_79) fun M_82 =>
    some (.inl ((x5 + 1), M_82))
theorem s_X3_tableShares_36b {x2 : Int32} {x3 : Int32} {x4 : Int32} {x5 : Int32} {M : px_M} {L : px_L} {R : px_R} {e : ((Int32 × px_M) ⊕ (px_M))} (hS : SR sh R) (hd : 4 ≤ d) (hcu : cu ≤ mc) (hsu : su ≤ ms) (h : f_X3_tableShares_36 sh M R x2 x3 x4 x5 = some e) (g : (sE (fun a => WX RX3 cX3_tableShares 6 none ("tableShares", []) d mc ms X (px_QF Post mc ms) 36 [(0, .ref 27), (1, .ref 6), (2, .int x2), (3, .int x3), (4, .int x4), (5, .int a.1)] [] sh (a.2) L R n cu su) (fun t => WX RX3 cX3_tableShares 6 none ("tableShares", []) d mc ms X (px_QF Post mc ms) 89 [(0, .ref 27), (1, .ref 6), (2, .int x2), (3, .int x3), (4, .int x4)] [] sh t L R n cu su)) e) : WX RX3 cX3_tableShares 6 none ("tableShares", []) d mc ms X (px_QF Post mc ms) 36 [(0, .ref 27), (1, .ref 6), (2, .int x2), (3, .int x3), (4, .int x4), (5, .int x5)] [] sh M L R n cu su := by
  unfold f_X3_tableShares_36 at h
  refine wx_iload dX3_tableShares_36 rfl ?_
  refine wx_aload_n dX3_tableShares_38 rfl ?_
  refine wx_getI dX3_tableShares_39 fl_X3_51 (sc_27 hS) rfl ?_
  refine wx_icmp_ge (tgt := 89) dX3_tableShares_42 (by decide) (fun c_42 => ?_) (fun c_42 => ?_)
  · replace h := it_t h c_42
    obtain rfl := Option.some.inj h
    replace g := sE_r g
    exact wx_sub g (px_s rfl (px_s rfl (px_s rfl (px_s rfl (px_s rfl px_0)))))
  · replace h := it_f h c_42
    refine wx_aload_n dX3_tableShares_45 rfl ?_
    refine wx_getR dX3_tableShares_46 fl_X3_32 (sc_27 hS) rfl (rr_27_8 hS) ?_
    refine wx_iload_n dX3_tableShares_49 rfl ?_
    refine wx_iload dX3_tableShares_50 rfl ?_
    refine wx_iload dX3_tableShares_52 rfl ?_
    obtain ⟨e_54, k_54, h⟩ := bd1_some h
    refine wx_cSi dX3_tableShares_54 ml_X3_83 my_X3_shareAt sv_X3_shareAt (s_X3_shareAt (d := d - 1) hS (by omega) k_54) rfl (by omega) (by exact Nat.le_of_ble_eq_true rfl) hcu hsu ?_
    refine wx_aload_n dX3_tableShares_57 rfl ?_
    refine wx_getR dX3_tableShares_58 fl_X3_87 (sc_6 hS) rfl (rr_6_0 hS) ?_
    refine wx_iload dX3_tableShares_61 rfl ?_
    obtain ⟨w_63, h⟩ := ok_some h
    obtain ⟨b_63, wr_63, h⟩ := bd1_some h
    refine wx_aald dX3_tableShares_63 (sc_7 hS) (by decide) (by decide) (ix_in w_63) wr_63 ?_
    refine wx_iload_n dX3_tableShares_64 rfl ?_
    refine wx_aload_n dX3_tableShares_65 rfl ?_
    refine wx_getR dX3_tableShares_66 fl_X3_13 (sc_27 hS) rfl (rr_27_0 hS) ?_
    refine wx_iload dX3_tableShares_69 rfl ?_
    obtain ⟨w_71, h⟩ := ok_some h
    refine wx_iald dX3_tableShares_71 (sc_28 hS) (ix_in w_71) ?_
    refine wx_aload_n dX3_tableShares_72 rfl ?_
    refine wx_getR dX3_tableShares_73 fl_X3_17 (sc_27 hS) rfl (rr_27_1 hS) ?_
    refine wx_iload dX3_tableShares_76 rfl ?_
    obtain ⟨w_78, h⟩ := ok_some h
    refine wx_iald dX3_tableShares_78 (sc_29 hS) (ix_in w_78) ?_
    obtain ⟨ws_79, h⟩ := ok_some h
    obtain ⟨ln_79, wt_79⟩ := hk_some ws_79
    obtain ⟨e_79, k_79, h⟩ := bd1_some h
    refine wx_cVi dX3_tableShares_79 ml_X3_91 my_X5_pushX iv_X5_pushX wt_79 (by decide) (s_X5_pushX (d := d - 1) hS (by omega) k_79) rfl (by omega) (by exact Nat.le_of_ble_eq_true rfl) hcu hsu ?_
    obtain ⟨w_82, h⟩ := ok_some h
    refine wx_iast dX3_tableShares_82 (sc_34 hS) (ix_in w_82) ?_
    refine wx_namM (fun M_82 q_82 => ?_)
    replace h := nm_at h q_82
    refine wx_iinc (lv' := [(5, _), (0, _), (1, _), (2, _), (3, _), (4, _)]) dX3_tableShares_83 rfl (i_1 _) (by decide) rfl ?_
    refine wx_goto (tgt := 36) dX3_tableShares_86 (by decide) ?_
    obtain rfl := Option.some.inj h
    replace g := sE_l g
    exact wx_sub g (px_s rfl (px_s rfl (px_s rfl (px_s rfl (px_s rfl (px_s rfl px_0))))))
theorem s_X3_tableShares_36 {x2 : Int32} {x3 : Int32} {x4 : Int32} {x5 : Int32} {M : px_M} {L : px_L} {R : px_R} {e : (px_M)} (hS : SR sh R) (hd : 4 ≤ d) (hcu : cu ≤ mc) (hsu : su ≤ ms) (h : lpf (fun a : Int32 × px_M => f_X3_tableShares_36 sh a.2 R x2 x3 x4 a.1) (x5, M) = some e) (g : WX RX3 cX3_tableShares 6 none ("tableShares", []) d mc ms X (px_QF Post mc ms) 89 [(0, .ref 27), (1, .ref 6), (2, .int x2), (3, .int x3), (4, .int x4)] [] sh e L R n cu su) : WX RX3 cX3_tableShares 6 none ("tableShares", []) d mc ms X (px_QF Post mc ms) 36 [(0, .ref 27), (1, .ref 6), (2, .int x2), (3, .int x3), (4, .int x4), (5, .int x5)] [] sh M L R n cu su := by
  have key := lpf_wp (P := (fun a => WX RX3 cX3_tableShares 6 none ("tableShares", []) d mc ms X (px_QF Post mc ms) 36 [(0, .ref 27), (1, .ref 6), (2, .int x2), (3, .int x3), (4, .int x4), (5, .int a.1)] [] sh (a.2) L R n cu su)) (G := (fun t => WX RX3 cX3_tableShares 6 none ("tableShares", []) d mc ms X (px_QF Post mc ms) 89 [(0, .ref 27), (1, .ref 6), (2, .int x2), (3, .int x3), (4, .int x4)] [] sh t L R n cu su)) (fun a r h g => s_X3_tableShares_36b (x2 := x2) (x3 := x3) (x4 := x4) (x5 := a.1) (M := a.2) (L := L) (R := R) hS hd hcu hsu h g) (a := (x5, M)) h g
  exact key
noncomputable def f_X3_tableShares_27 (sh : px_Sh) (M : px_M) (R : px_R) (x2 : Int32) (x3 : Int32) (x4 : Int32) : Option ((Int32 × px_M) ⊕ (px_M)) :=
  if x2 ≤ x4 then
    some (.inr M)
  else
    bd1 (lpf (fun a : Int32 × px_M => f_X3_tableShares_36 sh a.2 R x2 x3 x4 a.1) (0, M)) fun e_36 =>
    some (.inl ((x4 + 1), e_36))
theorem s_X3_tableShares_27b {x2 : Int32} {x3 : Int32} {x4 : Int32} {M : px_M} {L : px_L} {R : px_R} {e : ((Int32 × px_M) ⊕ (px_M))} (hS : SR sh R) (hd : 4 ≤ d) (hcu : cu ≤ mc) (hsu : su ≤ ms) (h : f_X3_tableShares_27 sh M R x2 x3 x4 = some e) (g : (sE (fun a => WX RX3 cX3_tableShares 6 none ("tableShares", []) d mc ms X (px_QF Post mc ms) 27 [(0, .ref 27), (1, .ref 6), (2, .int x2), (3, .int x3), (4, .int a.1)] [] sh (a.2) L R n cu su) (fun t => WX RX3 cX3_tableShares 6 none ("tableShares", []) d mc ms X (px_QF Post mc ms) 95 [(0, .ref 27), (1, .ref 6), (2, .int x2), (3, .int x3)] [] sh t L R n cu su)) e) : WX RX3 cX3_tableShares 6 none ("tableShares", []) d mc ms X (px_QF Post mc ms) 27 [(0, .ref 27), (1, .ref 6), (2, .int x2), (3, .int x3), (4, .int x4)] [] sh M L R n cu su := by
  unfold f_X3_tableShares_27 at h
  refine wx_iload dX3_tableShares_27 rfl ?_
  refine wx_iload_n dX3_tableShares_29 rfl ?_
  refine wx_icmp_ge (tgt := 95) dX3_tableShares_30 (by decide) (fun c_30 => ?_) (fun c_30 => ?_)
  · replace h := it_t h c_30
    obtain rfl := Option.some.inj h
    replace g := sE_r g
    exact wx_sub g (px_s rfl (px_s rfl (px_s rfl (px_s rfl px_0))))
  · replace h := it_f h c_30
    refine wx_iconst (v := 0) dX3_tableShares_33 (by decide) ?_
    refine wx_istore (lv' := [(5, _), (0, _), (1, _), (2, _), (3, _), (4, _)]) dX3_tableShares_34 (by decide) rfl ?_
    obtain ⟨e_36, k_36, h⟩ := bd1_some h
    refine wx_sub (s_X3_tableShares_36 hS hd hcu hsu k_36 ?_) (px_s rfl (px_s rfl (px_s rfl (px_s rfl (px_s rfl (px_s rfl px_0))))))
    refine wx_iinc (lv' := [(4, _), (0, _), (1, _), (2, _), (3, _)]) dX3_tableShares_89 rfl (i_1 _) (by decide) rfl ?_
    refine wx_goto (tgt := 27) dX3_tableShares_92 (by decide) ?_
    obtain rfl := Option.some.inj h
    replace g := sE_l g
    exact wx_sub g (px_s rfl (px_s rfl (px_s rfl (px_s rfl (px_s rfl px_0)))))
theorem s_X3_tableShares_27 {x2 : Int32} {x3 : Int32} {x4 : Int32} {M : px_M} {L : px_L} {R : px_R} {e : (px_M)} (hS : SR sh R) (hd : 4 ≤ d) (hcu : cu ≤ mc) (hsu : su ≤ ms) (h : lpf (fun a : Int32 × px_M => f_X3_tableShares_27 sh a.2 R x2 x3 a.1) (x4, M) = some e) (g : WX RX3 cX3_tableShares 6 none ("tableShares", []) d mc ms X (px_QF Post mc ms) 95 [(0, .ref 27), (1, .ref 6), (2, .int x2), (3, .int x3)] [] sh e L R n cu su) : WX RX3 cX3_tableShares 6 none ("tableShares", []) d mc ms X (px_QF Post mc ms) 27 [(0, .ref 27), (1, .ref 6), (2, .int x2), (3, .int x3), (4, .int x4)] [] sh M L R n cu su := by
  have key := lpf_wp (P := (fun a => WX RX3 cX3_tableShares 6 none ("tableShares", []) d mc ms X (px_QF Post mc ms) 27 [(0, .ref 27), (1, .ref 6), (2, .int x2), (3, .int x3), (4, .int a.1)] [] sh (a.2) L R n cu su)) (G := (fun t => WX RX3 cX3_tableShares 6 none ("tableShares", []) d mc ms X (px_QF Post mc ms) 95 [(0, .ref 27), (1, .ref 6), (2, .int x2), (3, .int x3)] [] sh t L R n cu su)) (fun a r h g => s_X3_tableShares_27b (x2 := x2) (x3 := x3) (x4 := a.1) (M := a.2) (L := L) (R := R) hS hd hcu hsu h g) (a := (x4, M)) h g
  exact key
noncomputable def f_X3_tableShares_3 (sh : px_Sh) (M : px_M) (R : px_R) (x2 : Int32) (x3 : Int32) : Option ((Int32 × px_M) ⊕ (px_M)) :=
  if 8 < x3 then
    some (.inr M)
  else
    bd1 (f_X8_pushXFrom sh M R x2 x3) fun e_20 =>
    ok (ix (x3 + 8) 17) <|
    nm (px_u M 33 (x3 + 8).toNatClampNeg e_20) fun M_23 =>
    bd1 (lpf (fun a : Int32 × px_M => f_X3_tableShares_27 sh a.2 R x2 x3 a.1) (0, M_23)) fun e_27 =>
    some (.inl ((x3 + 1), e_27))
theorem s_X3_tableShares_3b {x2 : Int32} {x3 : Int32} {M : px_M} {L : px_L} {R : px_R} {e : ((Int32 × px_M) ⊕ (px_M))} (hS : SR sh R) (hd : 4 ≤ d) (hcu : cu ≤ mc) (hsu : su ≤ ms) (h : f_X3_tableShares_3 sh M R x2 x3 = some e) (g : (sE (fun a => WX RX3 cX3_tableShares 6 none ("tableShares", []) d mc ms X (px_QF Post mc ms) 3 [(0, .ref 27), (1, .ref 6), (2, .int x2), (3, .int a.1)] [] sh (a.2) L R n cu su) (fun t => WX RX3 cX3_tableShares 6 none ("tableShares", []) d mc ms X (px_QF Post mc ms) 101 [] [] sh t L R n cu su)) e) : WX RX3 cX3_tableShares 6 none ("tableShares", []) d mc ms X (px_QF Post mc ms) 3 [(0, .ref 27), (1, .ref 6), (2, .int x2), (3, .int x3)] [] sh M L R n cu su := by
  unfold f_X3_tableShares_3 at h
  refine wx_iload_n dX3_tableShares_3 rfl ?_
  refine wx_bipush (v := 8) dX3_tableShares_4 (by decide) ?_
  refine wx_icmp_gt (tgt := 101) dX3_tableShares_6 (by decide) (fun c_6 => ?_) (fun c_6 => ?_)
  · replace h := it_t h c_6
    obtain rfl := Option.some.inj h
    replace g := sE_r g
    exact wx_sub g px_0
  · replace h := it_f h c_6
    refine wx_aload_n dX3_tableShares_9 rfl ?_
    refine wx_getR dX3_tableShares_10 fl_X3_29 (sc_27 hS) rfl (rr_27_7 hS) ?_
    refine wx_iload_n dX3_tableShares_13 rfl ?_
    refine wx_bipush (v := 8) dX3_tableShares_14 (by decide) ?_
    refine wx_iadd dX3_tableShares_16 ?_
    refine wx_aload_n dX3_tableShares_17 rfl ?_
    refine wx_iload_n dX3_tableShares_18 rfl ?_
    refine wx_iload_n dX3_tableShares_19 rfl ?_
    obtain ⟨e_20, k_20, h⟩ := bd1_some h
    refine wx_cVi dX3_tableShares_20 ml_X3_77 my_X8_pushXFrom iv_X8_pushXFrom (sc_6 hS) (by decide) (s_X8_pushXFrom (d := d - 1) hS (by omega) k_20) rfl (by omega) (by exact Nat.le_of_ble_eq_true rfl) hcu hsu ?_
    obtain ⟨w_23, h⟩ := ok_some h
    refine wx_iast dX3_tableShares_23 (sc_33 hS) (ix_in w_23) ?_
    refine wx_namM (fun M_23 q_23 => ?_)
    replace h := nm_at h q_23
    refine wx_iconst (v := 0) dX3_tableShares_24 (by decide) ?_
    refine wx_istore (lv' := [(4, _), (0, _), (1, _), (2, _), (3, _)]) dX3_tableShares_25 (by decide) rfl ?_
    obtain ⟨e_27, k_27, h⟩ := bd1_some h
    refine wx_sub (s_X3_tableShares_27 hS hd hcu hsu k_27 ?_) (px_s rfl (px_s rfl (px_s rfl (px_s rfl (px_s rfl px_0)))))
    refine wx_iinc (lv' := [(3, _), (0, _), (1, _), (2, _)]) dX3_tableShares_95 rfl (i_1 _) (by decide) rfl ?_
    refine wx_goto (tgt := 3) dX3_tableShares_98 (by decide) ?_
    obtain rfl := Option.some.inj h
    replace g := sE_l g
    exact wx_sub g (px_s rfl (px_s rfl (px_s rfl (px_s rfl px_0))))
theorem s_X3_tableShares_3 {x2 : Int32} {x3 : Int32} {M : px_M} {L : px_L} {R : px_R} {e : (px_M)} (hS : SR sh R) (hd : 4 ≤ d) (hcu : cu ≤ mc) (hsu : su ≤ ms) (h : lpf (fun a : Int32 × px_M => f_X3_tableShares_3 sh a.2 R x2 a.1) (x3, M) = some e) (g : WX RX3 cX3_tableShares 6 none ("tableShares", []) d mc ms X (px_QF Post mc ms) 101 [] [] sh e L R n cu su) : WX RX3 cX3_tableShares 6 none ("tableShares", []) d mc ms X (px_QF Post mc ms) 3 [(0, .ref 27), (1, .ref 6), (2, .int x2), (3, .int x3)] [] sh M L R n cu su := by
  have key := lpf_wp (P := (fun a => WX RX3 cX3_tableShares 6 none ("tableShares", []) d mc ms X (px_QF Post mc ms) 3 [(0, .ref 27), (1, .ref 6), (2, .int x2), (3, .int a.1)] [] sh (a.2) L R n cu su)) (G := (fun t => WX RX3 cX3_tableShares 6 none ("tableShares", []) d mc ms X (px_QF Post mc ms) 101 [] [] sh t L R n cu su)) (fun a r h g => s_X3_tableShares_3b (x2 := x2) (x3 := a.1) (M := a.2) (L := L) (R := R) hS hd hcu hsu h g) (a := (x3, M)) h g
  exact key
noncomputable def f_X3_tableShares (sh : px_Sh) (M : px_M) (R : px_R) (p2 : Int32) : Option (px_M) :=
  bd1 (lpf (fun a : Int32 × px_M => f_X3_tableShares_3 sh a.2 R p2 a.1) ((-8), M)) fun e_3 =>
  some e_3
theorem s_X3_tableShares {d : Nat} {X : Nat × (Nat → Int32)} {sh : px_Sh} {M : px_M} {L : px_L} {R : px_R} {n : Nat} {p2 : Int32} {e : px_M} (hS : SR sh R) (hd : 4 ≤ d) (h : f_X3_tableShares sh M R p2 = some e) : MX yX3_tableShares cX3_tableShares 6 none d 0 0 X [.ref 27, .ref 6, .int p2] sh M L R n (px_pu none sh e L R n) := by
  refine MX.of (by decide +kernel) (by exact Nat.le_of_ble_eq_true rfl) ?_
  have hcu : 0 ≤ 0 := Nat.zero_le _
  have hsu : 0 ≤ 0 := Nat.zero_le _
  have g : px_pu none sh e L R n none sh e L R n := ⟨rfl, rfl, rfl, rfl, rfl, rfl⟩
  unfold f_X3_tableShares at h
  refine wx_bipush (v := (-8)) dX3_tableShares_0 (by decide) ?_
  refine wx_istore_n (lv' := [(3, _), (0, _), (1, _), (2, _)]) dX3_tableShares_2 (by decide) rfl ?_
  obtain ⟨e_3, k_3, h⟩ := bd1_some h
  refine wx_sub (s_X3_tableShares_3 hS hd hcu hsu k_3 ?_) (px_s rfl (px_s rfl (px_s rfl (px_s rfl px_0))))
  refine wx_vret dX3_tableShares_101 hcu hsu ?_
  obtain rfl := Option.some.inj h
  exact g
noncomputable def f_X3_packedRow_4 (M : px_M) (x1 : Int32) (x2 : Int32) (x3 : Int32) : Option ((Int32 × Int32) ⊕ (Int32)) :=
  if x1 ≤ x3 then
    some (.inr x2)
  else
    ok (ix x3 4) <|
    nm (x2 ||| ((M 35 x3.toNatClampNeg) <<< ((3 * x3) &&& 31))) fun v_21 =>
    some (.inl (v_21, (x3 + 1)))
theorem s_X3_packedRow_4b {x1 : Int32} {x2 : Int32} {x3 : Int32} {M : px_M} {L : px_L} {R : px_R} {e : ((Int32 × Int32) ⊕ (Int32))} (hS : SR sh R) (hd : 0 ≤ d) (hcu : cu ≤ mc) (hsu : su ≤ ms) (h : f_X3_packedRow_4 M x1 x2 x3 = some e) (g : (sE (fun a => WX RX3 cX3_packedRow 4 (some .int) ("packedRow", []) d mc ms X (px_QF Post mc ms) 4 [(0, .ref 27), (1, .int x1), (2, .int a.1), (3, .int a.2)] [] sh M L R n cu su) (fun t => WX RX3 cX3_packedRow 4 (some .int) ("packedRow", []) d mc ms X (px_QF Post mc ms) 28 [(2, .int t)] [] sh M L R n cu su)) e) : WX RX3 cX3_packedRow 4 (some .int) ("packedRow", []) d mc ms X (px_QF Post mc ms) 4 [(0, .ref 27), (1, .int x1), (2, .int x2), (3, .int x3)] [] sh M L R n cu su := by
  unfold f_X3_packedRow_4 at h
  refine wx_iload_n dX3_packedRow_4 rfl ?_
  refine wx_iload_n dX3_packedRow_5 rfl ?_
  refine wx_icmp_ge (tgt := 28) dX3_packedRow_6 (by decide) (fun c_6 => ?_) (fun c_6 => ?_)
  · replace h := it_t h c_6
    obtain rfl := Option.some.inj h
    replace g := sE_r g
    exact wx_sub g (px_s rfl px_0)
  · replace h := it_f h c_6
    refine wx_iload_n dX3_packedRow_9 rfl ?_
    refine wx_aload_n dX3_packedRow_10 rfl ?_
    refine wx_getR dX3_packedRow_11 fl_X3_35 (sc_27 hS) rfl (rr_27_9 hS) ?_
    refine wx_iload_n dX3_packedRow_14 rfl ?_
    obtain ⟨w_15, h⟩ := ok_some h
    refine wx_iald dX3_packedRow_15 (sc_35 hS) (ix_in w_15) ?_
    refine wx_iconst (v := 3) dX3_packedRow_16 (by decide) ?_
    refine wx_iload_n dX3_packedRow_17 rfl ?_
    refine wx_imul dX3_packedRow_18 ?_
    refine wx_ishl dX3_packedRow_19 ?_
    refine wx_ior dX3_packedRow_20 ?_
    refine wx_nami (fun v_21 q_21 => ?_)
    replace h := nm_at h q_21
    refine wx_istore_n (lv' := [(2, _), (0, _), (1, _), (3, _)]) dX3_packedRow_21 (by decide) rfl ?_
    refine wx_iinc (lv' := [(3, _), (2, _), (0, _), (1, _)]) dX3_packedRow_22 rfl (i_1 _) (by decide) rfl ?_
    refine wx_goto (tgt := 4) dX3_packedRow_25 (by decide) ?_
    obtain rfl := Option.some.inj h
    replace g := sE_l g
    exact wx_sub g (px_s rfl (px_s rfl (px_s rfl (px_s rfl px_0))))
theorem s_X3_packedRow_4 {x1 : Int32} {x2 : Int32} {x3 : Int32} {M : px_M} {L : px_L} {R : px_R} {e : (Int32)} (hS : SR sh R) (hd : 0 ≤ d) (hcu : cu ≤ mc) (hsu : su ≤ ms) (h : lpf (fun a : Int32 × Int32 => f_X3_packedRow_4 M x1 a.1 a.2) (x2, x3) = some e) (g : WX RX3 cX3_packedRow 4 (some .int) ("packedRow", []) d mc ms X (px_QF Post mc ms) 28 [(2, .int e)] [] sh M L R n cu su) : WX RX3 cX3_packedRow 4 (some .int) ("packedRow", []) d mc ms X (px_QF Post mc ms) 4 [(0, .ref 27), (1, .int x1), (2, .int x2), (3, .int x3)] [] sh M L R n cu su := by
  have key := lpf_wp (P := (fun a => WX RX3 cX3_packedRow 4 (some .int) ("packedRow", []) d mc ms X (px_QF Post mc ms) 4 [(0, .ref 27), (1, .int x1), (2, .int a.1), (3, .int a.2)] [] sh M L R n cu su)) (G := (fun t => WX RX3 cX3_packedRow 4 (some .int) ("packedRow", []) d mc ms X (px_QF Post mc ms) 28 [(2, .int t)] [] sh M L R n cu su)) (fun a r h g => s_X3_packedRow_4b (x1 := x1) (x2 := a.1) (x3 := a.2) (M := M) (L := L) (R := R) hS hd hcu hsu h g) (a := (x2, x3)) h g
  exact key
noncomputable def f_X3_packedRow (M : px_M) (p1 : Int32) : Option (Int32) :=
  bd1 (lpf (fun a : Int32 × Int32 => f_X3_packedRow_4 M p1 a.1 a.2) (0, 0)) fun e_4 =>
  some e_4
theorem s_X3_packedRow {d : Nat} {X : Nat × (Nat → Int32)} {sh : px_Sh} {M : px_M} {L : px_L} {R : px_R} {n : Nat} {p1 : Int32} {e : Int32} (hS : SR sh R) (hd : 0 ≤ d) (h : f_X3_packedRow M p1 = some e) : MX yX3_packedRow cX3_packedRow 4 (some .int) d 0 0 X [.ref 27, .int p1] sh M L R n (px_pu (some (.int e)) sh M L R n) := by
  refine MX.of (by decide +kernel) (by exact Nat.le_of_ble_eq_true rfl) ?_
  have hcu : 0 ≤ 0 := Nat.zero_le _
  have hsu : 0 ≤ 0 := Nat.zero_le _
  have g : px_pu (some (.int e)) sh M L R n (some (.int e)) sh M L R n := ⟨rfl, rfl, rfl, rfl, rfl, rfl⟩
  unfold f_X3_packedRow at h
  refine wx_iconst (v := 0) dX3_packedRow_0 (by decide) ?_
  refine wx_istore_n (lv' := [(2, _), (0, _), (1, _)]) dX3_packedRow_1 (by decide) rfl ?_
  refine wx_iconst (v := 0) dX3_packedRow_2 (by decide) ?_
  refine wx_istore_n (lv' := [(3, _), (2, _), (0, _), (1, _)]) dX3_packedRow_3 (by decide) rfl ?_
  obtain ⟨e_4, k_4, h⟩ := bd1_some h
  refine wx_sub (s_X3_packedRow_4 hS hd hcu hsu k_4 ?_) (px_s rfl (px_s rfl (px_s rfl (px_s rfl px_0))))
  refine wx_iload_n dX3_packedRow_28 rfl ?_
  refine wx_iret dX3_packedRow_29 hcu hsu ?_
  obtain rfl := Option.some.inj h
  exact g
noncomputable def f_X3_coatIn (p0 : Int32) (p1 : Int32) : Option (Int32) :=
  some ((p0 >>> ((3 * p1) &&& 31)) &&& 7)
theorem s_X3_coatIn {d : Nat} {X : Nat × (Nat → Int32)} {sh : px_Sh} {M : px_M} {L : px_L} {R : px_R} {n : Nat} {p0 : Int32} {p1 : Int32} {e : Int32} (hS : SR sh R) (hd : 0 ≤ d) (h : f_X3_coatIn p0 p1 = some e) : MX yX3_coatIn cX3_coatIn 2 (some .int) d 0 0 X [.int p0, .int p1] sh M L R n (px_pu (some (.int e)) sh M L R n) := by
  refine MX.of (by decide +kernel) (by exact Nat.le_of_ble_eq_true rfl) ?_
  have hcu : 0 ≤ 0 := Nat.zero_le _
  have hsu : 0 ≤ 0 := Nat.zero_le _
  have g : px_pu (some (.int e)) sh M L R n (some (.int e)) sh M L R n := ⟨rfl, rfl, rfl, rfl, rfl, rfl⟩
  unfold f_X3_coatIn at h
  refine wx_iload_n dX3_coatIn_0 rfl ?_
  refine wx_iconst (v := 3) dX3_coatIn_1 (by decide) ?_
  refine wx_iload_n dX3_coatIn_2 rfl ?_
  refine wx_imul dX3_coatIn_3 ?_
  refine wx_ishr dX3_coatIn_4 ?_
  refine wx_bipush (v := 7) dX3_coatIn_5 (by decide) ?_
  refine wx_iand dX3_coatIn_7 ?_
  refine wx_iret dX3_coatIn_8 hcu hsu ?_
  obtain rfl := Option.some.inj h
  exact g
noncomputable def f_X3_hiddenPush_6 (M : px_M) (x1 : Int32) (x2 : Int32) (x3 : Int32) (x4 : Int32) (x5 : Int32) : Option ((Int32 × Int32) ⊕ (Int32)) :=
  if x2 ≤ x5 then
    some (.inr x4)
  else
    bd1 (f_X3_coatIn x1 x5) fun e_24 =>
    bd1 (f_X3_shareAt x3 x5 e_24) fun e_27 =>
    ok (ix e_27 340) <|
    nm (x4 + (M 34 e_27.toNatClampNeg)) fun v_32 =>
    some (.inl (v_32, (x5 + 1)))
theorem s_X3_hiddenPush_6b {x1 : Int32} {x2 : Int32} {x3 : Int32} {x4 : Int32} {x5 : Int32} {M : px_M} {L : px_L} {R : px_R} {e : ((Int32 × Int32) ⊕ (Int32))} (hS : SR sh R) (hd : 1 ≤ d) (hcu : cu ≤ mc) (hsu : su ≤ ms) (h : f_X3_hiddenPush_6 M x1 x2 x3 x4 x5 = some e) (g : (sE (fun a => WX RX3 cX3_hiddenPush 6 (some .int) ("hiddenPush", []) d mc ms X (px_QF Post mc ms) 6 [(0, .ref 27), (1, .int x1), (2, .int x2), (3, .int x3), (4, .int a.1), (5, .int a.2)] [] sh M L R n cu su) (fun t => WX RX3 cX3_hiddenPush 6 (some .int) ("hiddenPush", []) d mc ms X (px_QF Post mc ms) 40 [(4, .int t)] [] sh M L R n cu su)) e) : WX RX3 cX3_hiddenPush 6 (some .int) ("hiddenPush", []) d mc ms X (px_QF Post mc ms) 6 [(0, .ref 27), (1, .int x1), (2, .int x2), (3, .int x3), (4, .int x4), (5, .int x5)] [] sh M L R n cu su := by
  unfold f_X3_hiddenPush_6 at h
  refine wx_iload dX3_hiddenPush_6 rfl ?_
  refine wx_iload_n dX3_hiddenPush_8 rfl ?_
  refine wx_icmp_ge (tgt := 40) dX3_hiddenPush_9 (by decide) (fun c_9 => ?_) (fun c_9 => ?_)
  · replace h := it_t h c_9
    obtain rfl := Option.some.inj h
    replace g := sE_r g
    exact wx_sub g (px_s rfl px_0)
  · replace h := it_f h c_9
    refine wx_iload dX3_hiddenPush_12 rfl ?_
    refine wx_aload_n dX3_hiddenPush_14 rfl ?_
    refine wx_getR dX3_hiddenPush_15 fl_X3_32 (sc_27 hS) rfl (rr_27_8 hS) ?_
    refine wx_iload_n dX3_hiddenPush_18 rfl ?_
    refine wx_iload dX3_hiddenPush_19 rfl ?_
    refine wx_iload_n dX3_hiddenPush_21 rfl ?_
    refine wx_iload dX3_hiddenPush_22 rfl ?_
    obtain ⟨e_24, k_24, h⟩ := bd1_some h
    refine wx_cSi dX3_hiddenPush_24 ml_X3_98 my_X3_coatIn sv_X3_coatIn (s_X3_coatIn (d := d - 1) hS (by omega) k_24) rfl (by omega) (by exact Nat.le_of_ble_eq_true rfl) hcu hsu ?_
    obtain ⟨e_27, k_27, h⟩ := bd1_some h
    refine wx_cSi dX3_hiddenPush_27 ml_X3_83 my_X3_shareAt sv_X3_shareAt (s_X3_shareAt (d := d - 1) hS (by omega) k_27) rfl (by omega) (by exact Nat.le_of_ble_eq_true rfl) hcu hsu ?_
    obtain ⟨w_30, h⟩ := ok_some h
    refine wx_iald dX3_hiddenPush_30 (sc_34 hS) (ix_in w_30) ?_
    refine wx_iadd dX3_hiddenPush_31 ?_
    refine wx_nami (fun v_32 q_32 => ?_)
    replace h := nm_at h q_32
    refine wx_istore (lv' := [(4, _), (0, _), (1, _), (2, _), (3, _), (5, _)]) dX3_hiddenPush_32 (by decide) rfl ?_
    refine wx_iinc (lv' := [(5, _), (4, _), (0, _), (1, _), (2, _), (3, _)]) dX3_hiddenPush_34 rfl (i_1 _) (by decide) rfl ?_
    refine wx_goto (tgt := 6) dX3_hiddenPush_37 (by decide) ?_
    obtain rfl := Option.some.inj h
    replace g := sE_l g
    exact wx_sub g (px_s rfl (px_s rfl (px_s rfl (px_s rfl (px_s rfl (px_s rfl px_0))))))
theorem s_X3_hiddenPush_6 {x1 : Int32} {x2 : Int32} {x3 : Int32} {x4 : Int32} {x5 : Int32} {M : px_M} {L : px_L} {R : px_R} {e : (Int32)} (hS : SR sh R) (hd : 1 ≤ d) (hcu : cu ≤ mc) (hsu : su ≤ ms) (h : lpf (fun a : Int32 × Int32 => f_X3_hiddenPush_6 M x1 x2 x3 a.1 a.2) (x4, x5) = some e) (g : WX RX3 cX3_hiddenPush 6 (some .int) ("hiddenPush", []) d mc ms X (px_QF Post mc ms) 40 [(4, .int e)] [] sh M L R n cu su) : WX RX3 cX3_hiddenPush 6 (some .int) ("hiddenPush", []) d mc ms X (px_QF Post mc ms) 6 [(0, .ref 27), (1, .int x1), (2, .int x2), (3, .int x3), (4, .int x4), (5, .int x5)] [] sh M L R n cu su := by
  have key := lpf_wp (P := (fun a => WX RX3 cX3_hiddenPush 6 (some .int) ("hiddenPush", []) d mc ms X (px_QF Post mc ms) 6 [(0, .ref 27), (1, .int x1), (2, .int x2), (3, .int x3), (4, .int a.1), (5, .int a.2)] [] sh M L R n cu su)) (G := (fun t => WX RX3 cX3_hiddenPush 6 (some .int) ("hiddenPush", []) d mc ms X (px_QF Post mc ms) 40 [(4, .int t)] [] sh M L R n cu su)) (fun a r h g => s_X3_hiddenPush_6b (x1 := x1) (x2 := x2) (x3 := x3) (x4 := a.1) (x5 := a.2) (M := M) (L := L) (R := R) hS hd hcu hsu h g) (a := (x4, x5)) h g
  exact key
noncomputable def f_X3_hiddenPush (M : px_M) (p1 : Int32) (p2 : Int32) (p3 : Int32) : Option (Int32) :=
  bd1 (lpf (fun a : Int32 × Int32 => f_X3_hiddenPush_6 M p1 p2 p3 a.1 a.2) (0, 0)) fun e_6 =>
  some e_6
theorem s_X3_hiddenPush {d : Nat} {X : Nat × (Nat → Int32)} {sh : px_Sh} {M : px_M} {L : px_L} {R : px_R} {n : Nat} {p1 : Int32} {p2 : Int32} {p3 : Int32} {e : Int32} (hS : SR sh R) (hd : 1 ≤ d) (h : f_X3_hiddenPush M p1 p2 p3 = some e) : MX yX3_hiddenPush cX3_hiddenPush 6 (some .int) d 0 0 X [.ref 27, .int p1, .int p2, .int p3] sh M L R n (px_pu (some (.int e)) sh M L R n) := by
  refine MX.of (by decide +kernel) (by exact Nat.le_of_ble_eq_true rfl) ?_
  have hcu : 0 ≤ 0 := Nat.zero_le _
  have hsu : 0 ≤ 0 := Nat.zero_le _
  have g : px_pu (some (.int e)) sh M L R n (some (.int e)) sh M L R n := ⟨rfl, rfl, rfl, rfl, rfl, rfl⟩
  unfold f_X3_hiddenPush at h
  refine wx_iconst (v := 0) dX3_hiddenPush_0 (by decide) ?_
  refine wx_istore (lv' := [(4, _), (0, _), (1, _), (2, _), (3, _)]) dX3_hiddenPush_1 (by decide) rfl ?_
  refine wx_iconst (v := 0) dX3_hiddenPush_3 (by decide) ?_
  refine wx_istore (lv' := [(5, _), (4, _), (0, _), (1, _), (2, _), (3, _)]) dX3_hiddenPush_4 (by decide) rfl ?_
  obtain ⟨e_6, k_6, h⟩ := bd1_some h
  refine wx_sub (s_X3_hiddenPush_6 hS hd hcu hsu k_6 ?_) (px_s rfl (px_s rfl (px_s rfl (px_s rfl (px_s rfl (px_s rfl px_0))))))
  refine wx_iload dX3_hiddenPush_40 rfl ?_
  refine wx_iret dX3_hiddenPush_42 hcu hsu ?_
  obtain rfl := Option.some.inj h
  exact g
noncomputable def f_X3_holdsAll_2 (M : px_M) (x1 : Int32) (x2 : Int32) (x3 : Int32) : Option ((Int32) ⊕ ((Unit) ⊕ (Unit))) :=
  if (M 27 6) ≤ x3 then
    some (.inr (.inr ()))
  else
    ok (ix x3 6) <|
    nm ((M 30 x3.toNatClampNeg) + 8) fun v_23 =>
    ok (ix v_23 17) <|
    ok (ix x3 6) <|
    bd1 (f_X3_hiddenPush M x1 x2 (M 30 x3.toNatClampNeg)) fun e_33 =>
    nm ((M 33 v_23.toNatClampNeg) + e_33) fun v_37 =>
    ok (ix x3 6) <|
    bd1 (f_J9_abs_0f7a4 (v_37 - (M 31 x3.toNatClampNeg))) fun e_48 =>
    ok (ix x3 6) <|
    if e_48 ≤ (M 32 x3.toNatClampNeg) then
      some (.inl (x3 + 1))
    else
      some (.inr (.inl ()))
theorem s_X3_holdsAll_2b {x1 : Int32} {x2 : Int32} {x3 : Int32} {M : px_M} {L : px_L} {R : px_R} {e : ((Int32) ⊕ ((Unit) ⊕ (Unit)))} (hS : SR sh R) (hd : 2 ≤ d) (hcu : cu ≤ mc) (hsu : su ≤ ms) (h : f_X3_holdsAll_2 M x1 x2 x3 = some e) (g : (sE (fun a => WX RX3 cX3_holdsAll 5 (some .boolean) ("holdsAll", []) d mc ms X (px_QF Post mc ms) 2 [(0, .ref 27), (1, .int x1), (2, .int x2), (3, .int a)] [] sh M L R n cu su) (sE (fun t => WX RX3 cX3_holdsAll 5 (some .boolean) ("holdsAll", []) d mc ms X (px_QF Post mc ms) 60 [] [] sh M L R n cu su) (fun t => WX RX3 cX3_holdsAll 5 (some .boolean) ("holdsAll", []) d mc ms X (px_QF Post mc ms) 68 [] [] sh M L R n cu su))) e) : WX RX3 cX3_holdsAll 5 (some .boolean) ("holdsAll", []) d mc ms X (px_QF Post mc ms) 2 [(0, .ref 27), (1, .int x1), (2, .int x2), (3, .int x3)] [] sh M L R n cu su := by
  unfold f_X3_holdsAll_2 at h
  refine wx_iload_n dX3_holdsAll_2 rfl ?_
  refine wx_aload_n dX3_holdsAll_3 rfl ?_
  refine wx_getI dX3_holdsAll_4 fl_X3_55 (sc_27 hS) rfl ?_
  refine wx_icmp_ge (tgt := 68) dX3_holdsAll_7 (by decide) (fun c_7 => ?_) (fun c_7 => ?_)
  · replace h := it_t h c_7
    obtain rfl := Option.some.inj h
    replace g := sE_r (sE_r g)
    exact wx_sub g px_0
  · replace h := it_f h c_7
    refine wx_aload_n dX3_holdsAll_10 rfl ?_
    refine wx_getR dX3_holdsAll_11 fl_X3_29 (sc_27 hS) rfl (rr_27_7 hS) ?_
    refine wx_aload_n dX3_holdsAll_14 rfl ?_
    refine wx_getR dX3_holdsAll_15 fl_X3_20 (sc_27 hS) rfl (rr_27_3 hS) ?_
    refine wx_iload_n dX3_holdsAll_18 rfl ?_
    obtain ⟨w_19, h⟩ := ok_some h
    refine wx_iald dX3_holdsAll_19 (sc_30 hS) (ix_in w_19) ?_
    refine wx_bipush (v := 8) dX3_holdsAll_20 (by decide) ?_
    refine wx_iadd dX3_holdsAll_22 ?_
    refine wx_nami (fun v_23 q_23 => ?_)
    replace h := nm_at h q_23
    obtain ⟨w_23, h⟩ := ok_some h
    refine wx_iald dX3_holdsAll_23 (sc_33 hS) (ix_in w_23) ?_
    refine wx_aload_n dX3_holdsAll_24 rfl ?_
    refine wx_iload_n dX3_holdsAll_25 rfl ?_
    refine wx_iload_n dX3_holdsAll_26 rfl ?_
    refine wx_aload_n dX3_holdsAll_27 rfl ?_
    refine wx_getR dX3_holdsAll_28 fl_X3_20 (sc_27 hS) rfl (rr_27_3 hS) ?_
    refine wx_iload_n dX3_holdsAll_31 rfl ?_
    obtain ⟨w_32, h⟩ := ok_some h
    refine wx_iald dX3_holdsAll_32 (sc_30 hS) (ix_in w_32) ?_
    obtain ⟨e_33, k_33, h⟩ := bd1_some h
    refine wx_cVi dX3_holdsAll_33 ml_X3_101 my_X3_hiddenPush iv_X3_hiddenPush (sc_27 hS) (by decide) (s_X3_hiddenPush (d := d - 1) hS (by omega) k_33) rfl (by omega) (by exact Nat.le_of_ble_eq_true rfl) hcu hsu ?_
    refine wx_iadd dX3_holdsAll_36 ?_
    refine wx_nami (fun v_37 q_37 => ?_)
    replace h := nm_at h q_37
    refine wx_istore (lv' := [(4, _), (0, _), (1, _), (2, _), (3, _)]) dX3_holdsAll_37 (by decide) rfl ?_
    refine wx_iload dX3_holdsAll_39 rfl ?_
    refine wx_aload_n dX3_holdsAll_41 rfl ?_
    refine wx_getR dX3_holdsAll_42 fl_X3_23 (sc_27 hS) rfl (rr_27_4 hS) ?_
    refine wx_iload_n dX3_holdsAll_45 rfl ?_
    obtain ⟨w_46, h⟩ := ok_some h
    refine wx_iald dX3_holdsAll_46 (sc_31 hS) (ix_in w_46) ?_
    refine wx_isub dX3_holdsAll_47 ?_
    obtain ⟨e_48, k_48, h⟩ := bd1_some h
    refine wx_cSi dX3_holdsAll_48 ml_X3_104 my_J9_abs_0f7a4 sv_J9_abs_0f7a4 (s_J9_abs_0f7a4 (d := d - 1) hS (by omega) k_48) rfl (by omega) (by exact Nat.le_of_ble_eq_true rfl) hcu hsu ?_
    refine wx_aload_n dX3_holdsAll_51 rfl ?_
    refine wx_getR dX3_holdsAll_52 fl_X3_26 (sc_27 hS) rfl (rr_27_5 hS) ?_
    refine wx_iload_n dX3_holdsAll_55 rfl ?_
    obtain ⟨w_56, h⟩ := ok_some h
    refine wx_iald dX3_holdsAll_56 (sc_32 hS) (ix_in w_56) ?_
    refine wx_icmp_le (tgt := 62) dX3_holdsAll_57 (by decide) (fun c_57 => ?_) (fun c_57 => ?_)
    · replace h := it_t h c_57
      refine wx_iinc (lv' := [(3, _), (4, _), (0, _), (1, _), (2, _)]) dX3_holdsAll_62 rfl (i_1 _) (by decide) rfl ?_
      refine wx_goto (tgt := 2) dX3_holdsAll_65 (by decide) ?_
      obtain rfl := Option.some.inj h
      replace g := sE_l g
      exact wx_sub g (px_s rfl (px_s rfl (px_s rfl (px_s rfl px_0))))
    · replace h := it_f h c_57
      obtain rfl := Option.some.inj h
      replace g := sE_l (sE_r g)
      exact wx_sub g px_0
theorem s_X3_holdsAll_2 {x1 : Int32} {x2 : Int32} {x3 : Int32} {M : px_M} {L : px_L} {R : px_R} {e : ((Unit) ⊕ (Unit))} (hS : SR sh R) (hd : 2 ≤ d) (hcu : cu ≤ mc) (hsu : su ≤ ms) (h : lpf (fun a : Int32 => f_X3_holdsAll_2 M x1 x2 a) x3 = some e) (g : (sE (fun t => WX RX3 cX3_holdsAll 5 (some .boolean) ("holdsAll", []) d mc ms X (px_QF Post mc ms) 60 [] [] sh M L R n cu su) (fun t => WX RX3 cX3_holdsAll 5 (some .boolean) ("holdsAll", []) d mc ms X (px_QF Post mc ms) 68 [] [] sh M L R n cu su)) e) : WX RX3 cX3_holdsAll 5 (some .boolean) ("holdsAll", []) d mc ms X (px_QF Post mc ms) 2 [(0, .ref 27), (1, .int x1), (2, .int x2), (3, .int x3)] [] sh M L R n cu su := by
  have key := lpf_wp (P := (fun a => WX RX3 cX3_holdsAll 5 (some .boolean) ("holdsAll", []) d mc ms X (px_QF Post mc ms) 2 [(0, .ref 27), (1, .int x1), (2, .int x2), (3, .int a)] [] sh M L R n cu su)) (G := (sE (fun t => WX RX3 cX3_holdsAll 5 (some .boolean) ("holdsAll", []) d mc ms X (px_QF Post mc ms) 60 [] [] sh M L R n cu su) (fun t => WX RX3 cX3_holdsAll 5 (some .boolean) ("holdsAll", []) d mc ms X (px_QF Post mc ms) 68 [] [] sh M L R n cu su))) (fun a r h g => s_X3_holdsAll_2b (x1 := x1) (x2 := x2) (x3 := a) (M := M) (L := L) (R := R) hS hd hcu hsu h g) (a := x3) h g
  exact key
noncomputable def f_X3_holdsAll (M : px_M) (p1 : Int32) (p2 : Int32) : Option (Int32) :=
  bdS (lpf (fun a : Int32 => f_X3_holdsAll_2 M p1 p2 a) 0) (fun t_2_0 =>
  some 0) (fun u_2_0 =>
  some 1)
theorem s_X3_holdsAll {d : Nat} {X : Nat × (Nat → Int32)} {sh : px_Sh} {M : px_M} {L : px_L} {R : px_R} {n : Nat} {p1 : Int32} {p2 : Int32} {e : Int32} (hS : SR sh R) (hd : 2 ≤ d) (h : f_X3_holdsAll M p1 p2 = some e) : MX yX3_holdsAll cX3_holdsAll 5 (some .boolean) d 0 0 X [.ref 27, .int p1, .int p2] sh M L R n (px_pu (some (.int e)) sh M L R n) := by
  refine MX.of (by decide +kernel) (by exact Nat.le_of_ble_eq_true rfl) ?_
  have hcu : 0 ≤ 0 := Nat.zero_le _
  have hsu : 0 ≤ 0 := Nat.zero_le _
  have g : px_pu (some (.int e)) sh M L R n (some (.int e)) sh M L R n := ⟨rfl, rfl, rfl, rfl, rfl, rfl⟩
  unfold f_X3_holdsAll at h
  refine wx_iconst (v := 0) dX3_holdsAll_0 (by decide) ?_
  refine wx_istore_n (lv' := [(3, _), (0, _), (1, _), (2, _)]) dX3_holdsAll_1 (by decide) rfl ?_
  rcases bdS_some h with ⟨t_2_0, k_2_0, h⟩ | ⟨u_2_0, k_2_0, h⟩
  · refine wx_sub (s_X3_holdsAll_2 hS hd hcu hsu k_2_0 (sE_li ?_)) (px_s rfl (px_s rfl (px_s rfl (px_s rfl px_0))))
    refine wx_iconst (v := 0) dX3_holdsAll_60 (by decide) ?_
    refine wx_zret dX3_holdsAll_61 rfl hcu hsu ?_
    obtain rfl := Option.some.inj h
    exact g
  · refine wx_sub (s_X3_holdsAll_2 hS hd hcu hsu k_2_0 (sE_ri ?_)) (px_s rfl (px_s rfl (px_s rfl (px_s rfl px_0))))
    refine wx_iconst (v := 1) dX3_holdsAll_68 (by decide) ?_
    refine wx_zret dX3_holdsAll_69 rfl hcu hsu ?_
    obtain rfl := Option.some.inj h
    exact g
noncomputable def f_X3_findFits_109 (sh : px_Sh) (M : px_M) (R : px_R) (x2 : Int32) (x4 : Int32) : Option ((Int32 × Int32 × px_M) ⊕ (px_M)) :=
  bd1 (f_X11_nextRow sh M 35 36 37 x2) fun e_122 =>
  some (.inl (e_122.1, (x4 + 1), e_122.2))
theorem s_X3_findFits_109 {x2 : Int32} {x4 : Int32} {M : px_M} {L : px_L} {R : px_R} {e : ((Int32 × Int32 × px_M) ⊕ (px_M))} (hS : SR sh R) (hd : 5 ≤ d) (hcu : cu ≤ mc) (hsu : su ≤ ms) (h : f_X3_findFits_109 sh M R x2 x4 = some e) (g : (sE (fun a => WX RX3 cX3_findFits 6 (some .int) ("findFits", []) d mc ms X (px_QF Post mc ms) 59 [(0, .ref 27), (2, .int x2), (3, .int a.1), (4, .int a.2.1)] [] sh (a.2.2) L R n cu su) (fun t => WX RX3 cX3_findFits 6 (some .int) ("findFits", []) d mc ms X (px_QF Post mc ms) 132 [(0, .ref 27)] [] sh t L R n cu su)) e) : WX RX3 cX3_findFits 6 (some .int) ("findFits", []) d mc ms X (px_QF Post mc ms) 109 [(0, .ref 27), (2, .int x2), (4, .int x4)] [] sh M L R n cu su := by
  unfold f_X3_findFits_109 at h
  refine wx_aload_n dX3_findFits_109 rfl ?_
  refine wx_getR dX3_findFits_110 fl_X3_35 (sc_27 hS) rfl (rr_27_9 hS) ?_
  refine wx_aload_n dX3_findFits_113 rfl ?_
  refine wx_getR dX3_findFits_114 fl_X3_38 (sc_27 hS) rfl (rr_27_10 hS) ?_
  refine wx_aload_n dX3_findFits_117 rfl ?_
  refine wx_getR dX3_findFits_118 fl_X3_41 (sc_27 hS) rfl (rr_27_11 hS) ?_
  refine wx_iload_n dX3_findFits_121 rfl ?_
  obtain ⟨e_122, k_122, h⟩ := bd1_some h
  refine wx_cSi dX3_findFits_122 ml_X3_73 my_X11_nextRow sv_X11_nextRow (s_X11_nextRow (d := d - 1) hS (by omega) k_122) rfl (by omega) (by exact Nat.le_of_ble_eq_true rfl) hcu hsu ?_
  refine wx_istore_n (lv' := [(3, _), (0, _), (2, _), (4, _)]) dX3_findFits_125 (by decide) rfl ?_
  refine wx_iinc (lv' := [(4, _), (3, _), (0, _), (2, _)]) dX3_findFits_126 rfl (i_1 _) (by decide) rfl ?_
  refine wx_goto (tgt := 59) dX3_findFits_129 (by decide) ?_
  obtain rfl := Option.some.inj h
  replace g := sE_l g
  exact wx_sub g (px_s rfl (px_s rfl (px_s rfl (px_s rfl px_0))))
noncomputable def f_X3_findFits_59 (sh : px_Sh) (M : px_M) (R : px_R) (x2 : Int32) (x3 : Int32) (x4 : Int32) : Option ((Int32 × Int32 × px_M) ⊕ (px_M)) :=
  if 625 ≤ x4 then
    some (.inr M)
  else
    if x3 = 0 then
      some (.inr M)
    else
      bd1 (f_X3_packedRow M x2) fun e_73 =>
      bd1 (f_X3_holdsAll M e_73 x2) fun e_82 =>
      if e_82 = 0 then
        f_X3_findFits_109 sh M R x2 x4
      else
        ok (ix (M 27 13) 625) <|
        nm (px_u M 38 (M 27 13).toNatClampNeg e_73) fun M_98 =>
        nm ((M_98 27 13) + 1) fun v_106 =>
        nm (px_u M_98 27 13 v_106) fun M_106 =>
        f_X3_findFits_109 sh M_106 R x2 x4
theorem s_X3_findFits_59b {x2 : Int32} {x3 : Int32} {x4 : Int32} {M : px_M} {L : px_L} {R : px_R} {e : ((Int32 × Int32 × px_M) ⊕ (px_M))} (hS : SR sh R) (hd : 5 ≤ d) (hcu : cu ≤ mc) (hsu : su ≤ ms) (h : f_X3_findFits_59 sh M R x2 x3 x4 = some e) (g : (sE (fun a => WX RX3 cX3_findFits 6 (some .int) ("findFits", []) d mc ms X (px_QF Post mc ms) 59 [(0, .ref 27), (2, .int x2), (3, .int a.1), (4, .int a.2.1)] [] sh (a.2.2) L R n cu su) (fun t => WX RX3 cX3_findFits 6 (some .int) ("findFits", []) d mc ms X (px_QF Post mc ms) 132 [(0, .ref 27)] [] sh t L R n cu su)) e) : WX RX3 cX3_findFits 6 (some .int) ("findFits", []) d mc ms X (px_QF Post mc ms) 59 [(0, .ref 27), (2, .int x2), (3, .int x3), (4, .int x4)] [] sh M L R n cu su := by
  unfold f_X3_findFits_59 at h
  refine wx_iload dX3_findFits_59 rfl ?_
  refine wx_sipush (v := 625) dX3_findFits_61 (by decide) ?_
  refine wx_icmp_ge (tgt := 132) dX3_findFits_64 (by decide) (fun c_64 => ?_) (fun c_64 => ?_)
  · replace h := it_t h c_64
    obtain rfl := Option.some.inj h
    replace g := sE_r g
    exact wx_sub g (px_s rfl px_0)
  · replace h := it_f h c_64
    refine wx_iload_n dX3_findFits_67 rfl ?_
    refine wx_if_eq (tgt := 132) dX3_findFits_68 (by decide) (fun c_68 => ?_) (fun c_68 => ?_)
    · replace h := it_t h c_68
      obtain rfl := Option.some.inj h
      replace g := sE_r g
      exact wx_sub g (px_s rfl px_0)
    · replace h := it_f h c_68
      refine wx_aload_n dX3_findFits_71 rfl ?_
      refine wx_iload_n dX3_findFits_72 rfl ?_
      obtain ⟨e_73, k_73, h⟩ := bd1_some h
      refine wx_cVi dX3_findFits_73 ml_X3_65 my_X3_packedRow iv_X3_packedRow (sc_27 hS) (by decide) (s_X3_packedRow (d := d - 1) hS (by omega) k_73) rfl (by omega) (by exact Nat.le_of_ble_eq_true rfl) hcu hsu ?_
      refine wx_istore (lv' := [(5, _), (0, _), (2, _), (3, _), (4, _)]) dX3_findFits_76 (by decide) rfl ?_
      refine wx_aload_n dX3_findFits_78 rfl ?_
      refine wx_iload dX3_findFits_79 rfl ?_
      refine wx_iload_n dX3_findFits_81 rfl ?_
      obtain ⟨e_82, k_82, h⟩ := bd1_some h
      refine wx_cVi dX3_findFits_82 ml_X3_69 my_X3_holdsAll iv_X3_holdsAll (sc_27 hS) (by decide) (s_X3_holdsAll (d := d - 1) hS (by omega) k_82) rfl (by omega) (by exact Nat.le_of_ble_eq_true rfl) hcu hsu ?_
      refine wx_if_eq (tgt := 109) dX3_findFits_85 (by decide) (fun c_85 => ?_) (fun c_85 => ?_)
      · replace h := it_t h c_85
        exact wx_sub (s_X3_findFits_109 hS hd hcu hsu h g) (px_s rfl (px_s rfl (px_s rfl px_0)))
      · replace h := it_f h c_85
        refine wx_aload_n dX3_findFits_88 rfl ?_
        refine wx_getR dX3_findFits_89 fl_X3_44 (sc_27 hS) rfl (rr_27_12 hS) ?_
        refine wx_aload_n dX3_findFits_92 rfl ?_
        refine wx_getI dX3_findFits_93 fl_X3_58 (sc_27 hS) rfl ?_
        refine wx_iload dX3_findFits_96 rfl ?_
        obtain ⟨w_98, h⟩ := ok_some h
        refine wx_iast dX3_findFits_98 (sc_38 hS) (ix_in w_98) ?_
        refine wx_namM (fun M_98 q_98 => ?_)
        replace h := nm_at h q_98
        refine wx_aload_n dX3_findFits_99 rfl ?_
        refine wx_dup dX3_findFits_100 rfl ?_
        refine wx_getI dX3_findFits_101 fl_X3_58 (sc_27 hS) rfl ?_
        refine wx_iconst (v := 1) dX3_findFits_104 (by decide) ?_
        refine wx_iadd dX3_findFits_105 ?_
        refine wx_nami (fun v_106 q_106 => ?_)
        replace h := nm_at h q_106
        refine wx_putI dX3_findFits_106 fl_X3_58 (sc_27 hS) (Or.inl rfl) rfl ⟨rfl, rfl⟩ ?_
        refine wx_namM (fun M_106 q_106 => ?_)
        replace h := nm_at h q_106
        exact wx_sub (s_X3_findFits_109 hS hd hcu hsu h g) (px_s rfl (px_s rfl (px_s rfl px_0)))
theorem s_X3_findFits_59 {x2 : Int32} {x3 : Int32} {x4 : Int32} {M : px_M} {L : px_L} {R : px_R} {e : (px_M)} (hS : SR sh R) (hd : 5 ≤ d) (hcu : cu ≤ mc) (hsu : su ≤ ms) (h : lpf (fun a : Int32 × Int32 × px_M => f_X3_findFits_59 sh a.2.2 R x2 a.1 a.2.1) (x3, x4, M) = some e) (g : WX RX3 cX3_findFits 6 (some .int) ("findFits", []) d mc ms X (px_QF Post mc ms) 132 [(0, .ref 27)] [] sh e L R n cu su) : WX RX3 cX3_findFits 6 (some .int) ("findFits", []) d mc ms X (px_QF Post mc ms) 59 [(0, .ref 27), (2, .int x2), (3, .int x3), (4, .int x4)] [] sh M L R n cu su := by
  have key := lpf_wp (P := (fun a => WX RX3 cX3_findFits 6 (some .int) ("findFits", []) d mc ms X (px_QF Post mc ms) 59 [(0, .ref 27), (2, .int x2), (3, .int a.1), (4, .int a.2.1)] [] sh (a.2.2) L R n cu su)) (G := (fun t => WX RX3 cX3_findFits 6 (some .int) ("findFits", []) d mc ms X (px_QF Post mc ms) 132 [(0, .ref 27)] [] sh t L R n cu su)) (fun a r h g => s_X3_findFits_59b (x2 := x2) (x3 := a.1) (x4 := a.2.1) (M := a.2.2) (L := L) (R := R) hS hd hcu hsu h g) (a := (x3, x4, M)) h g
  exact key
noncomputable def f_X3_findFits_13 (sh : px_Sh) (M : px_M) (R : px_R) (x2 : Int32) (x3 : Int32) : Option ((Int32 × px_M) ⊕ (px_M)) :=
  if x2 ≤ x3 then
    some (.inr M)
  else
    ok (ix x3 4) <|
    nm (px_u M 35 x3.toNatClampNeg 0) fun M_24 =>
    nm ((M_24 27 2) - 1) fun v_36 =>
    ok (ix x3 4) <|
    nm (px_u M_24 37 x3.toNatClampNeg v_36) fun M_36 =>
    some (.inl ((x3 + 1), M_36))
theorem s_X3_findFits_13b {x2 : Int32} {x3 : Int32} {M : px_M} {L : px_L} {R : px_R} {e : ((Int32 × px_M) ⊕ (px_M))} (hS : SR sh R) (hd : 5 ≤ d) (hcu : cu ≤ mc) (hsu : su ≤ ms) (h : f_X3_findFits_13 sh M R x2 x3 = some e) (g : (sE (fun a => WX RX3 cX3_findFits 6 (some .int) ("findFits", []) d mc ms X (px_QF Post mc ms) 13 [(0, .ref 27), (2, .int x2), (3, .int a.1)] [] sh (a.2) L R n cu su) (fun t => WX RX3 cX3_findFits 6 (some .int) ("findFits", []) d mc ms X (px_QF Post mc ms) 43 [(0, .ref 27), (2, .int x2)] [] sh t L R n cu su)) e) : WX RX3 cX3_findFits 6 (some .int) ("findFits", []) d mc ms X (px_QF Post mc ms) 13 [(0, .ref 27), (2, .int x2), (3, .int x3)] [] sh M L R n cu su := by
  unfold f_X3_findFits_13 at h
  refine wx_iload_n dX3_findFits_13 rfl ?_
  refine wx_iload_n dX3_findFits_14 rfl ?_
  refine wx_icmp_ge (tgt := 43) dX3_findFits_15 (by decide) (fun c_15 => ?_) (fun c_15 => ?_)
  · replace h := it_t h c_15
    obtain rfl := Option.some.inj h
    replace g := sE_r g
    exact wx_sub g (px_s rfl (px_s rfl px_0))
  · replace h := it_f h c_15
    refine wx_aload_n dX3_findFits_18 rfl ?_
    refine wx_getR dX3_findFits_19 fl_X3_35 (sc_27 hS) rfl (rr_27_9 hS) ?_
    refine wx_iload_n dX3_findFits_22 rfl ?_
    refine wx_iconst (v := 0) dX3_findFits_23 (by decide) ?_
    obtain ⟨w_24, h⟩ := ok_some h
    refine wx_iast dX3_findFits_24 (sc_35 hS) (ix_in w_24) ?_
    refine wx_namM (fun M_24 q_24 => ?_)
    replace h := nm_at h q_24
    refine wx_aload_n dX3_findFits_25 rfl ?_
    refine wx_getR dX3_findFits_26 fl_X3_41 (sc_27 hS) rfl (rr_27_11 hS) ?_
    refine wx_iload_n dX3_findFits_29 rfl ?_
    refine wx_aload_n dX3_findFits_30 rfl ?_
    refine wx_getI dX3_findFits_31 fl_X3_51 (sc_27 hS) rfl ?_
    refine wx_iconst (v := 1) dX3_findFits_34 (by decide) ?_
    refine wx_isub dX3_findFits_35 ?_
    refine wx_nami (fun v_36 q_36 => ?_)
    replace h := nm_at h q_36
    obtain ⟨w_36, h⟩ := ok_some h
    refine wx_iast dX3_findFits_36 (sc_37 hS) (ix_in w_36) ?_
    refine wx_namM (fun M_36 q_36 => ?_)
    replace h := nm_at h q_36
    refine wx_iinc (lv' := [(3, _), (0, _), (2, _)]) dX3_findFits_37 rfl (i_1 _) (by decide) rfl ?_
    refine wx_goto (tgt := 13) dX3_findFits_40 (by decide) ?_
    obtain rfl := Option.some.inj h
    replace g := sE_l g
    exact wx_sub g (px_s rfl (px_s rfl (px_s rfl px_0)))
theorem s_X3_findFits_13 {x2 : Int32} {x3 : Int32} {M : px_M} {L : px_L} {R : px_R} {e : (px_M)} (hS : SR sh R) (hd : 5 ≤ d) (hcu : cu ≤ mc) (hsu : su ≤ ms) (h : lpf (fun a : Int32 × px_M => f_X3_findFits_13 sh a.2 R x2 a.1) (x3, M) = some e) (g : WX RX3 cX3_findFits 6 (some .int) ("findFits", []) d mc ms X (px_QF Post mc ms) 43 [(0, .ref 27), (2, .int x2)] [] sh e L R n cu su) : WX RX3 cX3_findFits 6 (some .int) ("findFits", []) d mc ms X (px_QF Post mc ms) 13 [(0, .ref 27), (2, .int x2), (3, .int x3)] [] sh M L R n cu su := by
  have key := lpf_wp (P := (fun a => WX RX3 cX3_findFits 6 (some .int) ("findFits", []) d mc ms X (px_QF Post mc ms) 13 [(0, .ref 27), (2, .int x2), (3, .int a.1)] [] sh (a.2) L R n cu su)) (G := (fun t => WX RX3 cX3_findFits 6 (some .int) ("findFits", []) d mc ms X (px_QF Post mc ms) 43 [(0, .ref 27), (2, .int x2)] [] sh t L R n cu su)) (fun a r h g => s_X3_findFits_13b (x2 := x2) (x3 := a.1) (M := a.2) (L := L) (R := R) hS hd hcu hsu h g) (a := (x3, M)) h g
  exact key
noncomputable def f_X3_findFits_55 (sh : px_Sh) (M : px_M) (R : px_R) (x2 : Int32) (z0 : Int32) : Option (Int32 × px_M) :=
  bd1 (lpf (fun a : Int32 × Int32 × px_M => f_X3_findFits_59 sh a.2.2 R x2 a.1 a.2.1) (z0, 0, M)) fun e_59 =>
  some ((e_59 27 13), e_59)
theorem s_X3_findFits_55 {x2 : Int32} {z0 : Int32} {M : px_M} {L : px_L} {R : px_R} {e : (Int32 × px_M)} (hS : SR sh R) (hd : 5 ≤ d) (hcu : cu ≤ mc) (hsu : su ≤ ms) (h : f_X3_findFits_55 sh M R x2 z0 = some e) (g : Post (some (.int (e.1))) sh (e.2) L R n) : WX RX3 cX3_findFits 6 (some .int) ("findFits", []) d mc ms X (px_QF Post mc ms) 55 [(0, .ref 27), (2, .int x2)] [.int z0] sh M L R n cu su := by
  unfold f_X3_findFits_55 at h
  refine wx_istore_n (lv' := [(3, _), (0, _), (2, _)]) dX3_findFits_55 (by decide) rfl ?_
  refine wx_iconst (v := 0) dX3_findFits_56 (by decide) ?_
  refine wx_istore (lv' := [(4, _), (3, _), (0, _), (2, _)]) dX3_findFits_57 (by decide) rfl ?_
  obtain ⟨e_59, k_59, h⟩ := bd1_some h
  refine wx_sub (s_X3_findFits_59 hS hd hcu hsu k_59 ?_) (px_s rfl (px_s rfl (px_s rfl (px_s rfl px_0))))
  refine wx_aload_n dX3_findFits_132 rfl ?_
  refine wx_getI dX3_findFits_133 fl_X3_58 (sc_27 hS) rfl ?_
  refine wx_iret dX3_findFits_136 hcu hsu ?_
  obtain rfl := Option.some.inj h
  exact g
noncomputable def f_X3_findFits (sh : px_Sh) (M : px_M) (R : px_R) (p2 : Int32) : Option (Int32 × px_M) :=
  nm (px_u M 27 13 0) fun M_2 =>
  bd1 (f_X3_tableShares sh M_2 R p2) fun e_8 =>
  bd1 (lpf (fun a : Int32 × px_M => f_X3_findFits_13 sh a.2 R p2 a.1) (0, e_8)) fun e_13 =>
  if (e_13 27 2) ≤ 0 then
    f_X3_findFits_55 sh e_13 R p2 0
  else
    f_X3_findFits_55 sh e_13 R p2 1
theorem s_X3_findFits {d : Nat} {X : Nat × (Nat → Int32)} {sh : px_Sh} {M : px_M} {L : px_L} {R : px_R} {n : Nat} {p2 : Int32} {e : Int32 × px_M} (hS : SR sh R) (hd : 5 ≤ d) (h : f_X3_findFits sh M R p2 = some e) : MX yX3_findFits cX3_findFits 6 (some .int) d 0 0 X [.ref 27, .ref 6, .int p2] sh M L R n (px_pu (some (.int e.1)) sh e.2 L R n) := by
  refine MX.of (by decide +kernel) (by exact Nat.le_of_ble_eq_true rfl) ?_
  have hcu : 0 ≤ 0 := Nat.zero_le _
  have hsu : 0 ≤ 0 := Nat.zero_le _
  have g : px_pu (some (.int e.1)) sh e.2 L R n (some (.int e.1)) sh e.2 L R n := ⟨rfl, rfl, rfl, rfl, rfl, rfl⟩
  unfold f_X3_findFits at h
  refine wx_aload_n dX3_findFits_0 rfl ?_
  refine wx_iconst (v := 0) dX3_findFits_1 (by decide) ?_
  refine wx_putI dX3_findFits_2 fl_X3_58 (sc_27 hS) (Or.inl rfl) rfl ⟨rfl, rfl⟩ ?_
  refine wx_namM (fun M_2 q_2 => ?_)
  replace h := nm_at h q_2
  refine wx_aload_n dX3_findFits_5 rfl ?_
  refine wx_aload_n dX3_findFits_6 rfl ?_
  refine wx_iload_n dX3_findFits_7 rfl ?_
  obtain ⟨e_8, k_8, h⟩ := bd1_some h
  refine wx_cVv dX3_findFits_8 ml_X3_61 my_X3_tableShares iv_X3_tableShares (sc_27 hS) (by decide) (s_X3_tableShares (d := d - 1) hS (by omega) k_8) rfl (by omega) (by exact Nat.le_of_ble_eq_true rfl) hcu hsu ?_
  refine wx_iconst (v := 0) dX3_findFits_11 (by decide) ?_
  refine wx_istore_n (lv' := [(3, _), (0, _), (1, _), (2, _)]) dX3_findFits_12 (by decide) rfl ?_
  obtain ⟨e_13, k_13, h⟩ := bd1_some h
  refine wx_sub (s_X3_findFits_13 hS hd hcu hsu k_13 ?_) (px_s rfl (px_s rfl (px_s rfl px_0)))
  refine wx_aload_n dX3_findFits_43 rfl ?_
  refine wx_getI dX3_findFits_44 fl_X3_51 (sc_27 hS) rfl ?_
  refine wx_if_le (tgt := 54) dX3_findFits_47 (by decide) (fun c_47 => ?_) (fun c_47 => ?_)
  · replace h := it_t h c_47
    refine wx_iconst (v := 0) dX3_findFits_54 (by decide) ?_
    exact wx_sub (s_X3_findFits_55 hS hd hcu hsu h g) (px_s rfl (px_s rfl px_0))
  · replace h := it_f h c_47
    refine wx_iconst (v := 1) dX3_findFits_50 (by decide) ?_
    refine wx_goto (tgt := 55) dX3_findFits_51 (by decide) ?_
    exact wx_sub (s_X3_findFits_55 hS hd hcu hsu h g) (px_s rfl (px_s rfl px_0))
noncomputable def f_X3_coatOf_28 (M : px_M) (z0 : Int32) : Option (Int32) :=
  some z0
theorem s_X3_coatOf_28 {z0 : Int32} {M : px_M} {L : px_L} {R : px_R} {e : (Int32)} (hS : SR sh R) (hd : 1 ≤ d) (hcu : cu ≤ mc) (hsu : su ≤ ms) (h : f_X3_coatOf_28 M z0 = some e) (g : Post (some (.int e)) sh M L R n) : WX RX3 cX3_coatOf 3 (some .int) ("coatOf", []) d mc ms X (px_QF Post mc ms) 28 [] [.int z0] sh M L R n cu su := by
  unfold f_X3_coatOf_28 at h
  refine wx_iret dX3_coatOf_28 hcu hsu ?_
  obtain rfl := Option.some.inj h
  exact g
noncomputable def f_X3_coatOf (M : px_M) (p1 : Int32) (p2 : Int32) : Option (Int32) :=
  bd1 (f_X11_within p1 0 ((M 27 13) - 1)) fun e_8 =>
  if e_8 = 0 then
    f_X3_coatOf_28 M (-1)
  else
    ok (ix p1 625) <|
    bd1 (f_X3_coatIn (M 38 p1.toNatClampNeg) p2) fun e_21 =>
    f_X3_coatOf_28 M e_21
theorem s_X3_coatOf {d : Nat} {X : Nat × (Nat → Int32)} {sh : px_Sh} {M : px_M} {L : px_L} {R : px_R} {n : Nat} {p1 : Int32} {p2 : Int32} {e : Int32} (hS : SR sh R) (hd : 1 ≤ d) (h : f_X3_coatOf M p1 p2 = some e) : MX yX3_coatOf cX3_coatOf 3 (some .int) d 0 0 X [.ref 27, .int p1, .int p2] sh M L R n (px_pu (some (.int e)) sh M L R n) := by
  refine MX.of (by decide +kernel) (by exact Nat.le_of_ble_eq_true rfl) ?_
  have hcu : 0 ≤ 0 := Nat.zero_le _
  have hsu : 0 ≤ 0 := Nat.zero_le _
  have g : px_pu (some (.int e)) sh M L R n (some (.int e)) sh M L R n := ⟨rfl, rfl, rfl, rfl, rfl, rfl⟩
  unfold f_X3_coatOf at h
  refine wx_iload_n dX3_coatOf_0 rfl ?_
  refine wx_iconst (v := 0) dX3_coatOf_1 (by decide) ?_
  refine wx_aload_n dX3_coatOf_2 rfl ?_
  refine wx_getI dX3_coatOf_3 fl_X3_58 (sc_27 hS) rfl ?_
  refine wx_iconst (v := 1) dX3_coatOf_6 (by decide) ?_
  refine wx_isub dX3_coatOf_7 ?_
  obtain ⟨e_8, k_8, h⟩ := bd1_some h
  refine wx_cSi dX3_coatOf_8 ml_X3_94 my_X11_within sv_X11_within (s_X11_within (d := d - 1) hS (by omega) k_8) rfl (by omega) (by exact Nat.le_of_ble_eq_true rfl) hcu hsu ?_
  refine wx_if_eq (tgt := 27) dX3_coatOf_11 (by decide) (fun c_11 => ?_) (fun c_11 => ?_)
  · replace h := it_t h c_11
    refine wx_iconst (v := (-1)) dX3_coatOf_27 (by decide) ?_
    exact wx_sub (s_X3_coatOf_28 hS hd hcu hsu h g) px_0
  · replace h := it_f h c_11
    refine wx_aload_n dX3_coatOf_14 rfl ?_
    refine wx_getR dX3_coatOf_15 fl_X3_44 (sc_27 hS) rfl (rr_27_12 hS) ?_
    refine wx_iload_n dX3_coatOf_18 rfl ?_
    obtain ⟨w_19, h⟩ := ok_some h
    refine wx_iald dX3_coatOf_19 (sc_38 hS) (ix_in w_19) ?_
    refine wx_iload_n dX3_coatOf_20 rfl ?_
    obtain ⟨e_21, k_21, h⟩ := bd1_some h
    refine wx_cSi dX3_coatOf_21 ml_X3_98 my_X3_coatIn sv_X3_coatIn (s_X3_coatIn (d := d - 1) hS (by omega) k_21) rfl (by omega) (by exact Nat.le_of_ble_eq_true rfl) hcu hsu ?_
    refine wx_goto (tgt := 28) dX3_coatOf_24 (by decide) ?_
    exact wx_sub (s_X3_coatOf_28 hS hd hcu hsu h g) px_0
noncomputable def f_X3_unlikePushes_109 (M : px_M) (L : px_L) (x1 : Int32) (x2 : Int32) (x3 : Int32) (x4 : Int32) : Option ((Int32 × Int32 × px_L) ⊕ (Int32 × px_L)) :=
  some (.inl (x3, (x4 + 1), L))
theorem s_X3_unlikePushes_109 {x1 : Int32} {x2 : Int32} {x3 : Int32} {x4 : Int32} {M : px_M} {L : px_L} {R : px_R} {e : ((Int32 × Int32 × px_L) ⊕ (Int32 × px_L))} (hS : SR sh R) (hd : 2 ≤ d) (hcu : cu ≤ mc) (hsu : su ≤ ms) (h : f_X3_unlikePushes_109 M L x1 x2 x3 x4 = some e) (g : (sE (fun a => WX RX3 cX3_unlikePushes 8 (some .int) ("unlikePushes", []) d mc ms X (px_QF Post mc ms) 26 [(0, .ref 27), (1, .int x1), (2, .int x2), (3, .int a.1), (4, .int a.2.1)] [] sh M (a.2.2) R n cu su) (fun t => WX RX3 cX3_unlikePushes 8 (some .int) ("unlikePushes", []) d mc ms X (px_QF Post mc ms) 115 [(3, .int t.1)] [] sh M (t.2) R n cu su)) e) : WX RX3 cX3_unlikePushes 8 (some .int) ("unlikePushes", []) d mc ms X (px_QF Post mc ms) 109 [(0, .ref 27), (1, .int x1), (2, .int x2), (3, .int x3), (4, .int x4)] [] sh M L R n cu su := by
  unfold f_X3_unlikePushes_109 at h
  refine wx_iinc (lv' := [(4, _), (0, _), (1, _), (2, _), (3, _)]) dX3_unlikePushes_109 rfl (i_1 _) (by decide) rfl ?_
  refine wx_goto (tgt := 26) dX3_unlikePushes_112 (by decide) ?_
  obtain rfl := Option.some.inj h
  replace g := sE_l g
  exact wx_sub g (px_s rfl (px_s rfl (px_s rfl (px_s rfl (px_s rfl px_0)))))
noncomputable def f_X3_unlikePushes_26 (M : px_M) (L : px_L) (x1 : Int32) (x2 : Int32) (x3 : Int32) (x4 : Int32) : Option ((Int32 × Int32 × px_L) ⊕ (Int32 × px_L)) :=
  if (M 27 13) ≤ x4 then
    some (.inr (x3, L))
  else
    ok (ix x4 625) <|
    bd1 (f_X3_hiddenPush M (M 38 x4.toNatClampNeg) x1 x2) fun e_45 =>
    nm (1 <<< (((e_45 &&& 63) : Int32).toInt64 &&& 63)) fun v_57 =>
    bd1 (f_X11_within (e_45 >>> (6 &&& 31)) 0 125) fun e_67 =>
    if e_67 = 0 then
      f_X3_unlikePushes_109 M L x1 x2 x3 x4
    else
      nm (e_45 >>> (6 &&& 31)) fun v_82 =>
      ok (ix v_82 126) <|
      if (lg_cmp ((L 39 v_82.toNatClampNeg) &&& v_57) 0) = 0 then
        nm (e_45 >>> (6 &&& 31)) fun v_100 =>
        ok (ix v_100 126) <|
        nm ((L 39 v_100.toNatClampNeg) ||| v_57) fun v_105 =>
        ok (ix v_100 126) <|
        nm (px_u L 39 v_100.toNatClampNeg v_105) fun L_105 =>
        f_X3_unlikePushes_109 M L_105 x1 x2 (x3 + 1) x4
      else
        f_X3_unlikePushes_109 M L x1 x2 x3 x4
theorem s_X3_unlikePushes_26b {x1 : Int32} {x2 : Int32} {x3 : Int32} {x4 : Int32} {M : px_M} {L : px_L} {R : px_R} {e : ((Int32 × Int32 × px_L) ⊕ (Int32 × px_L))} (hS : SR sh R) (hd : 2 ≤ d) (hcu : cu ≤ mc) (hsu : su ≤ ms) (h : f_X3_unlikePushes_26 M L x1 x2 x3 x4 = some e) (g : (sE (fun a => WX RX3 cX3_unlikePushes 8 (some .int) ("unlikePushes", []) d mc ms X (px_QF Post mc ms) 26 [(0, .ref 27), (1, .int x1), (2, .int x2), (3, .int a.1), (4, .int a.2.1)] [] sh M (a.2.2) R n cu su) (fun t => WX RX3 cX3_unlikePushes 8 (some .int) ("unlikePushes", []) d mc ms X (px_QF Post mc ms) 115 [(3, .int t.1)] [] sh M (t.2) R n cu su)) e) : WX RX3 cX3_unlikePushes 8 (some .int) ("unlikePushes", []) d mc ms X (px_QF Post mc ms) 26 [(0, .ref 27), (1, .int x1), (2, .int x2), (3, .int x3), (4, .int x4)] [] sh M L R n cu su := by
  unfold f_X3_unlikePushes_26 at h
  refine wx_iload dX3_unlikePushes_26 rfl ?_
  refine wx_aload_n dX3_unlikePushes_28 rfl ?_
  refine wx_getI dX3_unlikePushes_29 fl_X3_58 (sc_27 hS) rfl ?_
  refine wx_icmp_ge (tgt := 115) dX3_unlikePushes_32 (by decide) (fun c_32 => ?_) (fun c_32 => ?_)
  · replace h := it_t h c_32
    obtain rfl := Option.some.inj h
    replace g := sE_r g
    exact wx_sub g (px_s rfl px_0)
  · replace h := it_f h c_32
    refine wx_aload_n dX3_unlikePushes_35 rfl ?_
    refine wx_aload_n dX3_unlikePushes_36 rfl ?_
    refine wx_getR dX3_unlikePushes_37 fl_X3_44 (sc_27 hS) rfl (rr_27_12 hS) ?_
    refine wx_iload dX3_unlikePushes_40 rfl ?_
    obtain ⟨w_42, h⟩ := ok_some h
    refine wx_iald dX3_unlikePushes_42 (sc_38 hS) (ix_in w_42) ?_
    refine wx_iload_n dX3_unlikePushes_43 rfl ?_
    refine wx_iload_n dX3_unlikePushes_44 rfl ?_
    obtain ⟨e_45, k_45, h⟩ := bd1_some h
    refine wx_cVi dX3_unlikePushes_45 ml_X3_101 my_X3_hiddenPush iv_X3_hiddenPush (sc_27 hS) (by decide) (s_X3_hiddenPush (d := d - 1) hS (by omega) k_45) rfl (by omega) (by exact Nat.le_of_ble_eq_true rfl) hcu hsu ?_
    refine wx_istore (lv' := [(5, _), (0, _), (1, _), (2, _), (3, _), (4, _)]) dX3_unlikePushes_48 (by decide) rfl ?_
    refine wx_lconst (v := 1) dX3_unlikePushes_50 (by decide) ?_
    refine wx_iload dX3_unlikePushes_51 rfl ?_
    refine wx_bipush (v := 63) dX3_unlikePushes_53 (by decide) ?_
    refine wx_iand dX3_unlikePushes_55 ?_
    refine wx_lshl dX3_unlikePushes_56 ?_
    refine wx_naml (fun v_57 q_57 => ?_)
    replace h := nm_at h q_57
    refine wx_lstore (lv' := [(6, _), (5, _), (0, _), (1, _), (2, _), (3, _), (4, _)]) dX3_unlikePushes_57 (by decide) rfl ?_
    refine wx_iload dX3_unlikePushes_59 rfl ?_
    refine wx_bipush (v := 6) dX3_unlikePushes_61 (by decide) ?_
    refine wx_ishr dX3_unlikePushes_63 ?_
    refine wx_iconst (v := 0) dX3_unlikePushes_64 (by decide) ?_
    refine wx_bipush (v := 125) dX3_unlikePushes_65 (by decide) ?_
    obtain ⟨e_67, k_67, h⟩ := bd1_some h
    refine wx_cSi dX3_unlikePushes_67 ml_X3_94 my_X11_within sv_X11_within (s_X11_within (d := d - 1) hS (by omega) k_67) rfl (by omega) (by exact Nat.le_of_ble_eq_true rfl) hcu hsu ?_
    refine wx_if_eq (tgt := 109) dX3_unlikePushes_70 (by decide) (fun c_70 => ?_) (fun c_70 => ?_)
    · replace h := it_t h c_70
      exact wx_sub (s_X3_unlikePushes_109 hS hd hcu hsu h g) (px_s rfl (px_s rfl (px_s rfl (px_s rfl (px_s rfl px_0)))))
    · replace h := it_f h c_70
      refine wx_aload_n dX3_unlikePushes_73 rfl ?_
      refine wx_getR dX3_unlikePushes_74 fl_X3_47 (sc_27 hS) rfl (rr_27_14 hS) ?_
      refine wx_iload dX3_unlikePushes_77 rfl ?_
      refine wx_bipush (v := 6) dX3_unlikePushes_79 (by decide) ?_
      refine wx_ishr dX3_unlikePushes_81 ?_
      refine wx_nami (fun v_82 q_82 => ?_)
      replace h := nm_at h q_82
      obtain ⟨w_82, h⟩ := ok_some h
      refine wx_lald dX3_unlikePushes_82 (sc_39 hS) (ix_in w_82) ?_
      refine wx_lload dX3_unlikePushes_83 rfl ?_
      refine wx_land dX3_unlikePushes_85 ?_
      refine wx_lconst (v := 0) dX3_unlikePushes_86 (by decide) ?_
      refine wx_lcmp dX3_unlikePushes_87 ?_
      refine wx_if_ne (tgt := 109) dX3_unlikePushes_88 (by decide) (fun c_88 => ?_) (fun c_88 => ?_)
      · replace h := it_f h c_88
        exact wx_sub (s_X3_unlikePushes_109 hS hd hcu hsu h g) (px_s rfl (px_s rfl (px_s rfl (px_s rfl (px_s rfl px_0)))))
      · replace h := it_t h c_88
        refine wx_aload_n dX3_unlikePushes_91 rfl ?_
        refine wx_getR dX3_unlikePushes_92 fl_X3_47 (sc_27 hS) rfl (rr_27_14 hS) ?_
        refine wx_iload dX3_unlikePushes_95 rfl ?_
        refine wx_bipush (v := 6) dX3_unlikePushes_97 (by decide) ?_
        refine wx_ishr dX3_unlikePushes_99 ?_
        refine wx_nami (fun v_100 q_100 => ?_)
        replace h := nm_at h q_100
        refine wx_dup2_11 dX3_unlikePushes_100 rfl rfl ?_
        obtain ⟨w_101, h⟩ := ok_some h
        refine wx_lald dX3_unlikePushes_101 (sc_39 hS) (ix_in w_101) ?_
        refine wx_lload dX3_unlikePushes_102 rfl ?_
        refine wx_lor dX3_unlikePushes_104 ?_
        refine wx_naml (fun v_105 q_105 => ?_)
        replace h := nm_at h q_105
        obtain ⟨w_105, h⟩ := ok_some h
        refine wx_last dX3_unlikePushes_105 (sc_39 hS) (ix_in w_105) ?_
        refine wx_namL (fun L_105 q_105 => ?_)
        replace h := nm_at h q_105
        refine wx_iinc (lv' := [(3, _), (6, _), (5, _), (0, _), (1, _), (2, _), (4, _)]) dX3_unlikePushes_106 rfl (i_1 _) (by decide) rfl ?_
        exact wx_sub (s_X3_unlikePushes_109 hS hd hcu hsu h g) (px_s rfl (px_s rfl (px_s rfl (px_s rfl (px_s rfl px_0)))))
theorem s_X3_unlikePushes_26 {x1 : Int32} {x2 : Int32} {x3 : Int32} {x4 : Int32} {M : px_M} {L : px_L} {R : px_R} {e : (Int32 × px_L)} (hS : SR sh R) (hd : 2 ≤ d) (hcu : cu ≤ mc) (hsu : su ≤ ms) (h : lpf (fun a : Int32 × Int32 × px_L => f_X3_unlikePushes_26 M a.2.2 x1 x2 a.1 a.2.1) (x3, x4, L) = some e) (g : WX RX3 cX3_unlikePushes 8 (some .int) ("unlikePushes", []) d mc ms X (px_QF Post mc ms) 115 [(3, .int e.1)] [] sh M (e.2) R n cu su) : WX RX3 cX3_unlikePushes 8 (some .int) ("unlikePushes", []) d mc ms X (px_QF Post mc ms) 26 [(0, .ref 27), (1, .int x1), (2, .int x2), (3, .int x3), (4, .int x4)] [] sh M L R n cu su := by
  have key := lpf_wp (P := (fun a => WX RX3 cX3_unlikePushes 8 (some .int) ("unlikePushes", []) d mc ms X (px_QF Post mc ms) 26 [(0, .ref 27), (1, .int x1), (2, .int x2), (3, .int a.1), (4, .int a.2.1)] [] sh M (a.2.2) R n cu su)) (G := (fun t => WX RX3 cX3_unlikePushes 8 (some .int) ("unlikePushes", []) d mc ms X (px_QF Post mc ms) 115 [(3, .int t.1)] [] sh M (t.2) R n cu su)) (fun a r h g => s_X3_unlikePushes_26b (x1 := x1) (x2 := x2) (x3 := a.1) (x4 := a.2.1) (M := M) (L := a.2.2) (R := R) hS hd hcu hsu h g) (a := (x3, x4, L)) h g
  exact key
noncomputable def f_X3_unlikePushes_2 (M : px_M) (L : px_L) (x1 : Int32) (x2 : Int32) (x3 : Int32) : Option ((Int32 × px_L) ⊕ (px_L)) :=
  if 126 ≤ x3 then
    some (.inr L)
  else
    ok (ix x3 126) <|
    nm (px_u L 39 x3.toNatClampNeg 0) fun L_14 =>
    some (.inl ((x3 + 1), L_14))
theorem s_X3_unlikePushes_2b {x1 : Int32} {x2 : Int32} {x3 : Int32} {M : px_M} {L : px_L} {R : px_R} {e : ((Int32 × px_L) ⊕ (px_L))} (hS : SR sh R) (hd : 2 ≤ d) (hcu : cu ≤ mc) (hsu : su ≤ ms) (h : f_X3_unlikePushes_2 M L x1 x2 x3 = some e) (g : (sE (fun a => WX RX3 cX3_unlikePushes 8 (some .int) ("unlikePushes", []) d mc ms X (px_QF Post mc ms) 2 [(0, .ref 27), (1, .int x1), (2, .int x2), (3, .int a.1)] [] sh M (a.2) R n cu su) (fun t => WX RX3 cX3_unlikePushes 8 (some .int) ("unlikePushes", []) d mc ms X (px_QF Post mc ms) 21 [(0, .ref 27), (1, .int x1), (2, .int x2)] [] sh M t R n cu su)) e) : WX RX3 cX3_unlikePushes 8 (some .int) ("unlikePushes", []) d mc ms X (px_QF Post mc ms) 2 [(0, .ref 27), (1, .int x1), (2, .int x2), (3, .int x3)] [] sh M L R n cu su := by
  unfold f_X3_unlikePushes_2 at h
  refine wx_iload_n dX3_unlikePushes_2 rfl ?_
  refine wx_bipush (v := 126) dX3_unlikePushes_3 (by decide) ?_
  refine wx_icmp_ge (tgt := 21) dX3_unlikePushes_5 (by decide) (fun c_5 => ?_) (fun c_5 => ?_)
  · replace h := it_t h c_5
    obtain rfl := Option.some.inj h
    replace g := sE_r g
    exact wx_sub g (px_s rfl (px_s rfl (px_s rfl px_0)))
  · replace h := it_f h c_5
    refine wx_aload_n dX3_unlikePushes_8 rfl ?_
    refine wx_getR dX3_unlikePushes_9 fl_X3_47 (sc_27 hS) rfl (rr_27_14 hS) ?_
    refine wx_iload_n dX3_unlikePushes_12 rfl ?_
    refine wx_lconst (v := 0) dX3_unlikePushes_13 (by decide) ?_
    obtain ⟨w_14, h⟩ := ok_some h
    refine wx_last dX3_unlikePushes_14 (sc_39 hS) (ix_in w_14) ?_
    refine wx_namL (fun L_14 q_14 => ?_)
    replace h := nm_at h q_14
    refine wx_iinc (lv' := [(3, _), (0, _), (1, _), (2, _)]) dX3_unlikePushes_15 rfl (i_1 _) (by decide) rfl ?_
    refine wx_goto (tgt := 2) dX3_unlikePushes_18 (by decide) ?_
    obtain rfl := Option.some.inj h
    replace g := sE_l g
    exact wx_sub g (px_s rfl (px_s rfl (px_s rfl (px_s rfl px_0))))
theorem s_X3_unlikePushes_2 {x1 : Int32} {x2 : Int32} {x3 : Int32} {M : px_M} {L : px_L} {R : px_R} {e : (px_L)} (hS : SR sh R) (hd : 2 ≤ d) (hcu : cu ≤ mc) (hsu : su ≤ ms) (h : lpf (fun a : Int32 × px_L => f_X3_unlikePushes_2 M a.2 x1 x2 a.1) (x3, L) = some e) (g : WX RX3 cX3_unlikePushes 8 (some .int) ("unlikePushes", []) d mc ms X (px_QF Post mc ms) 21 [(0, .ref 27), (1, .int x1), (2, .int x2)] [] sh M e R n cu su) : WX RX3 cX3_unlikePushes 8 (some .int) ("unlikePushes", []) d mc ms X (px_QF Post mc ms) 2 [(0, .ref 27), (1, .int x1), (2, .int x2), (3, .int x3)] [] sh M L R n cu su := by
  have key := lpf_wp (P := (fun a => WX RX3 cX3_unlikePushes 8 (some .int) ("unlikePushes", []) d mc ms X (px_QF Post mc ms) 2 [(0, .ref 27), (1, .int x1), (2, .int x2), (3, .int a.1)] [] sh M (a.2) R n cu su)) (G := (fun t => WX RX3 cX3_unlikePushes 8 (some .int) ("unlikePushes", []) d mc ms X (px_QF Post mc ms) 21 [(0, .ref 27), (1, .int x1), (2, .int x2)] [] sh M t R n cu su)) (fun a r h g => s_X3_unlikePushes_2b (x1 := x1) (x2 := x2) (x3 := a.1) (M := M) (L := a.2) (R := R) hS hd hcu hsu h g) (a := (x3, L)) h g
  exact key
noncomputable def f_X3_unlikePushes (M : px_M) (L : px_L) (p1 : Int32) (p2 : Int32) : Option (Int32 × px_L) :=
  bd1 (lpf (fun a : Int32 × px_L => f_X3_unlikePushes_2 M a.2 p1 p2 a.1) (0, L)) fun e_2 =>
  bd1 (lpf (fun a : Int32 × Int32 × px_L => f_X3_unlikePushes_26 M a.2.2 p1 p2 a.1 a.2.1) (0, 0, e_2)) fun e_26 =>
  some (e_26.1, e_26.2)
theorem s_X3_unlikePushes {d : Nat} {X : Nat × (Nat → Int32)} {sh : px_Sh} {M : px_M} {L : px_L} {R : px_R} {n : Nat} {p1 : Int32} {p2 : Int32} {e : Int32 × px_L} (hS : SR sh R) (hd : 2 ≤ d) (h : f_X3_unlikePushes M L p1 p2 = some e) : MX yX3_unlikePushes cX3_unlikePushes 8 (some .int) d 0 0 X [.ref 27, .int p1, .int p2] sh M L R n (px_pu (some (.int e.1)) sh M e.2 R n) := by
  refine MX.of (by decide +kernel) (by exact Nat.le_of_ble_eq_true rfl) ?_
  have hcu : 0 ≤ 0 := Nat.zero_le _
  have hsu : 0 ≤ 0 := Nat.zero_le _
  have g : px_pu (some (.int e.1)) sh M e.2 R n (some (.int e.1)) sh M e.2 R n := ⟨rfl, rfl, rfl, rfl, rfl, rfl⟩
  unfold f_X3_unlikePushes at h
  refine wx_iconst (v := 0) dX3_unlikePushes_0 (by decide) ?_
  refine wx_istore_n (lv' := [(3, _), (0, _), (1, _), (2, _)]) dX3_unlikePushes_1 (by decide) rfl ?_
  obtain ⟨e_2, k_2, h⟩ := bd1_some h
  refine wx_sub (s_X3_unlikePushes_2 hS hd hcu hsu k_2 ?_) (px_s rfl (px_s rfl (px_s rfl (px_s rfl px_0))))
  refine wx_iconst (v := 0) dX3_unlikePushes_21 (by decide) ?_
  refine wx_istore_n (lv' := [(3, _), (0, _), (1, _), (2, _)]) dX3_unlikePushes_22 (by decide) rfl ?_
  refine wx_iconst (v := 0) dX3_unlikePushes_23 (by decide) ?_
  refine wx_istore (lv' := [(4, _), (3, _), (0, _), (1, _), (2, _)]) dX3_unlikePushes_24 (by decide) rfl ?_
  obtain ⟨e_26, k_26, h⟩ := bd1_some h
  refine wx_sub (s_X3_unlikePushes_26 hS hd hcu hsu k_26 ?_) (px_s rfl (px_s rfl (px_s rfl (px_s rfl (px_s rfl px_0)))))
  refine wx_iload_n dX3_unlikePushes_115 rfl ?_
  refine wx_iret dX3_unlikePushes_116 hcu hsu ?_
  obtain rfl := Option.some.inj h
  exact g
noncomputable def f_X3_bestSlant_36 (M : px_M) (L : px_L) (x1 : Int32) (x2 : Int32) (x3 : Int32) (x4 : Int32) : Option ((Int32 × Int32 × Int32 × px_L) ⊕ (Int32 × px_L)) :=
  some (.inl (x2, x3, (x4 + 1), L))
theorem s_X3_bestSlant_36 {x1 : Int32} {x2 : Int32} {x3 : Int32} {x4 : Int32} {M : px_M} {L : px_L} {R : px_R} {e : ((Int32 × Int32 × Int32 × px_L) ⊕ (Int32 × px_L))} (hS : SR sh R) (hd : 3 ≤ d) (hcu : cu ≤ mc) (hsu : su ≤ ms) (h : f_X3_bestSlant_36 M L x1 x2 x3 x4 = some e) (g : (sE (fun a => WX RX3 cX3_bestSlant 6 (some .int) ("bestSlant", []) d mc ms X (px_QF Post mc ms) 8 [(0, .ref 27), (1, .int x1), (2, .int a.1), (3, .int a.2.1), (4, .int a.2.2.1)] [] sh M (a.2.2.2) R n cu su) (fun t => WX RX3 cX3_bestSlant 6 (some .int) ("bestSlant", []) d mc ms X (px_QF Post mc ms) 42 [(2, .int t.1)] [] sh M (t.2) R n cu su)) e) : WX RX3 cX3_bestSlant 6 (some .int) ("bestSlant", []) d mc ms X (px_QF Post mc ms) 36 [(0, .ref 27), (1, .int x1), (2, .int x2), (3, .int x3), (4, .int x4)] [] sh M L R n cu su := by
  unfold f_X3_bestSlant_36 at h
  refine wx_iinc (lv' := [(4, _), (0, _), (1, _), (2, _), (3, _)]) dX3_bestSlant_36 rfl (i_1 _) (by decide) rfl ?_
  refine wx_goto (tgt := 8) dX3_bestSlant_39 (by decide) ?_
  obtain rfl := Option.some.inj h
  replace g := sE_l g
  exact wx_sub g (px_s rfl (px_s rfl (px_s rfl (px_s rfl (px_s rfl px_0)))))
noncomputable def f_X3_bestSlant_8 (M : px_M) (L : px_L) (x1 : Int32) (x2 : Int32) (x3 : Int32) (x4 : Int32) : Option ((Int32 × Int32 × Int32 × px_L) ⊕ (Int32 × px_L)) :=
  if 8 < x4 then
    some (.inr (x2, L))
  else
    bd1 (f_X3_unlikePushes M L x1 x4) fun e_19 =>
    if e_19.1 ≤ x3 then
      f_X3_bestSlant_36 M e_19.2 x1 x2 x3 x4
    else
      f_X3_bestSlant_36 M e_19.2 x1 x4 e_19.1 x4
theorem s_X3_bestSlant_8b {x1 : Int32} {x2 : Int32} {x3 : Int32} {x4 : Int32} {M : px_M} {L : px_L} {R : px_R} {e : ((Int32 × Int32 × Int32 × px_L) ⊕ (Int32 × px_L))} (hS : SR sh R) (hd : 3 ≤ d) (hcu : cu ≤ mc) (hsu : su ≤ ms) (h : f_X3_bestSlant_8 M L x1 x2 x3 x4 = some e) (g : (sE (fun a => WX RX3 cX3_bestSlant 6 (some .int) ("bestSlant", []) d mc ms X (px_QF Post mc ms) 8 [(0, .ref 27), (1, .int x1), (2, .int a.1), (3, .int a.2.1), (4, .int a.2.2.1)] [] sh M (a.2.2.2) R n cu su) (fun t => WX RX3 cX3_bestSlant 6 (some .int) ("bestSlant", []) d mc ms X (px_QF Post mc ms) 42 [(2, .int t.1)] [] sh M (t.2) R n cu su)) e) : WX RX3 cX3_bestSlant 6 (some .int) ("bestSlant", []) d mc ms X (px_QF Post mc ms) 8 [(0, .ref 27), (1, .int x1), (2, .int x2), (3, .int x3), (4, .int x4)] [] sh M L R n cu su := by
  unfold f_X3_bestSlant_8 at h
  refine wx_iload dX3_bestSlant_8 rfl ?_
  refine wx_bipush (v := 8) dX3_bestSlant_10 (by decide) ?_
  refine wx_icmp_gt (tgt := 42) dX3_bestSlant_12 (by decide) (fun c_12 => ?_) (fun c_12 => ?_)
  · replace h := it_t h c_12
    obtain rfl := Option.some.inj h
    replace g := sE_r g
    exact wx_sub g (px_s rfl px_0)
  · replace h := it_f h c_12
    refine wx_aload_n dX3_bestSlant_15 rfl ?_
    refine wx_iload_n dX3_bestSlant_16 rfl ?_
    refine wx_iload dX3_bestSlant_17 rfl ?_
    obtain ⟨e_19, k_19, h⟩ := bd1_some h
    refine wx_cVi dX3_bestSlant_19 ml_X3_109 my_X3_unlikePushes iv_X3_unlikePushes (sc_27 hS) (by decide) (s_X3_unlikePushes (d := d - 1) hS (by omega) k_19) rfl (by omega) (by exact Nat.le_of_ble_eq_true rfl) hcu hsu ?_
    refine wx_istore (lv' := [(5, _), (0, _), (1, _), (2, _), (3, _), (4, _)]) dX3_bestSlant_22 (by decide) rfl ?_
    refine wx_iload dX3_bestSlant_24 rfl ?_
    refine wx_iload_n dX3_bestSlant_26 rfl ?_
    refine wx_icmp_le (tgt := 36) dX3_bestSlant_27 (by decide) (fun c_27 => ?_) (fun c_27 => ?_)
    · replace h := it_t h c_27
      exact wx_sub (s_X3_bestSlant_36 hS hd hcu hsu h g) (px_s rfl (px_s rfl (px_s rfl (px_s rfl (px_s rfl px_0)))))
    · replace h := it_f h c_27
      refine wx_iload dX3_bestSlant_30 rfl ?_
      refine wx_istore_n (lv' := [(3, _), (5, _), (0, _), (1, _), (2, _), (4, _)]) dX3_bestSlant_32 (by decide) rfl ?_
      refine wx_iload dX3_bestSlant_33 rfl ?_
      refine wx_istore_n (lv' := [(2, _), (3, _), (5, _), (0, _), (1, _), (4, _)]) dX3_bestSlant_35 (by decide) rfl ?_
      exact wx_sub (s_X3_bestSlant_36 hS hd hcu hsu h g) (px_s rfl (px_s rfl (px_s rfl (px_s rfl (px_s rfl px_0)))))
theorem s_X3_bestSlant_8 {x1 : Int32} {x2 : Int32} {x3 : Int32} {x4 : Int32} {M : px_M} {L : px_L} {R : px_R} {e : (Int32 × px_L)} (hS : SR sh R) (hd : 3 ≤ d) (hcu : cu ≤ mc) (hsu : su ≤ ms) (h : lpf (fun a : Int32 × Int32 × Int32 × px_L => f_X3_bestSlant_8 M a.2.2.2 x1 a.1 a.2.1 a.2.2.1) (x2, x3, x4, L) = some e) (g : WX RX3 cX3_bestSlant 6 (some .int) ("bestSlant", []) d mc ms X (px_QF Post mc ms) 42 [(2, .int e.1)] [] sh M (e.2) R n cu su) : WX RX3 cX3_bestSlant 6 (some .int) ("bestSlant", []) d mc ms X (px_QF Post mc ms) 8 [(0, .ref 27), (1, .int x1), (2, .int x2), (3, .int x3), (4, .int x4)] [] sh M L R n cu su := by
  have key := lpf_wp (P := (fun a => WX RX3 cX3_bestSlant 6 (some .int) ("bestSlant", []) d mc ms X (px_QF Post mc ms) 8 [(0, .ref 27), (1, .int x1), (2, .int a.1), (3, .int a.2.1), (4, .int a.2.2.1)] [] sh M (a.2.2.2) R n cu su)) (G := (fun t => WX RX3 cX3_bestSlant 6 (some .int) ("bestSlant", []) d mc ms X (px_QF Post mc ms) 42 [(2, .int t.1)] [] sh M (t.2) R n cu su)) (fun a r h g => s_X3_bestSlant_8b (x1 := x1) (x2 := a.1) (x3 := a.2.1) (x4 := a.2.2.1) (M := M) (L := a.2.2.2) (R := R) hS hd hcu hsu h g) (a := (x2, x3, x4, L)) h g
  exact key
noncomputable def f_X3_bestSlant (M : px_M) (L : px_L) (p1 : Int32) : Option (Int32 × px_L) :=
  bd1 (lpf (fun a : Int32 × Int32 × Int32 × px_L => f_X3_bestSlant_8 M a.2.2.2 p1 a.1 a.2.1 a.2.2.1) (0, 0, (-8), L)) fun e_8 =>
  some (e_8.1, e_8.2)
theorem s_X3_bestSlant {d : Nat} {X : Nat × (Nat → Int32)} {sh : px_Sh} {M : px_M} {L : px_L} {R : px_R} {n : Nat} {p1 : Int32} {e : Int32 × px_L} (hS : SR sh R) (hd : 3 ≤ d) (h : f_X3_bestSlant M L p1 = some e) : MX yX3_bestSlant cX3_bestSlant 6 (some .int) d 0 0 X [.ref 27, .int p1] sh M L R n (px_pu (some (.int e.1)) sh M e.2 R n) := by
  refine MX.of (by decide +kernel) (by exact Nat.le_of_ble_eq_true rfl) ?_
  have hcu : 0 ≤ 0 := Nat.zero_le _
  have hsu : 0 ≤ 0 := Nat.zero_le _
  have g : px_pu (some (.int e.1)) sh M e.2 R n (some (.int e.1)) sh M e.2 R n := ⟨rfl, rfl, rfl, rfl, rfl, rfl⟩
  unfold f_X3_bestSlant at h
  refine wx_iconst (v := 0) dX3_bestSlant_0 (by decide) ?_
  refine wx_istore_n (lv' := [(2, _), (0, _), (1, _)]) dX3_bestSlant_1 (by decide) rfl ?_
  refine wx_iconst (v := 0) dX3_bestSlant_2 (by decide) ?_
  refine wx_istore_n (lv' := [(3, _), (2, _), (0, _), (1, _)]) dX3_bestSlant_3 (by decide) rfl ?_
  refine wx_bipush (v := (-8)) dX3_bestSlant_4 (by decide) ?_
  refine wx_istore (lv' := [(4, _), (3, _), (2, _), (0, _), (1, _)]) dX3_bestSlant_6 (by decide) rfl ?_
  obtain ⟨e_8, k_8, h⟩ := bd1_some h
  refine wx_sub (s_X3_bestSlant_8 hS hd hcu hsu k_8 ?_) (px_s rfl (px_s rfl (px_s rfl (px_s rfl (px_s rfl px_0)))))
  refine wx_iload_n dX3_bestSlant_42 rfl ?_
  refine wx_iret dX3_bestSlant_43 hcu hsu ?_
  obtain rfl := Option.some.inj h
  exact g
end LIFT
