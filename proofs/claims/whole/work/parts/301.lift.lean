/-! Catalog -/
section LIFT
variable {d mc ms : Nat} {X : Nat × (Nat → Int32)} {Post : px_Post} {sh : px_Sh} {n cu su : Nat}
noncomputable def f_X0_addOffer (M : px_M) (p1 : Int32) (p2 : Int32) (p3 : Int32) (p4 : Int32) : Option (Int32 × px_M) :=
  if (M 61 4) = 12 then
    some ((-1), M)
  else
    ok (ix (M 61 4) 12) <|
    nm (px_u M 62 (M 61 4).toNatClampNeg p1) fun M_20 =>
    ok (ix (M_20 61 4) 12) <|
    nm (px_u M_20 63 (M_20 61 4).toNatClampNeg p2) fun M_30 =>
    ok (ix (M_30 61 4) 12) <|
    nm (px_u M_30 64 (M_30 61 4).toNatClampNeg p3) fun M_40 =>
    ok (ix (M_40 61 4) 12) <|
    nm (px_u M_40 65 (M_40 61 4).toNatClampNeg p4) fun M_51 =>
    nm (M_51 61 4) fun v_57 =>
    nm (v_57 + 1) fun v_60 =>
    nm (px_u M_51 61 4 v_60) fun M_60 =>
    some (v_57, M_60)
theorem s_X0_addOffer {d : Nat} {X : Nat × (Nat → Int32)} {sh : px_Sh} {M : px_M} {L : px_L} {R : px_R} {n : Nat} {p1 : Int32} {p2 : Int32} {p3 : Int32} {p4 : Int32} {e : Int32 × px_M} (hS : SR sh R) (hd : 0 ≤ d) (h : f_X0_addOffer M p1 p2 p3 p4 = some e) : MX yX0_addOffer cX0_addOffer 5 (some .int) d 0 0 X [.ref 61, .int p1, .int p2, .int p3, .int p4] sh M L R n (px_pu (some (.int e.1)) sh e.2 L R n) := by
  refine MX.of (by decide +kernel) (by exact Nat.le_of_ble_eq_true rfl) ?_
  have hcu : 0 ≤ 0 := Nat.zero_le _
  have hsu : 0 ≤ 0 := Nat.zero_le _
  have g : px_pu (some (.int e.1)) sh e.2 L R n (some (.int e.1)) sh e.2 L R n := ⟨rfl, rfl, rfl, rfl, rfl, rfl⟩
  unfold f_X0_addOffer at h
  refine wx_aload_n dX0_addOffer_0 rfl ?_
  refine wx_getI dX0_addOffer_1 fl_X0_28 (sc_61 hS) rfl ?_
  refine wx_bipush (v := 12) dX0_addOffer_4 (by decide) ?_
  refine wx_icmp_ne (tgt := 11) dX0_addOffer_6 (by decide) (fun c_6 => ?_) (fun c_6 => ?_)
  · replace h := it_f h c_6
    refine wx_aload_n dX0_addOffer_11 rfl ?_
    refine wx_getR dX0_addOffer_12 fl_X0_9 (sc_61 hS) rfl (rr_61_0 hS) ?_
    refine wx_aload_n dX0_addOffer_15 rfl ?_
    refine wx_getI dX0_addOffer_16 fl_X0_28 (sc_61 hS) rfl ?_
    refine wx_iload_n dX0_addOffer_19 rfl ?_
    obtain ⟨w_20, h⟩ := ok_some h
    refine wx_iast dX0_addOffer_20 (sc_62 hS) (ix_in w_20) ?_
    refine wx_namM (fun M_20 q_20 => ?_)
    replace h := nm_at h q_20
    refine wx_aload_n dX0_addOffer_21 rfl ?_
    refine wx_getR dX0_addOffer_22 fl_X0_13 (sc_61 hS) rfl (rr_61_1 hS) ?_
    refine wx_aload_n dX0_addOffer_25 rfl ?_
    refine wx_getI dX0_addOffer_26 fl_X0_28 (sc_61 hS) rfl ?_
    refine wx_iload_n dX0_addOffer_29 rfl ?_
    obtain ⟨w_30, h⟩ := ok_some h
    refine wx_iast dX0_addOffer_30 (sc_63 hS) (ix_in w_30) ?_
    refine wx_namM (fun M_30 q_30 => ?_)
    replace h := nm_at h q_30
    refine wx_aload_n dX0_addOffer_31 rfl ?_
    refine wx_getR dX0_addOffer_32 fl_X0_16 (sc_61 hS) rfl (rr_61_2 hS) ?_
    refine wx_aload_n dX0_addOffer_35 rfl ?_
    refine wx_getI dX0_addOffer_36 fl_X0_28 (sc_61 hS) rfl ?_
    refine wx_iload_n dX0_addOffer_39 rfl ?_
    obtain ⟨w_40, h⟩ := ok_some h
    refine wx_iast dX0_addOffer_40 (sc_64 hS) (ix_in w_40) ?_
    refine wx_namM (fun M_40 q_40 => ?_)
    replace h := nm_at h q_40
    refine wx_aload_n dX0_addOffer_41 rfl ?_
    refine wx_getR dX0_addOffer_42 fl_X0_19 (sc_61 hS) rfl (rr_61_3 hS) ?_
    refine wx_aload_n dX0_addOffer_45 rfl ?_
    refine wx_getI dX0_addOffer_46 fl_X0_28 (sc_61 hS) rfl ?_
    refine wx_iload dX0_addOffer_49 rfl ?_
    obtain ⟨w_51, h⟩ := ok_some h
    refine wx_iast dX0_addOffer_51 (sc_65 hS) (ix_in w_51) ?_
    refine wx_namM (fun M_51 q_51 => ?_)
    replace h := nm_at h q_51
    refine wx_aload_n dX0_addOffer_52 rfl ?_
    refine wx_dup dX0_addOffer_53 rfl ?_
    refine wx_getI dX0_addOffer_54 fl_X0_28 (sc_61 hS) rfl ?_
    refine wx_nami (fun v_57 q_57 => ?_)
    replace h := nm_at h q_57
    refine wx_dup_x1 dX0_addOffer_57 rfl rfl ?_
    refine wx_iconst (v := 1) dX0_addOffer_58 (by decide) ?_
    refine wx_iadd dX0_addOffer_59 ?_
    refine wx_nami (fun v_60 q_60 => ?_)
    replace h := nm_at h q_60
    refine wx_putI dX0_addOffer_60 fl_X0_28 (sc_61 hS) (Or.inl rfl) rfl ⟨rfl, rfl⟩ ?_
    refine wx_namM (fun M_60 q_60 => ?_)
    replace h := nm_at h q_60
    refine wx_iret dX0_addOffer_63 hcu hsu ?_
    obtain rfl := Option.some.inj h
    exact g
  · replace h := it_t h c_6
    refine wx_iconst (v := (-1)) dX0_addOffer_9 (by decide) ?_
    refine wx_iret dX0_addOffer_10 hcu hsu ?_
    obtain rfl := Option.some.inj h
    exact g
noncomputable def f_X0_change_46 (M : px_M) (x1 : Int32) (z0 : Int32) : Option (px_M) :=
  ok (ix x1 12) <|
  nm ((M 67 (1 : Int32).toNatClampNeg) + (z0 * (M 64 x1.toNatClampNeg))) fun v_63 =>
  nm (px_u M 67 (1 : Int32).toNatClampNeg v_63) fun M_63 =>
  ok (ix x1 12) <|
  nm ((M_63 67 (2 : Int32).toNatClampNeg) + (z0 * (M_63 65 x1.toNatClampNeg))) fun v_80 =>
  nm (px_u M_63 67 (2 : Int32).toNatClampNeg v_80) fun M_80 =>
  ok (ix x1 12) <|
  ok (ix x1 12) <|
  nm ((M_80 67 (3 : Int32).toNatClampNeg) + ((z0 * (M_80 64 x1.toNatClampNeg)) * (M_80 62 x1.toNatClampNeg))) fun v_104 =>
  nm (px_u M_80 67 (3 : Int32).toNatClampNeg v_104) fun M_104 =>
  ok (ix x1 12) <|
  ok (ix x1 12) <|
  nm ((M_104 67 (4 : Int32).toNatClampNeg) + ((z0 * (M_104 64 x1.toNatClampNeg)) * (M_104 63 x1.toNatClampNeg))) fun v_128 =>
  nm (px_u M_104 67 (4 : Int32).toNatClampNeg v_128) fun M_128 =>
  some M_128
theorem s_X0_change_46 {x1 : Int32} {z0 : Int32} {M : px_M} {L : px_L} {R : px_R} {e : (px_M)} (hS : SR sh R) (hd : 1 ≤ d) (hcu : cu ≤ mc) (hsu : su ≤ ms) (h : f_X0_change_46 M x1 z0 = some e) (g : Post none sh e L R n) : WX RX0 cX0_change 3 none ("change", []) d mc ms X (px_QF Post mc ms) 46 [(0, .ref 61), (1, .int x1)] [.int z0] sh M L R n cu su := by
  unfold f_X0_change_46 at h
  refine wx_istore_n (lv' := [(2, _), (0, _), (1, _)]) dX0_change_46 (by decide) rfl ?_
  refine wx_aload_n dX0_change_47 rfl ?_
  refine wx_getR dX0_change_48 fl_X0_25 (sc_61 hS) rfl (rr_61_6 hS) ?_
  refine wx_iconst (v := 1) dX0_change_51 (by decide) ?_
  refine wx_dup2_11 dX0_change_52 rfl rfl ?_
  refine wx_iald dX0_change_53 (sc_67 hS) (ix_in (by decide)) ?_
  refine wx_iload_n dX0_change_54 rfl ?_
  refine wx_aload_n dX0_change_55 rfl ?_
  refine wx_getR dX0_change_56 fl_X0_16 (sc_61 hS) rfl (rr_61_2 hS) ?_
  refine wx_iload_n dX0_change_59 rfl ?_
  obtain ⟨w_60, h⟩ := ok_some h
  refine wx_iald dX0_change_60 (sc_64 hS) (ix_in w_60) ?_
  refine wx_imul dX0_change_61 ?_
  refine wx_iadd dX0_change_62 ?_
  refine wx_nami (fun v_63 q_63 => ?_)
  replace h := nm_at h q_63
  refine wx_iast dX0_change_63 (sc_67 hS) (ix_in (by decide)) ?_
  refine wx_namM (fun M_63 q_63 => ?_)
  replace h := nm_at h q_63
  refine wx_aload_n dX0_change_64 rfl ?_
  refine wx_getR dX0_change_65 fl_X0_25 (sc_61 hS) rfl (rr_61_6 hS) ?_
  refine wx_iconst (v := 2) dX0_change_68 (by decide) ?_
  refine wx_dup2_11 dX0_change_69 rfl rfl ?_
  refine wx_iald dX0_change_70 (sc_67 hS) (ix_in (by decide)) ?_
  refine wx_iload_n dX0_change_71 rfl ?_
  refine wx_aload_n dX0_change_72 rfl ?_
  refine wx_getR dX0_change_73 fl_X0_19 (sc_61 hS) rfl (rr_61_3 hS) ?_
  refine wx_iload_n dX0_change_76 rfl ?_
  obtain ⟨w_77, h⟩ := ok_some h
  refine wx_iald dX0_change_77 (sc_65 hS) (ix_in w_77) ?_
  refine wx_imul dX0_change_78 ?_
  refine wx_iadd dX0_change_79 ?_
  refine wx_nami (fun v_80 q_80 => ?_)
  replace h := nm_at h q_80
  refine wx_iast dX0_change_80 (sc_67 hS) (ix_in (by decide)) ?_
  refine wx_namM (fun M_80 q_80 => ?_)
  replace h := nm_at h q_80
  refine wx_aload_n dX0_change_81 rfl ?_
  refine wx_getR dX0_change_82 fl_X0_25 (sc_61 hS) rfl (rr_61_6 hS) ?_
  refine wx_iconst (v := 3) dX0_change_85 (by decide) ?_
  refine wx_dup2_11 dX0_change_86 rfl rfl ?_
  refine wx_iald dX0_change_87 (sc_67 hS) (ix_in (by decide)) ?_
  refine wx_iload_n dX0_change_88 rfl ?_
  refine wx_aload_n dX0_change_89 rfl ?_
  refine wx_getR dX0_change_90 fl_X0_16 (sc_61 hS) rfl (rr_61_2 hS) ?_
  refine wx_iload_n dX0_change_93 rfl ?_
  obtain ⟨w_94, h⟩ := ok_some h
  refine wx_iald dX0_change_94 (sc_64 hS) (ix_in w_94) ?_
  refine wx_imul dX0_change_95 ?_
  refine wx_aload_n dX0_change_96 rfl ?_
  refine wx_getR dX0_change_97 fl_X0_9 (sc_61 hS) rfl (rr_61_0 hS) ?_
  refine wx_iload_n dX0_change_100 rfl ?_
  obtain ⟨w_101, h⟩ := ok_some h
  refine wx_iald dX0_change_101 (sc_62 hS) (ix_in w_101) ?_
  refine wx_imul dX0_change_102 ?_
  refine wx_iadd dX0_change_103 ?_
  refine wx_nami (fun v_104 q_104 => ?_)
  replace h := nm_at h q_104
  refine wx_iast dX0_change_104 (sc_67 hS) (ix_in (by decide)) ?_
  refine wx_namM (fun M_104 q_104 => ?_)
  replace h := nm_at h q_104
  refine wx_aload_n dX0_change_105 rfl ?_
  refine wx_getR dX0_change_106 fl_X0_25 (sc_61 hS) rfl (rr_61_6 hS) ?_
  refine wx_iconst (v := 4) dX0_change_109 (by decide) ?_
  refine wx_dup2_11 dX0_change_110 rfl rfl ?_
  refine wx_iald dX0_change_111 (sc_67 hS) (ix_in (by decide)) ?_
  refine wx_iload_n dX0_change_112 rfl ?_
  refine wx_aload_n dX0_change_113 rfl ?_
  refine wx_getR dX0_change_114 fl_X0_16 (sc_61 hS) rfl (rr_61_2 hS) ?_
  refine wx_iload_n dX0_change_117 rfl ?_
  obtain ⟨w_118, h⟩ := ok_some h
  refine wx_iald dX0_change_118 (sc_64 hS) (ix_in w_118) ?_
  refine wx_imul dX0_change_119 ?_
  refine wx_aload_n dX0_change_120 rfl ?_
  refine wx_getR dX0_change_121 fl_X0_13 (sc_61 hS) rfl (rr_61_1 hS) ?_
  refine wx_iload_n dX0_change_124 rfl ?_
  obtain ⟨w_125, h⟩ := ok_some h
  refine wx_iald dX0_change_125 (sc_63 hS) (ix_in w_125) ?_
  refine wx_imul dX0_change_126 ?_
  refine wx_iadd dX0_change_127 ?_
  refine wx_nami (fun v_128 q_128 => ?_)
  replace h := nm_at h q_128
  refine wx_iast dX0_change_128 (sc_67 hS) (ix_in (by decide)) ?_
  refine wx_namM (fun M_128 q_128 => ?_)
  replace h := nm_at h q_128
  refine wx_vret dX0_change_129 hcu hsu ?_
  obtain rfl := Option.some.inj h
  exact g
noncomputable def f_X0_change (M : px_M) (p1 : Int32) : Option (px_M) :=
  bd1 (f_X11_within p1 0 ((M 61 4) - 1)) fun e_8 =>
  if e_8 = 0 then
    some M
  else
    nm ((M 67 (0 : Int32).toNatClampNeg) ^^^ (1 <<< (p1 &&& 31))) fun v_26 =>
    nm (px_u M 67 (0 : Int32).toNatClampNeg v_26) fun M_26 =>
    if (((M_26 67 (0 : Int32).toNatClampNeg) >>> (p1 &&& 31)) &&& 1) = 1 then
      f_X0_change_46 M_26 p1 1
    else
      f_X0_change_46 M_26 p1 (-1)
theorem s_X0_change {d : Nat} {X : Nat × (Nat → Int32)} {sh : px_Sh} {M : px_M} {L : px_L} {R : px_R} {n : Nat} {p1 : Int32} {e : px_M} (hS : SR sh R) (hd : 1 ≤ d) (h : f_X0_change M p1 = some e) : MX yX0_change cX0_change 3 none d 0 0 X [.ref 61, .int p1] sh M L R n (px_pu none sh e L R n) := by
  refine MX.of (by decide +kernel) (by exact Nat.le_of_ble_eq_true rfl) ?_
  have hcu : 0 ≤ 0 := Nat.zero_le _
  have hsu : 0 ≤ 0 := Nat.zero_le _
  have g : px_pu none sh e L R n none sh e L R n := ⟨rfl, rfl, rfl, rfl, rfl, rfl⟩
  unfold f_X0_change at h
  refine wx_iload_n dX0_change_0 rfl ?_
  refine wx_iconst (v := 0) dX0_change_1 (by decide) ?_
  refine wx_aload_n dX0_change_2 rfl ?_
  refine wx_getI dX0_change_3 fl_X0_28 (sc_61 hS) rfl ?_
  refine wx_iconst (v := 1) dX0_change_6 (by decide) ?_
  refine wx_isub dX0_change_7 ?_
  obtain ⟨e_8, k_8, h⟩ := bd1_some h
  refine wx_cSi dX0_change_8 ml_X0_57 my_X11_within sv_X11_within (s_X11_within (d := d - 1) hS (by omega) k_8) rfl (by omega) (by exact Nat.le_of_ble_eq_true rfl) hcu hsu ?_
  refine wx_if_ne (tgt := 15) dX0_change_11 (by decide) (fun c_11 => ?_) (fun c_11 => ?_)
  · replace h := it_f h c_11
    refine wx_aload_n dX0_change_15 rfl ?_
    refine wx_getR dX0_change_16 fl_X0_25 (sc_61 hS) rfl (rr_61_6 hS) ?_
    refine wx_iconst (v := 0) dX0_change_19 (by decide) ?_
    refine wx_dup2_11 dX0_change_20 rfl rfl ?_
    refine wx_iald dX0_change_21 (sc_67 hS) (ix_in (by decide)) ?_
    refine wx_iconst (v := 1) dX0_change_22 (by decide) ?_
    refine wx_iload_n dX0_change_23 rfl ?_
    refine wx_ishl dX0_change_24 ?_
    refine wx_ixor dX0_change_25 ?_
    refine wx_nami (fun v_26 q_26 => ?_)
    replace h := nm_at h q_26
    refine wx_iast dX0_change_26 (sc_67 hS) (ix_in (by decide)) ?_
    refine wx_namM (fun M_26 q_26 => ?_)
    replace h := nm_at h q_26
    refine wx_aload_n dX0_change_27 rfl ?_
    refine wx_getR dX0_change_28 fl_X0_25 (sc_61 hS) rfl (rr_61_6 hS) ?_
    refine wx_iconst (v := 0) dX0_change_31 (by decide) ?_
    refine wx_iald dX0_change_32 (sc_67 hS) (ix_in (by decide)) ?_
    refine wx_iload_n dX0_change_33 rfl ?_
    refine wx_ishr dX0_change_34 ?_
    refine wx_iconst (v := 1) dX0_change_35 (by decide) ?_
    refine wx_iand dX0_change_36 ?_
    refine wx_iconst (v := 1) dX0_change_37 (by decide) ?_
    refine wx_icmp_ne (tgt := 45) dX0_change_38 (by decide) (fun c_38 => ?_) (fun c_38 => ?_)
    · replace h := it_f h c_38
      refine wx_iconst (v := (-1)) dX0_change_45 (by decide) ?_
      exact wx_sub (s_X0_change_46 hS hd hcu hsu h g) (px_s rfl (px_s rfl px_0))
    · replace h := it_t h c_38
      refine wx_iconst (v := 1) dX0_change_41 (by decide) ?_
      refine wx_goto (tgt := 46) dX0_change_42 (by decide) ?_
      exact wx_sub (s_X0_change_46 hS hd hcu hsu h g) (px_s rfl (px_s rfl px_0))
  · replace h := it_t h c_11
    refine wx_vret dX0_change_14 hcu hsu ?_
    obtain rfl := Option.some.inj h
    exact g
noncomputable def f_X0_isBetter_105 (M : px_M) (z0 : Int32) : Option (Int32) :=
  ok (zb z0) <|
  some z0
theorem s_X0_isBetter_105 {z0 : Int32} {M : px_M} {L : px_L} {R : px_R} {e : (Int32)} (hS : SR sh R) (hd : 0 ≤ d) (hcu : cu ≤ mc) (hsu : su ≤ ms) (h : f_X0_isBetter_105 M z0 = some e) (g : Post (some (.int e)) sh M L R n) : WX RX0 cX0_isBetter 2 (some .boolean) ("isBetter", []) d mc ms X (px_QF Post mc ms) 105 [] [.int z0] sh M L R n cu su := by
  unfold f_X0_isBetter_105 at h
  obtain ⟨w_105, h⟩ := ok_some h
  refine wx_zret dX0_isBetter_105 (zb_n w_105) hcu hsu ?_
  obtain rfl := Option.some.inj h
  exact g
noncomputable def f_X0_isBetter_71 (M : px_M) (z0 : Int32) : Option (Int32) :=
  ok (zb z0) <|
  some z0
theorem s_X0_isBetter_71 {z0 : Int32} {M : px_M} {L : px_L} {R : px_R} {e : (Int32)} (hS : SR sh R) (hd : 0 ≤ d) (hcu : cu ≤ mc) (hsu : su ≤ ms) (h : f_X0_isBetter_71 M z0 = some e) (g : Post (some (.int e)) sh M L R n) : WX RX0 cX0_isBetter 2 (some .boolean) ("isBetter", []) d mc ms X (px_QF Post mc ms) 71 [] [.int z0] sh M L R n cu su := by
  unfold f_X0_isBetter_71 at h
  obtain ⟨w_71, h⟩ := ok_some h
  refine wx_zret dX0_isBetter_71 (zb_n w_71) hcu hsu ?_
  obtain rfl := Option.some.inj h
  exact g
noncomputable def f_X0_isBetter_35 (M : px_M) (z0 : Int32) : Option (Int32) :=
  ok (zb z0) <|
  some z0
theorem s_X0_isBetter_35 {z0 : Int32} {M : px_M} {L : px_L} {R : px_R} {e : (Int32)} (hS : SR sh R) (hd : 0 ≤ d) (hcu : cu ≤ mc) (hsu : su ≤ ms) (h : f_X0_isBetter_35 M z0 = some e) (g : Post (some (.int e)) sh M L R n) : WX RX0 cX0_isBetter 2 (some .boolean) ("isBetter", []) d mc ms X (px_QF Post mc ms) 35 [] [.int z0] sh M L R n cu su := by
  unfold f_X0_isBetter_35 at h
  obtain ⟨w_35, h⟩ := ok_some h
  refine wx_zret dX0_isBetter_35 (zb_n w_35) hcu hsu ?_
  obtain rfl := Option.some.inj h
  exact g
noncomputable def f_X0_isBetter (M : px_M) : Option (Int32) :=
  if (M 67 (1 : Int32).toNatClampNeg) = (M 66 (1 : Int32).toNatClampNeg) then
    if (M 67 (2 : Int32).toNatClampNeg) = (M 66 (2 : Int32).toNatClampNeg) then
      nm ((M 67 (0 : Int32).toNatClampNeg) ^^^ (M 66 (0 : Int32).toNatClampNeg)) fun v_85 =>
      if (((M 67 (0 : Int32).toNatClampNeg) &&& v_85) &&& (-v_85)) = 0 then
        f_X0_isBetter_105 M 0
      else
        f_X0_isBetter_105 M 1
    else
      if (M 66 (2 : Int32).toNatClampNeg) ≤ (M 67 (2 : Int32).toNatClampNeg) then
        f_X0_isBetter_71 M 0
      else
        f_X0_isBetter_71 M 1
  else
    if (M 67 (1 : Int32).toNatClampNeg) ≤ (M 66 (1 : Int32).toNatClampNeg) then
      f_X0_isBetter_35 M 0
    else
      f_X0_isBetter_35 M 1
theorem s_X0_isBetter {d : Nat} {X : Nat × (Nat → Int32)} {sh : px_Sh} {M : px_M} {L : px_L} {R : px_R} {n : Nat} {e : Int32} (hS : SR sh R) (hd : 0 ≤ d) (h : f_X0_isBetter M = some e) : MX yX0_isBetter cX0_isBetter 2 (some .boolean) d 0 0 X [.ref 61] sh M L R n (px_pu (some (.int e)) sh M L R n) := by
  refine MX.of (by decide +kernel) (by exact Nat.le_of_ble_eq_true rfl) ?_
  have hcu : 0 ≤ 0 := Nat.zero_le _
  have hsu : 0 ≤ 0 := Nat.zero_le _
  have g : px_pu (some (.int e)) sh M L R n (some (.int e)) sh M L R n := ⟨rfl, rfl, rfl, rfl, rfl, rfl⟩
  unfold f_X0_isBetter at h
  refine wx_aload_n dX0_isBetter_0 rfl ?_
  refine wx_getR dX0_isBetter_1 fl_X0_25 (sc_61 hS) rfl (rr_61_6 hS) ?_
  refine wx_iconst (v := 1) dX0_isBetter_4 (by decide) ?_
  refine wx_iald dX0_isBetter_5 (sc_67 hS) (ix_in (by decide)) ?_
  refine wx_aload_n dX0_isBetter_6 rfl ?_
  refine wx_getR dX0_isBetter_7 fl_X0_22 (sc_61 hS) rfl (rr_61_5 hS) ?_
  refine wx_iconst (v := 1) dX0_isBetter_10 (by decide) ?_
  refine wx_iald dX0_isBetter_11 (sc_66 hS) (ix_in (by decide)) ?_
  refine wx_icmp_eq (tgt := 36) dX0_isBetter_12 (by decide) (fun c_12 => ?_) (fun c_12 => ?_)
  · replace h := it_t h c_12
    refine wx_aload_n dX0_isBetter_36 rfl ?_
    refine wx_getR dX0_isBetter_37 fl_X0_25 (sc_61 hS) rfl (rr_61_6 hS) ?_
    refine wx_iconst (v := 2) dX0_isBetter_40 (by decide) ?_
    refine wx_iald dX0_isBetter_41 (sc_67 hS) (ix_in (by decide)) ?_
    refine wx_aload_n dX0_isBetter_42 rfl ?_
    refine wx_getR dX0_isBetter_43 fl_X0_22 (sc_61 hS) rfl (rr_61_5 hS) ?_
    refine wx_iconst (v := 2) dX0_isBetter_46 (by decide) ?_
    refine wx_iald dX0_isBetter_47 (sc_66 hS) (ix_in (by decide)) ?_
    refine wx_icmp_eq (tgt := 72) dX0_isBetter_48 (by decide) (fun c_48 => ?_) (fun c_48 => ?_)
    · replace h := it_t h c_48
      refine wx_aload_n dX0_isBetter_72 rfl ?_
      refine wx_getR dX0_isBetter_73 fl_X0_25 (sc_61 hS) rfl (rr_61_6 hS) ?_
      refine wx_iconst (v := 0) dX0_isBetter_76 (by decide) ?_
      refine wx_iald dX0_isBetter_77 (sc_67 hS) (ix_in (by decide)) ?_
      refine wx_aload_n dX0_isBetter_78 rfl ?_
      refine wx_getR dX0_isBetter_79 fl_X0_22 (sc_61 hS) rfl (rr_61_5 hS) ?_
      refine wx_iconst (v := 0) dX0_isBetter_82 (by decide) ?_
      refine wx_iald dX0_isBetter_83 (sc_66 hS) (ix_in (by decide)) ?_
      refine wx_ixor dX0_isBetter_84 ?_
      refine wx_nami (fun v_85 q_85 => ?_)
      replace h := nm_at h q_85
      refine wx_istore_n (lv' := [(1, _), (0, _)]) dX0_isBetter_85 (by decide) rfl ?_
      refine wx_aload_n dX0_isBetter_86 rfl ?_
      refine wx_getR dX0_isBetter_87 fl_X0_25 (sc_61 hS) rfl (rr_61_6 hS) ?_
      refine wx_iconst (v := 0) dX0_isBetter_90 (by decide) ?_
      refine wx_iald dX0_isBetter_91 (sc_67 hS) (ix_in (by decide)) ?_
      refine wx_iload_n dX0_isBetter_92 rfl ?_
      refine wx_iand dX0_isBetter_93 ?_
      refine wx_iload_n dX0_isBetter_94 rfl ?_
      refine wx_ineg dX0_isBetter_95 ?_
      refine wx_iand dX0_isBetter_96 ?_
      refine wx_if_eq (tgt := 104) dX0_isBetter_97 (by decide) (fun c_97 => ?_) (fun c_97 => ?_)
      · replace h := it_t h c_97
        refine wx_iconst (v := 0) dX0_isBetter_104 (by decide) ?_
        exact wx_sub (s_X0_isBetter_105 hS hd hcu hsu h g) px_0
      · replace h := it_f h c_97
        refine wx_iconst (v := 1) dX0_isBetter_100 (by decide) ?_
        refine wx_goto (tgt := 105) dX0_isBetter_101 (by decide) ?_
        exact wx_sub (s_X0_isBetter_105 hS hd hcu hsu h g) px_0
    · replace h := it_f h c_48
      refine wx_aload_n dX0_isBetter_51 rfl ?_
      refine wx_getR dX0_isBetter_52 fl_X0_25 (sc_61 hS) rfl (rr_61_6 hS) ?_
      refine wx_iconst (v := 2) dX0_isBetter_55 (by decide) ?_
      refine wx_iald dX0_isBetter_56 (sc_67 hS) (ix_in (by decide)) ?_
      refine wx_aload_n dX0_isBetter_57 rfl ?_
      refine wx_getR dX0_isBetter_58 fl_X0_22 (sc_61 hS) rfl (rr_61_5 hS) ?_
      refine wx_iconst (v := 2) dX0_isBetter_61 (by decide) ?_
      refine wx_iald dX0_isBetter_62 (sc_66 hS) (ix_in (by decide)) ?_
      refine wx_icmp_ge (tgt := 70) dX0_isBetter_63 (by decide) (fun c_63 => ?_) (fun c_63 => ?_)
      · replace h := it_t h c_63
        refine wx_iconst (v := 0) dX0_isBetter_70 (by decide) ?_
        exact wx_sub (s_X0_isBetter_71 hS hd hcu hsu h g) px_0
      · replace h := it_f h c_63
        refine wx_iconst (v := 1) dX0_isBetter_66 (by decide) ?_
        refine wx_goto (tgt := 71) dX0_isBetter_67 (by decide) ?_
        exact wx_sub (s_X0_isBetter_71 hS hd hcu hsu h g) px_0
  · replace h := it_f h c_12
    refine wx_aload_n dX0_isBetter_15 rfl ?_
    refine wx_getR dX0_isBetter_16 fl_X0_25 (sc_61 hS) rfl (rr_61_6 hS) ?_
    refine wx_iconst (v := 1) dX0_isBetter_19 (by decide) ?_
    refine wx_iald dX0_isBetter_20 (sc_67 hS) (ix_in (by decide)) ?_
    refine wx_aload_n dX0_isBetter_21 rfl ?_
    refine wx_getR dX0_isBetter_22 fl_X0_22 (sc_61 hS) rfl (rr_61_5 hS) ?_
    refine wx_iconst (v := 1) dX0_isBetter_25 (by decide) ?_
    refine wx_iald dX0_isBetter_26 (sc_66 hS) (ix_in (by decide)) ?_
    refine wx_icmp_le (tgt := 34) dX0_isBetter_27 (by decide) (fun c_27 => ?_) (fun c_27 => ?_)
    · replace h := it_t h c_27
      refine wx_iconst (v := 0) dX0_isBetter_34 (by decide) ?_
      exact wx_sub (s_X0_isBetter_35 hS hd hcu hsu h g) px_0
    · replace h := it_f h c_27
      refine wx_iconst (v := 1) dX0_isBetter_30 (by decide) ?_
      refine wx_goto (tgt := 35) dX0_isBetter_31 (by decide) ?_
      exact wx_sub (s_X0_isBetter_35 hS hd hcu hsu h g) px_0
noncomputable def f_X0_findBest_124 (M : px_M) (x1 : Int32) (x2 : Int32) (x3 : Int32) : Option ((Int32 × px_M) ⊕ (px_M)) :=
  some (.inl ((x3 + 1), M))
theorem s_X0_findBest_124 {x1 : Int32} {x2 : Int32} {x3 : Int32} {M : px_M} {L : px_L} {R : px_R} {e : ((Int32 × px_M) ⊕ (px_M))} (hS : SR sh R) (hd : 2 ≤ d) (hcu : cu ≤ mc) (hsu : su ≤ ms) (h : f_X0_findBest_124 M x1 x2 x3 = some e) (g : (sE (fun a => WX RX0 cX0_findBest 5 none ("findBest", []) d mc ms X (px_QF Post mc ms) 33 [(0, .ref 61), (1, .int x1), (2, .int x2), (3, .int a.1)] [] sh (a.2) L R n cu su) (fun t => WX RX0 cX0_findBest 5 none ("findBest", []) d mc ms X (px_QF Post mc ms) 130 [] [] sh t L R n cu su)) e) : WX RX0 cX0_findBest 5 none ("findBest", []) d mc ms X (px_QF Post mc ms) 124 [(0, .ref 61), (1, .int x1), (2, .int x2), (3, .int x3)] [] sh M L R n cu su := by
  unfold f_X0_findBest_124 at h
  refine wx_iinc (lv' := [(3, _), (0, _), (1, _), (2, _)]) dX0_findBest_124 rfl (i_1 _) (by decide) rfl ?_
  refine wx_goto (tgt := 33) dX0_findBest_127 (by decide) ?_
  obtain rfl := Option.some.inj h
  replace g := sE_l g
  exact wx_sub g (px_s rfl (px_s rfl (px_s rfl (px_s rfl px_0))))
noncomputable def f_X0_findBest_82 (M : px_M) (x1 : Int32) (x2 : Int32) (x3 : Int32) (z0 : Int32) : Option ((Int32 × px_M) ⊕ (px_M)) :=
  if x1 < (M 67 (2 : Int32).toNatClampNeg) then
    f_X0_findBest_124 M x1 x2 x3
  else
    if z0 = 0 then
      f_X0_findBest_124 M x1 x2 x3
    else
      bd1 (f_X0_isBetter M) fun e_100 =>
      if e_100 = 0 then
        f_X0_findBest_124 M x1 x2 x3
      else
        nm (px_c M 66 (va_cpy (M 67) (M 66) 0 0 5)) fun M_121 =>
        f_X0_findBest_124 M_121 x1 x2 x3
theorem s_X0_findBest_82 {x1 : Int32} {x2 : Int32} {x3 : Int32} {z0 : Int32} {M : px_M} {L : px_L} {R : px_R} {e : ((Int32 × px_M) ⊕ (px_M))} (hS : SR sh R) (hd : 2 ≤ d) (hcu : cu ≤ mc) (hsu : su ≤ ms) (h : f_X0_findBest_82 M x1 x2 x3 z0 = some e) (g : (sE (fun a => WX RX0 cX0_findBest 5 none ("findBest", []) d mc ms X (px_QF Post mc ms) 33 [(0, .ref 61), (1, .int x1), (2, .int x2), (3, .int a.1)] [] sh (a.2) L R n cu su) (fun t => WX RX0 cX0_findBest 5 none ("findBest", []) d mc ms X (px_QF Post mc ms) 130 [] [] sh t L R n cu su)) e) : WX RX0 cX0_findBest 5 none ("findBest", []) d mc ms X (px_QF Post mc ms) 82 [(0, .ref 61), (1, .int x1), (2, .int x2), (3, .int x3)] [.int z0] sh M L R n cu su := by
  unfold f_X0_findBest_82 at h
  refine wx_istore (lv' := [(4, _), (0, _), (1, _), (2, _), (3, _)]) dX0_findBest_82 (by decide) rfl ?_
  refine wx_aload_n dX0_findBest_84 rfl ?_
  refine wx_getR dX0_findBest_85 fl_X0_25 (sc_61 hS) rfl (rr_61_6 hS) ?_
  refine wx_iconst (v := 2) dX0_findBest_88 (by decide) ?_
  refine wx_iald dX0_findBest_89 (sc_67 hS) (ix_in (by decide)) ?_
  refine wx_iload_n dX0_findBest_90 rfl ?_
  refine wx_icmp_gt (tgt := 124) dX0_findBest_91 (by decide) (fun c_91 => ?_) (fun c_91 => ?_)
  · replace h := it_t h c_91
    exact wx_sub (s_X0_findBest_124 hS hd hcu hsu h g) (px_s rfl (px_s rfl (px_s rfl (px_s rfl px_0))))
  · replace h := it_f h c_91
    refine wx_iload dX0_findBest_94 rfl ?_
    refine wx_if_eq (tgt := 124) dX0_findBest_96 (by decide) (fun c_96 => ?_) (fun c_96 => ?_)
    · replace h := it_t h c_96
      exact wx_sub (s_X0_findBest_124 hS hd hcu hsu h g) (px_s rfl (px_s rfl (px_s rfl (px_s rfl px_0))))
    · replace h := it_f h c_96
      refine wx_aload_n dX0_findBest_99 rfl ?_
      obtain ⟨e_100, k_100, h⟩ := bd1_some h
      refine wx_cVi dX0_findBest_100 ml_X0_47 my_X0_isBetter iv_X0_isBetter (sc_61 hS) (by decide) (s_X0_isBetter (d := d - 1) hS (by omega) k_100) rfl (by omega) (by exact Nat.le_of_ble_eq_true rfl) hcu hsu ?_
      refine wx_if_eq (tgt := 124) dX0_findBest_103 (by decide) (fun c_103 => ?_) (fun c_103 => ?_)
      · replace h := it_t h c_103
        exact wx_sub (s_X0_findBest_124 hS hd hcu hsu h g) (px_s rfl (px_s rfl (px_s rfl (px_s rfl px_0))))
      · replace h := it_f h c_103
        refine wx_aload_n dX0_findBest_106 rfl ?_
        refine wx_getR dX0_findBest_107 fl_X0_25 (sc_61 hS) rfl (rr_61_6 hS) ?_
        refine wx_iconst (v := 0) dX0_findBest_110 (by decide) ?_
        refine wx_aload_n dX0_findBest_111 rfl ?_
        refine wx_getR dX0_findBest_112 fl_X0_22 (sc_61 hS) rfl (rr_61_5 hS) ?_
        refine wx_iconst (v := 0) dX0_findBest_115 (by decide) ?_
        refine wx_aload_n dX0_findBest_116 rfl ?_
        refine wx_getR dX0_findBest_117 fl_X0_22 (sc_61 hS) rfl (rr_61_5 hS) ?_
        refine wx_alen dX0_findBest_120 (sc_66 hS) (by decide) (by decide) ?_
        refine wx_acopy (N := 5) dX0_findBest_121 ay_X0 (sc_67 hS) (sc_66 hS) (by decide) (by decide) (by decide) (by omega) (by exact Nat.le_of_ble_eq_true rfl) ?_
        refine wx_namM (fun M_121 q_121 => ?_)
        replace h := nm_at h q_121
        exact wx_sub (s_X0_findBest_124 hS hd hcu hsu h g) (px_s rfl (px_s rfl (px_s rfl (px_s rfl px_0))))
noncomputable def f_X0_findBest_81 (M : px_M) (x1 : Int32) (x2 : Int32) (x3 : Int32) : Option ((Int32 × px_M) ⊕ (px_M)) :=
  f_X0_findBest_82 M x1 x2 x3 0
theorem s_X0_findBest_81 {x1 : Int32} {x2 : Int32} {x3 : Int32} {M : px_M} {L : px_L} {R : px_R} {e : ((Int32 × px_M) ⊕ (px_M))} (hS : SR sh R) (hd : 2 ≤ d) (hcu : cu ≤ mc) (hsu : su ≤ ms) (h : f_X0_findBest_81 M x1 x2 x3 = some e) (g : (sE (fun a => WX RX0 cX0_findBest 5 none ("findBest", []) d mc ms X (px_QF Post mc ms) 33 [(0, .ref 61), (1, .int x1), (2, .int x2), (3, .int a.1)] [] sh (a.2) L R n cu su) (fun t => WX RX0 cX0_findBest 5 none ("findBest", []) d mc ms X (px_QF Post mc ms) 130 [] [] sh t L R n cu su)) e) : WX RX0 cX0_findBest 5 none ("findBest", []) d mc ms X (px_QF Post mc ms) 81 [(0, .ref 61), (1, .int x1), (2, .int x2), (3, .int x3)] [] sh M L R n cu su := by
  unfold f_X0_findBest_81 at h
  refine wx_iconst (v := 0) dX0_findBest_81 (by decide) ?_
  exact wx_sub (s_X0_findBest_82 hS hd hcu hsu h g) (px_s rfl (px_s rfl (px_s rfl (px_s rfl px_0))))
noncomputable def f_X0_findBest_33 (M : px_M) (x1 : Int32) (x2 : Int32) (x3 : Int32) : Option ((Int32 × px_M) ⊕ (px_M)) :=
  if (1 <<< ((M 61 4) &&& 31)) ≤ x3 then
    some (.inr M)
  else
    bd1 (f_J6_numberOfTrailingZeros_0f7a4 x3) fun e_45 =>
    bd1 (f_X0_change M e_45) fun e_48 =>
    bd1 (f_J9_abs_0f7a4 (e_48 67 (3 : Int32).toNatClampNeg)) fun e_57 =>
    if x2 < e_57 then
      f_X0_findBest_81 e_48 x1 x2 x3
    else
      bd1 (f_J9_abs_0f7a4 (e_48 67 (4 : Int32).toNatClampNeg)) fun e_70 =>
      if x2 < e_70 then
        f_X0_findBest_81 e_48 x1 x2 x3
      else
        f_X0_findBest_82 e_48 x1 x2 x3 1
theorem s_X0_findBest_33b {x1 : Int32} {x2 : Int32} {x3 : Int32} {M : px_M} {L : px_L} {R : px_R} {e : ((Int32 × px_M) ⊕ (px_M))} (hS : SR sh R) (hd : 2 ≤ d) (hcu : cu ≤ mc) (hsu : su ≤ ms) (h : f_X0_findBest_33 M x1 x2 x3 = some e) (g : (sE (fun a => WX RX0 cX0_findBest 5 none ("findBest", []) d mc ms X (px_QF Post mc ms) 33 [(0, .ref 61), (1, .int x1), (2, .int x2), (3, .int a.1)] [] sh (a.2) L R n cu su) (fun t => WX RX0 cX0_findBest 5 none ("findBest", []) d mc ms X (px_QF Post mc ms) 130 [] [] sh t L R n cu su)) e) : WX RX0 cX0_findBest 5 none ("findBest", []) d mc ms X (px_QF Post mc ms) 33 [(0, .ref 61), (1, .int x1), (2, .int x2), (3, .int x3)] [] sh M L R n cu su := by
  unfold f_X0_findBest_33 at h
  refine wx_iload_n dX0_findBest_33 rfl ?_
  refine wx_iconst (v := 1) dX0_findBest_34 (by decide) ?_
  refine wx_aload_n dX0_findBest_35 rfl ?_
  refine wx_getI dX0_findBest_36 fl_X0_28 (sc_61 hS) rfl ?_
  refine wx_ishl dX0_findBest_39 ?_
  refine wx_icmp_ge (tgt := 130) dX0_findBest_40 (by decide) (fun c_40 => ?_) (fun c_40 => ?_)
  · replace h := it_t h c_40
    obtain rfl := Option.some.inj h
    replace g := sE_r g
    exact wx_sub g px_0
  · replace h := it_f h c_40
    refine wx_aload_n dX0_findBest_43 rfl ?_
    refine wx_iload_n dX0_findBest_44 rfl ?_
    obtain ⟨e_45, k_45, h⟩ := bd1_some h
    refine wx_cSi dX0_findBest_45 ml_X0_32 my_J6_numberOfTrailingZeros_0f7a4 sv_J6_numberOfTrailingZeros_0f7a4 (s_J6_numberOfTrailingZeros_0f7a4 (d := d - 1) hS (by omega) k_45) rfl (by omega) (by exact Nat.le_of_ble_eq_true rfl) hcu hsu ?_
    obtain ⟨e_48, k_48, h⟩ := bd1_some h
    refine wx_cVv dX0_findBest_48 ml_X0_38 my_X0_change iv_X0_change (sc_61 hS) (by decide) (s_X0_change (d := d - 1) hS (by omega) k_48) rfl (by omega) (by exact Nat.le_of_ble_eq_true rfl) hcu hsu ?_
    refine wx_aload_n dX0_findBest_51 rfl ?_
    refine wx_getR dX0_findBest_52 fl_X0_25 (sc_61 hS) rfl (rr_61_6 hS) ?_
    refine wx_iconst (v := 3) dX0_findBest_55 (by decide) ?_
    refine wx_iald dX0_findBest_56 (sc_67 hS) (ix_in (by decide)) ?_
    obtain ⟨e_57, k_57, h⟩ := bd1_some h
    refine wx_cSi dX0_findBest_57 ml_X0_42 my_J9_abs_0f7a4 sv_J9_abs_0f7a4 (s_J9_abs_0f7a4 (d := d - 1) hS (by omega) k_57) rfl (by omega) (by exact Nat.le_of_ble_eq_true rfl) hcu hsu ?_
    refine wx_iload_n dX0_findBest_60 rfl ?_
    refine wx_icmp_gt (tgt := 81) dX0_findBest_61 (by decide) (fun c_61 => ?_) (fun c_61 => ?_)
    · replace h := it_t h c_61
      exact wx_sub (s_X0_findBest_81 hS hd hcu hsu h g) (px_s rfl (px_s rfl (px_s rfl (px_s rfl px_0))))
    · replace h := it_f h c_61
      refine wx_aload_n dX0_findBest_64 rfl ?_
      refine wx_getR dX0_findBest_65 fl_X0_25 (sc_61 hS) rfl (rr_61_6 hS) ?_
      refine wx_iconst (v := 4) dX0_findBest_68 (by decide) ?_
      refine wx_iald dX0_findBest_69 (sc_67 hS) (ix_in (by decide)) ?_
      obtain ⟨e_70, k_70, h⟩ := bd1_some h
      refine wx_cSi dX0_findBest_70 ml_X0_42 my_J9_abs_0f7a4 sv_J9_abs_0f7a4 (s_J9_abs_0f7a4 (d := d - 1) hS (by omega) k_70) rfl (by omega) (by exact Nat.le_of_ble_eq_true rfl) hcu hsu ?_
      refine wx_iload_n dX0_findBest_73 rfl ?_
      refine wx_icmp_gt (tgt := 81) dX0_findBest_74 (by decide) (fun c_74 => ?_) (fun c_74 => ?_)
      · replace h := it_t h c_74
        exact wx_sub (s_X0_findBest_81 hS hd hcu hsu h g) (px_s rfl (px_s rfl (px_s rfl (px_s rfl px_0))))
      · replace h := it_f h c_74
        refine wx_iconst (v := 1) dX0_findBest_77 (by decide) ?_
        refine wx_goto (tgt := 82) dX0_findBest_78 (by decide) ?_
        exact wx_sub (s_X0_findBest_82 hS hd hcu hsu h g) (px_s rfl (px_s rfl (px_s rfl (px_s rfl px_0))))
theorem s_X0_findBest_33 {x1 : Int32} {x2 : Int32} {x3 : Int32} {M : px_M} {L : px_L} {R : px_R} {e : (px_M)} (hS : SR sh R) (hd : 2 ≤ d) (hcu : cu ≤ mc) (hsu : su ≤ ms) (h : lpf (fun a : Int32 × px_M => f_X0_findBest_33 a.2 x1 x2 a.1) (x3, M) = some e) (g : WX RX0 cX0_findBest 5 none ("findBest", []) d mc ms X (px_QF Post mc ms) 130 [] [] sh e L R n cu su) : WX RX0 cX0_findBest 5 none ("findBest", []) d mc ms X (px_QF Post mc ms) 33 [(0, .ref 61), (1, .int x1), (2, .int x2), (3, .int x3)] [] sh M L R n cu su := by
  have key := lpf_wp (P := (fun a => WX RX0 cX0_findBest 5 none ("findBest", []) d mc ms X (px_QF Post mc ms) 33 [(0, .ref 61), (1, .int x1), (2, .int x2), (3, .int a.1)] [] sh (a.2) L R n cu su)) (G := (fun t => WX RX0 cX0_findBest 5 none ("findBest", []) d mc ms X (px_QF Post mc ms) 130 [] [] sh t L R n cu su)) (fun a r h g => s_X0_findBest_33b (x1 := x1) (x2 := x2) (x3 := a.1) (M := a.2) (L := L) (R := R) hS hd hcu hsu h g) (a := (x3, M)) h g
  exact key
noncomputable def f_X0_findBest_2 (M : px_M) (x1 : Int32) (x2 : Int32) (x3 : Int32) : Option ((Int32 × px_M) ⊕ (px_M)) :=
  if (nI 5) ≤ x3 then
    some (.inr M)
  else
    ok (ix x3 5) <|
    nm (px_u M 66 x3.toNatClampNeg 0) fun M_17 =>
    ok (ix x3 5) <|
    nm (px_u M_17 67 x3.toNatClampNeg 0) fun M_24 =>
    some (.inl ((x3 + 1), M_24))
theorem s_X0_findBest_2b {x1 : Int32} {x2 : Int32} {x3 : Int32} {M : px_M} {L : px_L} {R : px_R} {e : ((Int32 × px_M) ⊕ (px_M))} (hS : SR sh R) (hd : 2 ≤ d) (hcu : cu ≤ mc) (hsu : su ≤ ms) (h : f_X0_findBest_2 M x1 x2 x3 = some e) (g : (sE (fun a => WX RX0 cX0_findBest 5 none ("findBest", []) d mc ms X (px_QF Post mc ms) 2 [(0, .ref 61), (1, .int x1), (2, .int x2), (3, .int a.1)] [] sh (a.2) L R n cu su) (fun t => WX RX0 cX0_findBest 5 none ("findBest", []) d mc ms X (px_QF Post mc ms) 31 [(0, .ref 61), (1, .int x1), (2, .int x2)] [] sh t L R n cu su)) e) : WX RX0 cX0_findBest 5 none ("findBest", []) d mc ms X (px_QF Post mc ms) 2 [(0, .ref 61), (1, .int x1), (2, .int x2), (3, .int x3)] [] sh M L R n cu su := by
  unfold f_X0_findBest_2 at h
  refine wx_iload_n dX0_findBest_2 rfl ?_
  refine wx_aload_n dX0_findBest_3 rfl ?_
  refine wx_getR dX0_findBest_4 fl_X0_22 (sc_61 hS) rfl (rr_61_5 hS) ?_
  refine wx_alen dX0_findBest_7 (sc_66 hS) (by decide) (by decide) ?_
  refine wx_icmp_ge (tgt := 31) dX0_findBest_8 (by decide) (fun c_8 => ?_) (fun c_8 => ?_)
  · replace h := it_t h c_8
    obtain rfl := Option.some.inj h
    replace g := sE_r g
    exact wx_sub g (px_s rfl (px_s rfl (px_s rfl px_0)))
  · replace h := it_f h c_8
    refine wx_aload_n dX0_findBest_11 rfl ?_
    refine wx_getR dX0_findBest_12 fl_X0_22 (sc_61 hS) rfl (rr_61_5 hS) ?_
    refine wx_iload_n dX0_findBest_15 rfl ?_
    refine wx_iconst (v := 0) dX0_findBest_16 (by decide) ?_
    obtain ⟨w_17, h⟩ := ok_some h
    refine wx_iast dX0_findBest_17 (sc_66 hS) (ix_in w_17) ?_
    refine wx_namM (fun M_17 q_17 => ?_)
    replace h := nm_at h q_17
    refine wx_aload_n dX0_findBest_18 rfl ?_
    refine wx_getR dX0_findBest_19 fl_X0_25 (sc_61 hS) rfl (rr_61_6 hS) ?_
    refine wx_iload_n dX0_findBest_22 rfl ?_
    refine wx_iconst (v := 0) dX0_findBest_23 (by decide) ?_
    obtain ⟨w_24, h⟩ := ok_some h
    refine wx_iast dX0_findBest_24 (sc_67 hS) (ix_in w_24) ?_
    refine wx_namM (fun M_24 q_24 => ?_)
    replace h := nm_at h q_24
    refine wx_iinc (lv' := [(3, _), (0, _), (1, _), (2, _)]) dX0_findBest_25 rfl (i_1 _) (by decide) rfl ?_
    refine wx_goto (tgt := 2) dX0_findBest_28 (by decide) ?_
    obtain rfl := Option.some.inj h
    replace g := sE_l g
    exact wx_sub g (px_s rfl (px_s rfl (px_s rfl (px_s rfl px_0))))
theorem s_X0_findBest_2 {x1 : Int32} {x2 : Int32} {x3 : Int32} {M : px_M} {L : px_L} {R : px_R} {e : (px_M)} (hS : SR sh R) (hd : 2 ≤ d) (hcu : cu ≤ mc) (hsu : su ≤ ms) (h : lpf (fun a : Int32 × px_M => f_X0_findBest_2 a.2 x1 x2 a.1) (x3, M) = some e) (g : WX RX0 cX0_findBest 5 none ("findBest", []) d mc ms X (px_QF Post mc ms) 31 [(0, .ref 61), (1, .int x1), (2, .int x2)] [] sh e L R n cu su) : WX RX0 cX0_findBest 5 none ("findBest", []) d mc ms X (px_QF Post mc ms) 2 [(0, .ref 61), (1, .int x1), (2, .int x2), (3, .int x3)] [] sh M L R n cu su := by
  have key := lpf_wp (P := (fun a => WX RX0 cX0_findBest 5 none ("findBest", []) d mc ms X (px_QF Post mc ms) 2 [(0, .ref 61), (1, .int x1), (2, .int x2), (3, .int a.1)] [] sh (a.2) L R n cu su)) (G := (fun t => WX RX0 cX0_findBest 5 none ("findBest", []) d mc ms X (px_QF Post mc ms) 31 [(0, .ref 61), (1, .int x1), (2, .int x2)] [] sh t L R n cu su)) (fun a r h g => s_X0_findBest_2b (x1 := x1) (x2 := x2) (x3 := a.1) (M := a.2) (L := L) (R := R) hS hd hcu hsu h g) (a := (x3, M)) h g
  exact key
noncomputable def f_X0_findBest (M : px_M) (p1 : Int32) (p2 : Int32) : Option (px_M) :=
  bd1 (lpf (fun a : Int32 × px_M => f_X0_findBest_2 a.2 p1 p2 a.1) (0, M)) fun e_2 =>
  bd1 (lpf (fun a : Int32 × px_M => f_X0_findBest_33 a.2 p1 p2 a.1) (1, e_2)) fun e_33 =>
  some e_33
theorem s_X0_findBest {d : Nat} {X : Nat × (Nat → Int32)} {sh : px_Sh} {M : px_M} {L : px_L} {R : px_R} {n : Nat} {p1 : Int32} {p2 : Int32} {e : px_M} (hS : SR sh R) (hd : 2 ≤ d) (h : f_X0_findBest M p1 p2 = some e) : MX yX0_findBest cX0_findBest 5 none d 0 0 X [.ref 61, .int p1, .int p2] sh M L R n (px_pu none sh e L R n) := by
  refine MX.of (by decide +kernel) (by exact Nat.le_of_ble_eq_true rfl) ?_
  have hcu : 0 ≤ 0 := Nat.zero_le _
  have hsu : 0 ≤ 0 := Nat.zero_le _
  have g : px_pu none sh e L R n none sh e L R n := ⟨rfl, rfl, rfl, rfl, rfl, rfl⟩
  unfold f_X0_findBest at h
  refine wx_iconst (v := 0) dX0_findBest_0 (by decide) ?_
  refine wx_istore_n (lv' := [(3, _), (0, _), (1, _), (2, _)]) dX0_findBest_1 (by decide) rfl ?_
  obtain ⟨e_2, k_2, h⟩ := bd1_some h
  refine wx_sub (s_X0_findBest_2 hS hd hcu hsu k_2 ?_) (px_s rfl (px_s rfl (px_s rfl (px_s rfl px_0))))
  refine wx_iconst (v := 1) dX0_findBest_31 (by decide) ?_
  refine wx_istore_n (lv' := [(3, _), (0, _), (1, _), (2, _)]) dX0_findBest_32 (by decide) rfl ?_
  obtain ⟨e_33, k_33, h⟩ := bd1_some h
  refine wx_sub (s_X0_findBest_33 hS hd hcu hsu k_33 ?_) (px_s rfl (px_s rfl (px_s rfl (px_s rfl px_0))))
  refine wx_vret dX0_findBest_130 hcu hsu ?_
  obtain rfl := Option.some.inj h
  exact g
end LIFT
