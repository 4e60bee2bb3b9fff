/-! the reference -/
section LIFT
variable {d mc ms : Nat} {X : Nat × (Nat → Int32)} {Post : px_Post} {sh : px_Sh} {n cu su : Nat}
noncomputable def f_X12_pulls_84 (M : px_M) (z0 : Int32) : Option (Int32) :=
  some z0
theorem s_X12_pulls_84 {z0 : Int32} {M : px_M} {L : px_L} {R : px_R} {e : (Int32)} (hS : SR sh R) (hd : 0 ≤ d) (hcu : cu ≤ mc) (hsu : su ≤ ms) (h : f_X12_pulls_84 M z0 = some e) (g : Post (some (.int e)) sh M L R n) : WX RX12 cX12_pulls 5 (some .int) ("pulls", []) d mc ms X (px_QF Post mc ms) 84 [] [.int z0] sh M L R n cu su := by
  unfold f_X12_pulls_84 at h
  refine wx_iret dX12_pulls_84 hcu hsu ?_
  obtain rfl := Option.some.inj h
  exact g
noncomputable def f_X12_pulls_47 (M : px_M) (x2 : Int32) (x3 : Int32) (z0 : Int32) : Option (Int32) :=
  if x3 = 0 then
    ok (ix z0 6) <|
    ok (ix x2 6) <|
    f_X12_pulls_84 M ((M 192 z0.toNatClampNeg) - (M 192 x2.toNatClampNeg))
  else
    ok (ix z0 6) <|
    ok (ix x2 6) <|
    f_X12_pulls_84 M ((M 193 z0.toNatClampNeg) - (M 193 x2.toNatClampNeg))
theorem s_X12_pulls_47 {x2 : Int32} {x3 : Int32} {z0 : Int32} {M : px_M} {L : px_L} {R : px_R} {e : (Int32)} (hS : SR sh R) (hd : 0 ≤ d) (hcu : cu ≤ mc) (hsu : su ≤ ms) (h : f_X12_pulls_47 M x2 x3 z0 = some e) (g : Post (some (.int e)) sh M L R n) : WX RX12 cX12_pulls 5 (some .int) ("pulls", []) d mc ms X (px_QF Post mc ms) 47 [(0, .ref 73), (2, .int x2), (3, .int x3)] [.int z0] sh M L R n cu su := by
  unfold f_X12_pulls_47 at h
  refine wx_istore (lv' := [(4, _), (0, _), (2, _), (3, _)]) dX12_pulls_47 (by decide) rfl ?_
  refine wx_iload_n dX12_pulls_49 rfl ?_
  refine wx_if_ne (tgt := 70) dX12_pulls_50 (by decide) (fun c_50 => ?_) (fun c_50 => ?_)
  · replace h := it_f h c_50
    refine wx_aload_n dX12_pulls_70 rfl ?_
    refine wx_getR dX12_pulls_71 fl_X12_134 (sc_73 hS) rfl (rr_73_61 hS) ?_
    refine wx_iload dX12_pulls_74 rfl ?_
    obtain ⟨w_76, h⟩ := ok_some h
    refine wx_iald dX12_pulls_76 (sc_193 hS) (ix_in w_76) ?_
    refine wx_aload_n dX12_pulls_77 rfl ?_
    refine wx_getR dX12_pulls_78 fl_X12_134 (sc_73 hS) rfl (rr_73_61 hS) ?_
    refine wx_iload_n dX12_pulls_81 rfl ?_
    obtain ⟨w_82, h⟩ := ok_some h
    refine wx_iald dX12_pulls_82 (sc_193 hS) (ix_in w_82) ?_
    refine wx_isub dX12_pulls_83 ?_
    exact wx_sub (s_X12_pulls_84 hS hd hcu hsu h g) px_0
  · replace h := it_t h c_50
    refine wx_aload_n dX12_pulls_53 rfl ?_
    refine wx_getR dX12_pulls_54 fl_X12_131 (sc_73 hS) rfl (rr_73_60 hS) ?_
    refine wx_iload dX12_pulls_57 rfl ?_
    obtain ⟨w_59, h⟩ := ok_some h
    refine wx_iald dX12_pulls_59 (sc_192 hS) (ix_in w_59) ?_
    refine wx_aload_n dX12_pulls_60 rfl ?_
    refine wx_getR dX12_pulls_61 fl_X12_131 (sc_73 hS) rfl (rr_73_60 hS) ?_
    refine wx_iload_n dX12_pulls_64 rfl ?_
    obtain ⟨w_65, h⟩ := ok_some h
    refine wx_iald dX12_pulls_65 (sc_192 hS) (ix_in w_65) ?_
    refine wx_isub dX12_pulls_66 ?_
    refine wx_goto (tgt := 84) dX12_pulls_67 (by decide) ?_
    exact wx_sub (s_X12_pulls_84 hS hd hcu hsu h g) px_0
noncomputable def f_X12_pulls_22 (M : px_M) (x1 : Int32) (x2 : Int32) (x3 : Int32) : Option (Int32) :=
  ok (ix x1 6) <|
  if (M 196 x1.toNatClampNeg) = x2 then
    ok (ix x1 6) <|
    f_X12_pulls_47 M x2 x3 (M 197 x1.toNatClampNeg)
  else
    ok (ix x1 6) <|
    f_X12_pulls_47 M x2 x3 (M 196 x1.toNatClampNeg)
theorem s_X12_pulls_22 {x1 : Int32} {x2 : Int32} {x3 : Int32} {M : px_M} {L : px_L} {R : px_R} {e : (Int32)} (hS : SR sh R) (hd : 0 ≤ d) (hcu : cu ≤ mc) (hsu : su ≤ ms) (h : f_X12_pulls_22 M x1 x2 x3 = some e) (g : Post (some (.int e)) sh M L R n) : WX RX12 cX12_pulls 5 (some .int) ("pulls", []) d mc ms X (px_QF Post mc ms) 22 [(0, .ref 73), (1, .int x1), (2, .int x2), (3, .int x3)] [] sh M L R n cu su := by
  unfold f_X12_pulls_22 at h
  refine wx_aload_n dX12_pulls_22 rfl ?_
  refine wx_getR dX12_pulls_23 fl_X12_143 (sc_73 hS) rfl (rr_73_64 hS) ?_
  refine wx_iload_n dX12_pulls_26 rfl ?_
  obtain ⟨w_27, h⟩ := ok_some h
  refine wx_iald dX12_pulls_27 (sc_196 hS) (ix_in w_27) ?_
  refine wx_iload_n dX12_pulls_28 rfl ?_
  refine wx_icmp_ne (tgt := 41) dX12_pulls_29 (by decide) (fun c_29 => ?_) (fun c_29 => ?_)
  · replace h := it_f h c_29
    refine wx_aload_n dX12_pulls_41 rfl ?_
    refine wx_getR dX12_pulls_42 fl_X12_143 (sc_73 hS) rfl (rr_73_64 hS) ?_
    refine wx_iload_n dX12_pulls_45 rfl ?_
    obtain ⟨w_46, h⟩ := ok_some h
    refine wx_iald dX12_pulls_46 (sc_196 hS) (ix_in w_46) ?_
    exact wx_sub (s_X12_pulls_47 hS hd hcu hsu h g) (px_s rfl (px_s rfl (px_s rfl px_0)))
  · replace h := it_t h c_29
    refine wx_aload_n dX12_pulls_32 rfl ?_
    refine wx_getR dX12_pulls_33 fl_X12_146 (sc_73 hS) rfl (rr_73_65 hS) ?_
    refine wx_iload_n dX12_pulls_36 rfl ?_
    obtain ⟨w_37, h⟩ := ok_some h
    refine wx_iald dX12_pulls_37 (sc_197 hS) (ix_in w_37) ?_
    refine wx_goto (tgt := 47) dX12_pulls_38 (by decide) ?_
    exact wx_sub (s_X12_pulls_47 hS hd hcu hsu h g) (px_s rfl (px_s rfl (px_s rfl px_0)))
noncomputable def f_X12_pulls (M : px_M) (p1 : Int32) (p2 : Int32) (p3 : Int32) : Option (Int32) :=
  ok (ix p1 6) <|
  if (M 196 p1.toNatClampNeg) = p2 then
    f_X12_pulls_22 M p1 p2 p3
  else
    ok (ix p1 6) <|
    if (M 197 p1.toNatClampNeg) = p2 then
      f_X12_pulls_22 M p1 p2 p3
    else
      some 0
theorem s_X12_pulls {d : Nat} {X : Nat × (Nat → Int32)} {sh : px_Sh} {M : px_M} {L : px_L} {R : px_R} {n : Nat} {p1 : Int32} {p2 : Int32} {p3 : Int32} {e : Int32} (hS : SR sh R) (hd : 0 ≤ d) (h : f_X12_pulls M p1 p2 p3 = some e) : MX yX12_pulls cX12_pulls 5 (some .int) d 0 0 X [.ref 73, .int p1, .int p2, .int p3] sh M L R n (px_pu (some (.int e)) sh M L R n) := by
  refine MX.of (by decide +kernel) (by exact Nat.le_of_ble_eq_true rfl) ?_
  have hcu : 0 ≤ 0 := Nat.zero_le _
  have hsu : 0 ≤ 0 := Nat.zero_le _
  have g : px_pu (some (.int e)) sh M L R n (some (.int e)) sh M L R n := ⟨rfl, rfl, rfl, rfl, rfl, rfl⟩
  unfold f_X12_pulls at h
  refine wx_aload_n dX12_pulls_0 rfl ?_
  refine wx_getR dX12_pulls_1 fl_X12_143 (sc_73 hS) rfl (rr_73_64 hS) ?_
  refine wx_iload_n dX12_pulls_4 rfl ?_
  obtain ⟨w_5, h⟩ := ok_some h
  refine wx_iald dX12_pulls_5 (sc_196 hS) (ix_in w_5) ?_
  refine wx_iload_n dX12_pulls_6 rfl ?_
  refine wx_icmp_eq (tgt := 22) dX12_pulls_7 (by decide) (fun c_7 => ?_) (fun c_7 => ?_)
  · replace h := it_t h c_7
    exact wx_sub (s_X12_pulls_22 hS hd hcu hsu h g) (px_s rfl (px_s rfl (px_s rfl (px_s rfl px_0))))
  · replace h := it_f h c_7
    refine wx_aload_n dX12_pulls_10 rfl ?_
    refine wx_getR dX12_pulls_11 fl_X12_146 (sc_73 hS) rfl (rr_73_65 hS) ?_
    refine wx_iload_n dX12_pulls_14 rfl ?_
    obtain ⟨w_15, h⟩ := ok_some h
    refine wx_iald dX12_pulls_15 (sc_197 hS) (ix_in w_15) ?_
    refine wx_iload_n dX12_pulls_16 rfl ?_
    refine wx_icmp_eq (tgt := 22) dX12_pulls_17 (by decide) (fun c_17 => ?_) (fun c_17 => ?_)
    · replace h := it_t h c_17
      exact wx_sub (s_X12_pulls_22 hS hd hcu hsu h g) (px_s rfl (px_s rfl (px_s rfl (px_s rfl px_0))))
    · replace h := it_f h c_17
      refine wx_iconst (v := 0) dX12_pulls_20 (by decide) ?_
      refine wx_iret dX12_pulls_21 hcu hsu ?_
      obtain rfl := Option.some.inj h
      exact g
noncomputable def f_X12_writeRows_88 (sh : px_Sh) (M : px_M) (L : px_L) (R : px_R) (x1 : Int32) (x2 : Int32) (x3 : Int32) (x4 : Int32) (x5 : Int32) (z0 : Int64) (z1 : Int32) (z2 : Nat) : Option ((Int32 × px_L) ⊕ (px_L)) :=
  ok (xk sh z2 14 z1) <|
  nm (px_u L z2 z1.toNatClampNeg z0) fun L_88 =>
  some (.inl ((x5 + 1), L_88))
theorem s_X12_writeRows_88 {x1 : Int32} {x2 : Int32} {x3 : Int32} {x4 : Int32} {x5 : Int32} {z0 : Int64} {z1 : Int32} {z2 : Nat} {M : px_M} {L : px_L} {R : px_R} {e : ((Int32 × px_L) ⊕ (px_L))} (hS : SR sh R) (hd : 1 ≤ d) (hcu : cu ≤ mc) (hsu : su ≤ ms) (h : f_X12_writeRows_88 sh M L R x1 x2 x3 x4 x5 z0 z1 z2 = some e) (g : (sE (fun a => WX RX12 cX12_writeRows 6 none ("writeRows", []) d mc ms X (px_QF Post mc ms) 42 [(0, .ref 73), (1, .int x1), (2, .int x2), (3, .int x3), (4, .int x4), (5, .int a.1)] [] sh M (a.2) R n cu su) (fun t => WX RX12 cX12_writeRows 6 none ("writeRows", []) d mc ms X (px_QF Post mc ms) 95 [(0, .ref 73), (1, .int x1), (2, .int x2), (3, .int x3), (4, .int x4)] [] sh M t R n cu su)) e) : WX RX12 cX12_writeRows 6 none ("writeRows", []) d mc ms X (px_QF Post mc ms) 88 [(0, .ref 73), (1, .int x1), (2, .int x2), (3, .int x3), (4, .int x4), (5, .int x5)] [.long z0, .int z1, .ref z2] sh M L R n cu su := by
  unfold f_X12_writeRows_88 at h
  obtain ⟨w_88, h⟩ := ok_some h
  obtain ⟨ln_88, wt_88, wi_88⟩ := xk_some w_88
  refine wx_last dX12_writeRows_88 wt_88 wi_88 ?_
  refine wx_namL (fun L_88 q_88 => ?_)
  replace h := nm_at h q_88
  refine wx_iinc (lv' := [(5, _), (0, _), (1, _), (2, _), (3, _), (4, _)]) dX12_writeRows_89 rfl (i_1 _) (by decide) rfl ?_
  refine wx_goto (tgt := 42) dX12_writeRows_92 (by decide) ?_
  obtain rfl := Option.some.inj h
  replace g := sE_l g
  exact wx_sub g (px_s rfl (px_s rfl (px_s rfl (px_s rfl (px_s rfl (px_s rfl px_0))))))
noncomputable def f_X12_writeRows_87 (sh : px_Sh) (M : px_M) (L : px_L) (R : px_R) (x1 : Int32) (x2 : Int32) (x3 : Int32) (x4 : Int32) (x5 : Int32) (z0 : Int32) (z1 : Nat) : Option ((Int32 × px_L) ⊕ (px_L)) :=
  f_X12_writeRows_88 sh M L R x1 x2 x3 x4 x5 0 z0 z1
theorem s_X12_writeRows_87 {x1 : Int32} {x2 : Int32} {x3 : Int32} {x4 : Int32} {x5 : Int32} {z0 : Int32} {z1 : Nat} {M : px_M} {L : px_L} {R : px_R} {e : ((Int32 × px_L) ⊕ (px_L))} (hS : SR sh R) (hd : 1 ≤ d) (hcu : cu ≤ mc) (hsu : su ≤ ms) (h : f_X12_writeRows_87 sh M L R x1 x2 x3 x4 x5 z0 z1 = some e) (g : (sE (fun a => WX RX12 cX12_writeRows 6 none ("writeRows", []) d mc ms X (px_QF Post mc ms) 42 [(0, .ref 73), (1, .int x1), (2, .int x2), (3, .int x3), (4, .int x4), (5, .int a.1)] [] sh M (a.2) R n cu su) (fun t => WX RX12 cX12_writeRows 6 none ("writeRows", []) d mc ms X (px_QF Post mc ms) 95 [(0, .ref 73), (1, .int x1), (2, .int x2), (3, .int x3), (4, .int x4)] [] sh M t R n cu su)) e) : WX RX12 cX12_writeRows 6 none ("writeRows", []) d mc ms X (px_QF Post mc ms) 87 [(0, .ref 73), (1, .int x1), (2, .int x2), (3, .int x3), (4, .int x4), (5, .int x5)] [.int z0, .ref z1] sh M L R n cu su := by
  unfold f_X12_writeRows_87 at h
  refine wx_lconst (v := 0) dX12_writeRows_87 (by decide) ?_
  exact wx_sub (s_X12_writeRows_88 hS hd hcu hsu h g) (px_s rfl (px_s rfl (px_s rfl (px_s rfl (px_s rfl (px_s rfl px_0))))))
noncomputable def f_X12_writeRows_42 (sh : px_Sh) (M : px_M) (L : px_L) (R : px_R) (x1 : Int32) (x2 : Int32) (x3 : Int32) (x4 : Int32) (x5 : Int32) : Option ((Int32 × px_L) ⊕ (px_L)) :=
  if 6 ≤ x5 then
    some (.inr L)
  else
    nm ((2 * x2) + x3) fun v_58 =>
    ok (ix v_58 12) <|
    bd1 (R 199 v_58.toNatClampNeg) fun b_58 =>
    if x4 = 0 then
      f_X12_writeRows_87 sh M L R x1 x2 x3 x4 x5 x5 b_58
    else
      if (M 73 58) ≤ x5 then
        f_X12_writeRows_87 sh M L R x1 x2 x3 x4 x5 x5 b_58
      else
        bd1 (f_X12_pulls M x5 x2 x3) fun e_80 =>
        f_X12_writeRows_88 sh M L R x1 x2 x3 x4 x5 ((e_80 : Int32).toInt64) x5 b_58
theorem s_X12_writeRows_42b {x1 : Int32} {x2 : Int32} {x3 : Int32} {x4 : Int32} {x5 : Int32} {M : px_M} {L : px_L} {R : px_R} {e : ((Int32 × px_L) ⊕ (px_L))} (hS : SR sh R) (hd : 1 ≤ d) (hcu : cu ≤ mc) (hsu : su ≤ ms) (h : f_X12_writeRows_42 sh M L R x1 x2 x3 x4 x5 = some e) (g : (sE (fun a => WX RX12 cX12_writeRows 6 none ("writeRows", []) d mc ms X (px_QF Post mc ms) 42 [(0, .ref 73), (1, .int x1), (2, .int x2), (3, .int x3), (4, .int x4), (5, .int a.1)] [] sh M (a.2) R n cu su) (fun t => WX RX12 cX12_writeRows 6 none ("writeRows", []) d mc ms X (px_QF Post mc ms) 95 [(0, .ref 73), (1, .int x1), (2, .int x2), (3, .int x3), (4, .int x4)] [] sh M t R n cu su)) e) : WX RX12 cX12_writeRows 6 none ("writeRows", []) d mc ms X (px_QF Post mc ms) 42 [(0, .ref 73), (1, .int x1), (2, .int x2), (3, .int x3), (4, .int x4), (5, .int x5)] [] sh M L R n cu su := by
  unfold f_X12_writeRows_42 at h
  refine wx_iload dX12_writeRows_42 rfl ?_
  refine wx_bipush (v := 6) dX12_writeRows_44 (by decide) ?_
  refine wx_icmp_ge (tgt := 95) dX12_writeRows_46 (by decide) (fun c_46 => ?_) (fun c_46 => ?_)
  · replace h := it_t h c_46
    obtain rfl := Option.some.inj h
    replace g := sE_r g
    exact wx_sub g (px_s rfl (px_s rfl (px_s rfl (px_s rfl (px_s rfl px_0)))))
  · replace h := it_f h c_46
    refine wx_aload_n dX12_writeRows_49 rfl ?_
    refine wx_getR dX12_writeRows_50 fl_X12_154 (sc_73 hS) rfl (rr_73_67 hS) ?_
    refine wx_iconst (v := 2) dX12_writeRows_53 (by decide) ?_
    refine wx_iload_n dX12_writeRows_54 rfl ?_
    refine wx_imul dX12_writeRows_55 ?_
    refine wx_iload_n dX12_writeRows_56 rfl ?_
    refine wx_iadd dX12_writeRows_57 ?_
    refine wx_nami (fun v_58 q_58 => ?_)
    replace h := nm_at h q_58
    obtain ⟨w_58, h⟩ := ok_some h
    obtain ⟨b_58, wr_58, h⟩ := bd1_some h
    refine wx_aald dX12_writeRows_58 (sc_199 hS) (by decide) (by decide) (ix_in w_58) wr_58 ?_
    refine wx_iload dX12_writeRows_59 rfl ?_
    refine wx_iload dX12_writeRows_61 rfl ?_
    refine wx_if_eq (tgt := 87) dX12_writeRows_63 (by decide) (fun c_63 => ?_) (fun c_63 => ?_)
    · replace h := it_t h c_63
      exact wx_sub (s_X12_writeRows_87 hS hd hcu hsu h g) (px_s rfl (px_s rfl (px_s rfl (px_s rfl (px_s rfl (px_s rfl px_0))))))
    · replace h := it_f h c_63
      refine wx_iload dX12_writeRows_66 rfl ?_
      refine wx_aload_n dX12_writeRows_68 rfl ?_
      refine wx_getI dX12_writeRows_69 fl_X12_452 (sc_73 hS) rfl ?_
      refine wx_icmp_ge (tgt := 87) dX12_writeRows_72 (by decide) (fun c_72 => ?_) (fun c_72 => ?_)
      · replace h := it_t h c_72
        exact wx_sub (s_X12_writeRows_87 hS hd hcu hsu h g) (px_s rfl (px_s rfl (px_s rfl (px_s rfl (px_s rfl (px_s rfl px_0))))))
      · replace h := it_f h c_72
        refine wx_aload_n dX12_writeRows_75 rfl ?_
        refine wx_iload dX12_writeRows_76 rfl ?_
        refine wx_iload_n dX12_writeRows_78 rfl ?_
        refine wx_iload_n dX12_writeRows_79 rfl ?_
        obtain ⟨e_80, k_80, h⟩ := bd1_some h
        refine wx_cVi dX12_writeRows_80 ml_X12_455 my_X12_pulls iv_X12_pulls (sc_73 hS) (by decide) (s_X12_pulls (d := d - 1) hS (by omega) k_80) rfl (by omega) (by exact Nat.le_of_ble_eq_true rfl) hcu hsu ?_
        refine wx_i2l dX12_writeRows_83 ?_
        refine wx_goto (tgt := 88) dX12_writeRows_84 (by decide) ?_
        exact wx_sub (s_X12_writeRows_88 hS hd hcu hsu h g) (px_s rfl (px_s rfl (px_s rfl (px_s rfl (px_s rfl (px_s rfl px_0))))))
theorem s_X12_writeRows_42 {x1 : Int32} {x2 : Int32} {x3 : Int32} {x4 : Int32} {x5 : Int32} {M : px_M} {L : px_L} {R : px_R} {e : (px_L)} (hS : SR sh R) (hd : 1 ≤ d) (hcu : cu ≤ mc) (hsu : su ≤ ms) (h : lpf (fun a : Int32 × px_L => f_X12_writeRows_42 sh M a.2 R x1 x2 x3 x4 a.1) (x5, L) = some e) (g : WX RX12 cX12_writeRows 6 none ("writeRows", []) d mc ms X (px_QF Post mc ms) 95 [(0, .ref 73), (1, .int x1), (2, .int x2), (3, .int x3), (4, .int x4)] [] sh M e R n cu su) : WX RX12 cX12_writeRows 6 none ("writeRows", []) d mc ms X (px_QF Post mc ms) 42 [(0, .ref 73), (1, .int x1), (2, .int x2), (3, .int x3), (4, .int x4), (5, .int x5)] [] sh M L R n cu su := by
  have key := lpf_wp (P := (fun a => WX RX12 cX12_writeRows 6 none ("writeRows", []) d mc ms X (px_QF Post mc ms) 42 [(0, .ref 73), (1, .int x1), (2, .int x2), (3, .int x3), (4, .int x4), (5, .int a.1)] [] sh M (a.2) R n cu su)) (G := (fun t => WX RX12 cX12_writeRows 6 none ("writeRows", []) d mc ms X (px_QF Post mc ms) 95 [(0, .ref 73), (1, .int x1), (2, .int x2), (3, .int x3), (4, .int x4)] [] sh M t R n cu su)) (fun a r h g => s_X12_writeRows_42b (x1 := x1) (x2 := x2) (x3 := x3) (x4 := x4) (x5 := a.1) (M := M) (L := a.2) (R := R) hS hd hcu hsu h g) (a := (x5, L)) h g
  exact key
noncomputable def f_X12_writeRows_158 (sh : px_Sh) (M : px_M) (L : px_L) (R : px_R) (x1 : Int32) (x2 : Int32) (x3 : Int32) (z0 : Int64) (z1 : Int32) (z2 : Nat) : Option ((Int32 × px_L) ⊕ (px_L)) :=
  ok (xk sh z2 14 z1) <|
  nm (px_u L z2 z1.toNatClampNeg z0) fun L_158 =>
  some (.inl ((x3 + 1), L_158))
theorem s_X12_writeRows_158 {x1 : Int32} {x2 : Int32} {x3 : Int32} {z0 : Int64} {z1 : Int32} {z2 : Nat} {M : px_M} {L : px_L} {R : px_R} {e : ((Int32 × px_L) ⊕ (px_L))} (hS : SR sh R) (hd : 1 ≤ d) (hcu : cu ≤ mc) (hsu : su ≤ ms) (h : f_X12_writeRows_158 sh M L R x1 x2 x3 z0 z1 z2 = some e) (g : (sE (fun a => WX RX12 cX12_writeRows 6 none ("writeRows", []) d mc ms X (px_QF Post mc ms) 10 [(0, .ref 73), (1, .int x1), (2, .int x2), (3, .int a.1)] [] sh M (a.2) R n cu su) (fun t => WX RX12 cX12_writeRows 6 none ("writeRows", []) d mc ms X (px_QF Post mc ms) 165 [(0, .ref 73), (1, .int x1), (2, .int x2)] [] sh M t R n cu su)) e) : WX RX12 cX12_writeRows 6 none ("writeRows", []) d mc ms X (px_QF Post mc ms) 158 [(0, .ref 73), (1, .int x1), (2, .int x2), (3, .int x3)] [.long z0, .int z1, .ref z2] sh M L R n cu su := by
  unfold f_X12_writeRows_158 at h
  obtain ⟨w_158, h⟩ := ok_some h
  obtain ⟨ln_158, wt_158, wi_158⟩ := xk_some w_158
  refine wx_last dX12_writeRows_158 wt_158 wi_158 ?_
  refine wx_namL (fun L_158 q_158 => ?_)
  replace h := nm_at h q_158
  refine wx_iinc (lv' := [(3, _), (0, _), (1, _), (2, _)]) dX12_writeRows_159 rfl (i_1 _) (by decide) rfl ?_
  refine wx_goto (tgt := 10) dX12_writeRows_162 (by decide) ?_
  obtain rfl := Option.some.inj h
  replace g := sE_l g
  exact wx_sub g (px_s rfl (px_s rfl (px_s rfl (px_s rfl px_0))))
noncomputable def f_X12_writeRows_132 (sh : px_Sh) (M : px_M) (L : px_L) (R : px_R) (x1 : Int32) (x2 : Int32) (x3 : Int32) (x4 : Int32) (z0 : Int32) : Option ((Int32 × px_L) ⊕ (px_L)) :=
  nm ((2 * x2) + x3) fun v_143 =>
  ok (ix v_143 12) <|
  bd1 (R 199 v_143.toNatClampNeg) fun b_143 =>
  if x4 = 0 then
    f_X12_writeRows_158 sh M L R x1 x2 x3 0 6 b_143
  else
    f_X12_writeRows_158 sh M L R x1 x2 x3 ((z0 : Int32).toInt64) 6 b_143
theorem s_X12_writeRows_132 {x1 : Int32} {x2 : Int32} {x3 : Int32} {x4 : Int32} {z0 : Int32} {M : px_M} {L : px_L} {R : px_R} {e : ((Int32 × px_L) ⊕ (px_L))} (hS : SR sh R) (hd : 1 ≤ d) (hcu : cu ≤ mc) (hsu : su ≤ ms) (h : f_X12_writeRows_132 sh M L R x1 x2 x3 x4 z0 = some e) (g : (sE (fun a => WX RX12 cX12_writeRows 6 none ("writeRows", []) d mc ms X (px_QF Post mc ms) 10 [(0, .ref 73), (1, .int x1), (2, .int x2), (3, .int a.1)] [] sh M (a.2) R n cu su) (fun t => WX RX12 cX12_writeRows 6 none ("writeRows", []) d mc ms X (px_QF Post mc ms) 165 [(0, .ref 73), (1, .int x1), (2, .int x2)] [] sh M t R n cu su)) e) : WX RX12 cX12_writeRows 6 none ("writeRows", []) d mc ms X (px_QF Post mc ms) 132 [(0, .ref 73), (1, .int x1), (2, .int x2), (3, .int x3), (4, .int x4)] [.int z0] sh M L R n cu su := by
  unfold f_X12_writeRows_132 at h
  refine wx_istore (lv' := [(5, _), (0, _), (1, _), (2, _), (3, _), (4, _)]) dX12_writeRows_132 (by decide) rfl ?_
  refine wx_aload_n dX12_writeRows_134 rfl ?_
  refine wx_getR dX12_writeRows_135 fl_X12_154 (sc_73 hS) rfl (rr_73_67 hS) ?_
  refine wx_iconst (v := 2) dX12_writeRows_138 (by decide) ?_
  refine wx_iload_n dX12_writeRows_139 rfl ?_
  refine wx_imul dX12_writeRows_140 ?_
  refine wx_iload_n dX12_writeRows_141 rfl ?_
  refine wx_iadd dX12_writeRows_142 ?_
  refine wx_nami (fun v_143 q_143 => ?_)
  replace h := nm_at h q_143
  obtain ⟨w_143, h⟩ := ok_some h
  obtain ⟨b_143, wr_143, h⟩ := bd1_some h
  refine wx_aald dX12_writeRows_143 (sc_199 hS) (by decide) (by decide) (ix_in w_143) wr_143 ?_
  refine wx_bipush (v := 6) dX12_writeRows_144 (by decide) ?_
  refine wx_iload dX12_writeRows_146 rfl ?_
  refine wx_if_eq (tgt := 157) dX12_writeRows_148 (by decide) (fun c_148 => ?_) (fun c_148 => ?_)
  · replace h := it_t h c_148
    refine wx_lconst (v := 0) dX12_writeRows_157 (by decide) ?_
    exact wx_sub (s_X12_writeRows_158 hS hd hcu hsu h g) (px_s rfl (px_s rfl (px_s rfl (px_s rfl px_0))))
  · replace h := it_f h c_148
    refine wx_iload dX12_writeRows_151 rfl ?_
    refine wx_i2l dX12_writeRows_153 ?_
    refine wx_goto (tgt := 158) dX12_writeRows_154 (by decide) ?_
    exact wx_sub (s_X12_writeRows_158 hS hd hcu hsu h g) (px_s rfl (px_s rfl (px_s rfl (px_s rfl px_0))))
noncomputable def f_X12_writeRows_37 (sh : px_Sh) (M : px_M) (L : px_L) (R : px_R) (x1 : Int32) (x2 : Int32) (x3 : Int32) (z0 : Int32) : Option ((Int32 × px_L) ⊕ (px_L)) :=
  bd1 (lpf (fun a : Int32 × px_L => f_X12_writeRows_42 sh M a.2 R x1 x2 x3 z0 a.1) (0, L)) fun e_42 =>
  if x1 = (-1) then
    if x3 = 0 then
      ok (ix x2 6) <|
      f_X12_writeRows_132 sh M e_42 R x1 x2 x3 z0 (-(M 194 x2.toNatClampNeg))
    else
      ok (ix x2 6) <|
      f_X12_writeRows_132 sh M e_42 R x1 x2 x3 z0 (-(M 195 x2.toNatClampNeg))
  else
    bd1 (f_X12_pulls M x1 x2 x3) fun e_128 =>
    f_X12_writeRows_132 sh M e_42 R x1 x2 x3 z0 (-e_128)
theorem s_X12_writeRows_37 {x1 : Int32} {x2 : Int32} {x3 : Int32} {z0 : Int32} {M : px_M} {L : px_L} {R : px_R} {e : ((Int32 × px_L) ⊕ (px_L))} (hS : SR sh R) (hd : 1 ≤ d) (hcu : cu ≤ mc) (hsu : su ≤ ms) (h : f_X12_writeRows_37 sh M L R x1 x2 x3 z0 = some e) (g : (sE (fun a => WX RX12 cX12_writeRows 6 none ("writeRows", []) d mc ms X (px_QF Post mc ms) 10 [(0, .ref 73), (1, .int x1), (2, .int x2), (3, .int a.1)] [] sh M (a.2) R n cu su) (fun t => WX RX12 cX12_writeRows 6 none ("writeRows", []) d mc ms X (px_QF Post mc ms) 165 [(0, .ref 73), (1, .int x1), (2, .int x2)] [] sh M t R n cu su)) e) : WX RX12 cX12_writeRows 6 none ("writeRows", []) d mc ms X (px_QF Post mc ms) 37 [(0, .ref 73), (1, .int x1), (2, .int x2), (3, .int x3)] [.int z0] sh M L R n cu su := by
  unfold f_X12_writeRows_37 at h
  refine wx_istore (lv' := [(4, _), (0, _), (1, _), (2, _), (3, _)]) dX12_writeRows_37 (by decide) rfl ?_
  refine wx_iconst (v := 0) dX12_writeRows_39 (by decide) ?_
  refine wx_istore (lv' := [(5, _), (4, _), (0, _), (1, _), (2, _), (3, _)]) dX12_writeRows_40 (by decide) rfl ?_
  obtain ⟨e_42, k_42, h⟩ := bd1_some h
  refine wx_sub (s_X12_writeRows_42 hS hd hcu hsu k_42 ?_) (px_s rfl (px_s rfl (px_s rfl (px_s rfl (px_s rfl (px_s rfl px_0))))))
  refine wx_iload_n dX12_writeRows_95 rfl ?_
  refine wx_iconst (v := (-1)) dX12_writeRows_96 (by decide) ?_
  refine wx_icmp_ne (tgt := 124) dX12_writeRows_97 (by decide) (fun c_97 => ?_) (fun c_97 => ?_)
  · replace h := it_f h c_97
    refine wx_aload_n dX12_writeRows_124 rfl ?_
    refine wx_iload_n dX12_writeRows_125 rfl ?_
    refine wx_iload_n dX12_writeRows_126 rfl ?_
    refine wx_iload_n dX12_writeRows_127 rfl ?_
    obtain ⟨e_128, k_128, h⟩ := bd1_some h
    refine wx_cVi dX12_writeRows_128 ml_X12_455 my_X12_pulls iv_X12_pulls (sc_73 hS) (by decide) (s_X12_pulls (d := d - 1) hS (by omega) k_128) rfl (by omega) (by exact Nat.le_of_ble_eq_true rfl) hcu hsu ?_
    refine wx_ineg dX12_writeRows_131 ?_
    exact wx_sub (s_X12_writeRows_132 hS hd hcu hsu h g) (px_s rfl (px_s rfl (px_s rfl (px_s rfl (px_s rfl px_0)))))
  · replace h := it_t h c_97
    refine wx_iload_n dX12_writeRows_100 rfl ?_
    refine wx_if_ne (tgt := 114) dX12_writeRows_101 (by decide) (fun c_101 => ?_) (fun c_101 => ?_)
    · replace h := it_f h c_101
      refine wx_aload_n dX12_writeRows_114 rfl ?_
      refine wx_getR dX12_writeRows_115 fl_X12_140 (sc_73 hS) rfl (rr_73_63 hS) ?_
      refine wx_iload_n dX12_writeRows_118 rfl ?_
      obtain ⟨w_119, h⟩ := ok_some h
      refine wx_iald dX12_writeRows_119 (sc_195 hS) (ix_in w_119) ?_
      refine wx_ineg dX12_writeRows_120 ?_
      refine wx_goto (tgt := 132) dX12_writeRows_121 (by decide) ?_
      exact wx_sub (s_X12_writeRows_132 hS hd hcu hsu h g) (px_s rfl (px_s rfl (px_s rfl (px_s rfl (px_s rfl px_0)))))
    · replace h := it_t h c_101
      refine wx_aload_n dX12_writeRows_104 rfl ?_
      refine wx_getR dX12_writeRows_105 fl_X12_137 (sc_73 hS) rfl (rr_73_62 hS) ?_
      refine wx_iload_n dX12_writeRows_108 rfl ?_
      obtain ⟨w_109, h⟩ := ok_some h
      refine wx_iald dX12_writeRows_109 (sc_194 hS) (ix_in w_109) ?_
      refine wx_ineg dX12_writeRows_110 ?_
      refine wx_goto (tgt := 132) dX12_writeRows_111 (by decide) ?_
      exact wx_sub (s_X12_writeRows_132 hS hd hcu hsu h g) (px_s rfl (px_s rfl (px_s rfl (px_s rfl (px_s rfl px_0)))))
noncomputable def f_X12_writeRows_36 (sh : px_Sh) (M : px_M) (L : px_L) (R : px_R) (x1 : Int32) (x2 : Int32) (x3 : Int32) : Option ((Int32 × px_L) ⊕ (px_L)) :=
  f_X12_writeRows_37 sh M L R x1 x2 x3 0
theorem s_X12_writeRows_36 {x1 : Int32} {x2 : Int32} {x3 : Int32} {M : px_M} {L : px_L} {R : px_R} {e : ((Int32 × px_L) ⊕ (px_L))} (hS : SR sh R) (hd : 1 ≤ d) (hcu : cu ≤ mc) (hsu : su ≤ ms) (h : f_X12_writeRows_36 sh M L R x1 x2 x3 = some e) (g : (sE (fun a => WX RX12 cX12_writeRows 6 none ("writeRows", []) d mc ms X (px_QF Post mc ms) 10 [(0, .ref 73), (1, .int x1), (2, .int x2), (3, .int a.1)] [] sh M (a.2) R n cu su) (fun t => WX RX12 cX12_writeRows 6 none ("writeRows", []) d mc ms X (px_QF Post mc ms) 165 [(0, .ref 73), (1, .int x1), (2, .int x2)] [] sh M t R n cu su)) e) : WX RX12 cX12_writeRows 6 none ("writeRows", []) d mc ms X (px_QF Post mc ms) 36 [(0, .ref 73), (1, .int x1), (2, .int x2), (3, .int x3)] [] sh M L R n cu su := by
  unfold f_X12_writeRows_36 at h
  refine wx_iconst (v := 0) dX12_writeRows_36 (by decide) ?_
  exact wx_sub (s_X12_writeRows_37 hS hd hcu hsu h g) (px_s rfl (px_s rfl (px_s rfl (px_s rfl px_0))))
noncomputable def f_X12_writeRows_10 (sh : px_Sh) (M : px_M) (L : px_L) (R : px_R) (x1 : Int32) (x2 : Int32) (x3 : Int32) : Option ((Int32 × px_L) ⊕ (px_L)) :=
  if 2 ≤ x3 then
    some (.inr L)
  else
    if (M 73 57) ≤ x2 then
      f_X12_writeRows_36 sh M L R x1 x2 x3
    else
      ok (ix x2 6) <|
      if (M 198 x2.toNatClampNeg) = 0 then
        f_X12_writeRows_37 sh M L R x1 x2 x3 1
      else
        f_X12_writeRows_36 sh M L R x1 x2 x3
theorem s_X12_writeRows_10b {x1 : Int32} {x2 : Int32} {x3 : Int32} {M : px_M} {L : px_L} {R : px_R} {e : ((Int32 × px_L) ⊕ (px_L))} (hS : SR sh R) (hd : 1 ≤ d) (hcu : cu ≤ mc) (hsu : su ≤ ms) (h : f_X12_writeRows_10 sh M L R x1 x2 x3 = some e) (g : (sE (fun a => WX RX12 cX12_writeRows 6 none ("writeRows", []) d mc ms X (px_QF Post mc ms) 10 [(0, .ref 73), (1, .int x1), (2, .int x2), (3, .int a.1)] [] sh M (a.2) R n cu su) (fun t => WX RX12 cX12_writeRows 6 none ("writeRows", []) d mc ms X (px_QF Post mc ms) 165 [(0, .ref 73), (1, .int x1), (2, .int x2)] [] sh M t R n cu su)) e) : WX RX12 cX12_writeRows 6 none ("writeRows", []) d mc ms X (px_QF Post mc ms) 10 [(0, .ref 73), (1, .int x1), (2, .int x2), (3, .int x3)] [] sh M L R n cu su := by
  unfold f_X12_writeRows_10 at h
  refine wx_iload_n dX12_writeRows_10 rfl ?_
  refine wx_iconst (v := 2) dX12_writeRows_11 (by decide) ?_
  refine wx_icmp_ge (tgt := 165) dX12_writeRows_12 (by decide) (fun c_12 => ?_) (fun c_12 => ?_)
  · replace h := it_t h c_12
    obtain rfl := Option.some.inj h
    replace g := sE_r g
    exact wx_sub g (px_s rfl (px_s rfl (px_s rfl px_0)))
  · replace h := it_f h c_12
    refine wx_iload_n dX12_writeRows_15 rfl ?_
    refine wx_aload_n dX12_writeRows_16 rfl ?_
    refine wx_getI dX12_writeRows_17 fl_X12_449 (sc_73 hS) rfl ?_
    refine wx_icmp_ge (tgt := 36) dX12_writeRows_20 (by decide) (fun c_20 => ?_) (fun c_20 => ?_)
    · replace h := it_t h c_20
      exact wx_sub (s_X12_writeRows_36 hS hd hcu hsu h g) (px_s rfl (px_s rfl (px_s rfl (px_s rfl px_0))))
    · replace h := it_f h c_20
      refine wx_aload_n dX12_writeRows_23 rfl ?_
      refine wx_getR dX12_writeRows_24 fl_X12_149 (sc_73 hS) rfl (rr_73_66 hS) ?_
      refine wx_iload_n dX12_writeRows_27 rfl ?_
      obtain ⟨w_28, h⟩ := ok_some h
      refine wx_bald dX12_writeRows_28 (sc_198 hS) (ix_in w_28) ?_
      refine wx_if_ne (tgt := 36) dX12_writeRows_29 (by decide) (fun c_29 => ?_) (fun c_29 => ?_)
      · replace h := it_f h c_29
        exact wx_sub (s_X12_writeRows_36 hS hd hcu hsu h g) (px_s rfl (px_s rfl (px_s rfl (px_s rfl px_0))))
      · replace h := it_t h c_29
        refine wx_iconst (v := 1) dX12_writeRows_32 (by decide) ?_
        refine wx_goto (tgt := 37) dX12_writeRows_33 (by decide) ?_
        exact wx_sub (s_X12_writeRows_37 hS hd hcu hsu h g) (px_s rfl (px_s rfl (px_s rfl (px_s rfl px_0))))
theorem s_X12_writeRows_10 {x1 : Int32} {x2 : Int32} {x3 : Int32} {M : px_M} {L : px_L} {R : px_R} {e : (px_L)} (hS : SR sh R) (hd : 1 ≤ d) (hcu : cu ≤ mc) (hsu : su ≤ ms) (h : lpf (fun a : Int32 × px_L => f_X12_writeRows_10 sh M a.2 R x1 x2 a.1) (x3, L) = some e) (g : WX RX12 cX12_writeRows 6 none ("writeRows", []) d mc ms X (px_QF Post mc ms) 165 [(0, .ref 73), (1, .int x1), (2, .int x2)] [] sh M e R n cu su) : WX RX12 cX12_writeRows 6 none ("writeRows", []) d mc ms X (px_QF Post mc ms) 10 [(0, .ref 73), (1, .int x1), (2, .int x2), (3, .int x3)] [] sh M L R n cu su := by
  have key := lpf_wp (P := (fun a => WX RX12 cX12_writeRows 6 none ("writeRows", []) d mc ms X (px_QF Post mc ms) 10 [(0, .ref 73), (1, .int x1), (2, .int x2), (3, .int a.1)] [] sh M (a.2) R n cu su)) (G := (fun t => WX RX12 cX12_writeRows 6 none ("writeRows", []) d mc ms X (px_QF Post mc ms) 165 [(0, .ref 73), (1, .int x1), (2, .int x2)] [] sh M t R n cu su)) (fun a r h g => s_X12_writeRows_10b (x1 := x1) (x2 := x2) (x3 := a.1) (M := M) (L := a.2) (R := R) hS hd hcu hsu h g) (a := (x3, L)) h g
  exact key
noncomputable def f_X12_writeRows_2 (sh : px_Sh) (M : px_M) (L : px_L) (R : px_R) (x1 : Int32) (x2 : Int32) : Option ((Int32 × px_L) ⊕ (px_L)) :=
  if 6 ≤ x2 then
    some (.inr L)
  else
    bd1 (lpf (fun a : Int32 × px_L => f_X12_writeRows_10 sh M a.2 R x1 x2 a.1) (0, L)) fun e_10 =>
    some (.inl ((x2 + 1), e_10))
theorem s_X12_writeRows_2b {x1 : Int32} {x2 : Int32} {M : px_M} {L : px_L} {R : px_R} {e : ((Int32 × px_L) ⊕ (px_L))} (hS : SR sh R) (hd : 1 ≤ d) (hcu : cu ≤ mc) (hsu : su ≤ ms) (h : f_X12_writeRows_2 sh M L R x1 x2 = some e) (g : (sE (fun a => WX RX12 cX12_writeRows 6 none ("writeRows", []) d mc ms X (px_QF Post mc ms) 2 [(0, .ref 73), (1, .int x1), (2, .int a.1)] [] sh M (a.2) R n cu su) (fun t => WX RX12 cX12_writeRows 6 none ("writeRows", []) d mc ms X (px_QF Post mc ms) 171 [] [] sh M t R n cu su)) e) : WX RX12 cX12_writeRows 6 none ("writeRows", []) d mc ms X (px_QF Post mc ms) 2 [(0, .ref 73), (1, .int x1), (2, .int x2)] [] sh M L R n cu su := by
  unfold f_X12_writeRows_2 at h
  refine wx_iload_n dX12_writeRows_2 rfl ?_
  refine wx_bipush (v := 6) dX12_writeRows_3 (by decide) ?_
  refine wx_icmp_ge (tgt := 171) dX12_writeRows_5 (by decide) (fun c_5 => ?_) (fun c_5 => ?_)
  · replace h := it_t h c_5
    obtain rfl := Option.some.inj h
    replace g := sE_r g
    exact wx_sub g px_0
  · replace h := it_f h c_5
    refine wx_iconst (v := 0) dX12_writeRows_8 (by decide) ?_
    refine wx_istore_n (lv' := [(3, _), (0, _), (1, _), (2, _)]) dX12_writeRows_9 (by decide) rfl ?_
    obtain ⟨e_10, k_10, h⟩ := bd1_some h
    refine wx_sub (s_X12_writeRows_10 hS hd hcu hsu k_10 ?_) (px_s rfl (px_s rfl (px_s rfl (px_s rfl px_0))))
    refine wx_iinc (lv' := [(2, _), (0, _), (1, _)]) dX12_writeRows_165 rfl (i_1 _) (by decide) rfl ?_
    refine wx_goto (tgt := 2) dX12_writeRows_168 (by decide) ?_
    obtain rfl := Option.some.inj h
    replace g := sE_l g
    exact wx_sub g (px_s rfl (px_s rfl (px_s rfl px_0)))
theorem s_X12_writeRows_2 {x1 : Int32} {x2 : Int32} {M : px_M} {L : px_L} {R : px_R} {e : (px_L)} (hS : SR sh R) (hd : 1 ≤ d) (hcu : cu ≤ mc) (hsu : su ≤ ms) (h : lpf (fun a : Int32 × px_L => f_X12_writeRows_2 sh M a.2 R x1 a.1) (x2, L) = some e) (g : WX RX12 cX12_writeRows 6 none ("writeRows", []) d mc ms X (px_QF Post mc ms) 171 [] [] sh M e R n cu su) : WX RX12 cX12_writeRows 6 none ("writeRows", []) d mc ms X (px_QF Post mc ms) 2 [(0, .ref 73), (1, .int x1), (2, .int x2)] [] sh M L R n cu su := by
  have key := lpf_wp (P := (fun a => WX RX12 cX12_writeRows 6 none ("writeRows", []) d mc ms X (px_QF Post mc ms) 2 [(0, .ref 73), (1, .int x1), (2, .int a.1)] [] sh M (a.2) R n cu su)) (G := (fun t => WX RX12 cX12_writeRows 6 none ("writeRows", []) d mc ms X (px_QF Post mc ms) 171 [] [] sh M t R n cu su)) (fun a r h g => s_X12_writeRows_2b (x1 := x1) (x2 := a.1) (M := M) (L := a.2) (R := R) hS hd hcu hsu h g) (a := (x2, L)) h g
  exact key
noncomputable def f_X12_writeRows (sh : px_Sh) (M : px_M) (L : px_L) (R : px_R) (p1 : Int32) : Option (px_L) :=
  bd1 (lpf (fun a : Int32 × px_L => f_X12_writeRows_2 sh M a.2 R p1 a.1) (0, L)) fun e_2 =>
  some e_2
theorem s_X12_writeRows {d : Nat} {X : Nat × (Nat → Int32)} {sh : px_Sh} {M : px_M} {L : px_L} {R : px_R} {n : Nat} {p1 : Int32} {e : px_L} (hS : SR sh R) (hd : 1 ≤ d) (h : f_X12_writeRows sh M L R p1 = some e) : MX yX12_writeRows cX12_writeRows 6 none d 0 0 X [.ref 73, .int p1] sh M L R n (px_pu none sh M e R n) := by
  refine MX.of (by decide +kernel) (by exact Nat.le_of_ble_eq_true rfl) ?_
  have hcu : 0 ≤ 0 := Nat.zero_le _
  have hsu : 0 ≤ 0 := Nat.zero_le _
  have g : px_pu none sh M e R n none sh M e R n := ⟨rfl, rfl, rfl, rfl, rfl, rfl⟩
  unfold f_X12_writeRows at h
  refine wx_iconst (v := 0) dX12_writeRows_0 (by decide) ?_
  refine wx_istore_n (lv' := [(2, _), (0, _), (1, _)]) dX12_writeRows_1 (by decide) rfl ?_
  obtain ⟨e_2, k_2, h⟩ := bd1_some h
  refine wx_sub (s_X12_writeRows_2 hS hd hcu hsu k_2 ?_) (px_s rfl (px_s rfl (px_s rfl px_0)))
  refine wx_vret dX12_writeRows_171 hcu hsu ?_
  obtain rfl := Option.some.inj h
  exact g
noncomputable def f_X12_divisor_28 (y4 : Int64) (y6 : Int64) : Option ((Int64 × Int64) ⊕ (Int64)) :=
  if (lg_cmp y6 0) = 0 then
    some (.inr y4)
  else
    ok (nz y6 0) <|
    nm (y4 - y4 / y6 * y6) fun v_40 =>
    some (.inl (y6, v_40))
theorem s_X12_divisor_28b {y4 : Int64} {y6 : Int64} {M : px_M} {L : px_L} {R : px_R} {e : ((Int64 × Int64) ⊕ (Int64))} (hS : SR sh R) (hd : 0 ≤ d) (hcu : cu ≤ mc) (hsu : su ≤ ms) (h : f_X12_divisor_28 y4 y6 = some e) (g : (sE (fun a => WX RX12 cX12_divisor 10 (some .long) ("divisor", []) d mc ms X (px_QF Post mc ms) 28 [(4, .long a.1), (6, .long a.2)] [] sh M L R n cu su) (fun t => WX RX12 cX12_divisor 10 (some .long) ("divisor", []) d mc ms X (px_QF Post mc ms) 53 [(4, .long t)] [] sh M L R n cu su)) e) : WX RX12 cX12_divisor 10 (some .long) ("divisor", []) d mc ms X (px_QF Post mc ms) 28 [(4, .long y4), (6, .long y6)] [] sh M L R n cu su := by
  unfold f_X12_divisor_28 at h
  refine wx_lload dX12_divisor_28 rfl ?_
  refine wx_lconst (v := 0) dX12_divisor_30 (by decide) ?_
  refine wx_lcmp dX12_divisor_31 ?_
  refine wx_if_eq (tgt := 53) dX12_divisor_32 (by decide) (fun c_32 => ?_) (fun c_32 => ?_)
  · replace h := it_t h c_32
    obtain rfl := Option.some.inj h
    replace g := sE_r g
    exact wx_sub g (px_s rfl px_0)
  · replace h := it_f h c_32
    refine wx_lload dX12_divisor_35 rfl ?_
    refine wx_lload dX12_divisor_37 rfl ?_
    obtain ⟨w_39, h⟩ := ok_some h
    refine wx_lrem dX12_divisor_39 (nz_n w_39) ?_
    refine wx_naml (fun v_40 q_40 => ?_)
    replace h := nm_at h q_40
    refine wx_lstore (lv' := [(8, _), (4, _), (6, _)]) dX12_divisor_40 (by decide) rfl ?_
    refine wx_lload dX12_divisor_42 rfl ?_
    refine wx_lstore (lv' := [(4, _), (8, _), (6, _)]) dX12_divisor_44 (by decide) rfl ?_
    refine wx_lload dX12_divisor_46 rfl ?_
    refine wx_lstore (lv' := [(6, _), (4, _), (8, _)]) dX12_divisor_48 (by decide) rfl ?_
    refine wx_goto (tgt := 28) dX12_divisor_50 (by decide) ?_
    obtain rfl := Option.some.inj h
    replace g := sE_l g
    exact wx_sub g (px_s rfl (px_s rfl px_0))
theorem s_X12_divisor_28 {y4 : Int64} {y6 : Int64} {M : px_M} {L : px_L} {R : px_R} {e : (Int64)} (hS : SR sh R) (hd : 0 ≤ d) (hcu : cu ≤ mc) (hsu : su ≤ ms) (h : lpf (fun a : Int64 × Int64 => f_X12_divisor_28 a.1 a.2) (y4, y6) = some e) (g : WX RX12 cX12_divisor 10 (some .long) ("divisor", []) d mc ms X (px_QF Post mc ms) 53 [(4, .long e)] [] sh M L R n cu su) : WX RX12 cX12_divisor 10 (some .long) ("divisor", []) d mc ms X (px_QF Post mc ms) 28 [(4, .long y4), (6, .long y6)] [] sh M L R n cu su := by
  have key := lpf_wp (P := (fun a => WX RX12 cX12_divisor 10 (some .long) ("divisor", []) d mc ms X (px_QF Post mc ms) 28 [(4, .long a.1), (6, .long a.2)] [] sh M L R n cu su)) (G := (fun t => WX RX12 cX12_divisor 10 (some .long) ("divisor", []) d mc ms X (px_QF Post mc ms) 53 [(4, .long t)] [] sh M L R n cu su)) (fun a r h g => s_X12_divisor_28b (y4 := a.1) (y6 := a.2) (M := M) (L := L) (R := R) hS hd hcu hsu h g) (a := (y4, y6)) h g
  exact key
noncomputable def f_X12_divisor_26 (y4 : Int64) (z0 : Int64) : Option (Int64) :=
  bd1 (lpf (fun a : Int64 × Int64 => f_X12_divisor_28 a.1 a.2) (y4, z0)) fun e_28 =>
  some e_28
theorem s_X12_divisor_26 {y4 : Int64} {z0 : Int64} {M : px_M} {L : px_L} {R : px_R} {e : (Int64)} (hS : SR sh R) (hd : 0 ≤ d) (hcu : cu ≤ mc) (hsu : su ≤ ms) (h : f_X12_divisor_26 y4 z0 = some e) (g : Post (some (.long e)) sh M L R n) : WX RX12 cX12_divisor 10 (some .long) ("divisor", []) d mc ms X (px_QF Post mc ms) 26 [(4, .long y4)] [.long z0] sh M L R n cu su := by
  unfold f_X12_divisor_26 at h
  refine wx_lstore (lv' := [(6, _), (4, _)]) dX12_divisor_26 (by decide) rfl ?_
  obtain ⟨e_28, k_28, h⟩ := bd1_some h
  refine wx_sub (s_X12_divisor_28 hS hd hcu hsu k_28 ?_) (px_s rfl (px_s rfl px_0))
  refine wx_lload dX12_divisor_53 rfl ?_
  refine wx_lret dX12_divisor_55 hcu hsu ?_
  obtain rfl := Option.some.inj h
  exact g
noncomputable def f_X12_divisor_12 (y2 : Int64) (z0 : Int64) : Option (Int64) :=
  if 0 ≤ (lg_cmp y2 0) then
    f_X12_divisor_26 z0 y2
  else
    f_X12_divisor_26 z0 (-y2)
theorem s_X12_divisor_12 {y2 : Int64} {z0 : Int64} {M : px_M} {L : px_L} {R : px_R} {e : (Int64)} (hS : SR sh R) (hd : 0 ≤ d) (hcu : cu ≤ mc) (hsu : su ≤ ms) (h : f_X12_divisor_12 y2 z0 = some e) (g : Post (some (.long e)) sh M L R n) : WX RX12 cX12_divisor 10 (some .long) ("divisor", []) d mc ms X (px_QF Post mc ms) 12 [(2, .long y2)] [.long z0] sh M L R n cu su := by
  unfold f_X12_divisor_12 at h
  refine wx_lstore (lv' := [(4, _), (2, _)]) dX12_divisor_12 (by decide) rfl ?_
  refine wx_lload_n dX12_divisor_14 rfl ?_
  refine wx_lconst (v := 0) dX12_divisor_15 (by decide) ?_
  refine wx_lcmp dX12_divisor_16 ?_
  refine wx_if_ge (tgt := 25) dX12_divisor_17 (by decide) (fun c_17 => ?_) (fun c_17 => ?_)
  · replace h := it_t h c_17
    refine wx_lload_n dX12_divisor_25 rfl ?_
    exact wx_sub (s_X12_divisor_26 hS hd hcu hsu h g) (px_s rfl px_0)
  · replace h := it_f h c_17
    refine wx_lload_n dX12_divisor_20 rfl ?_
    refine wx_lneg dX12_divisor_21 ?_
    refine wx_goto (tgt := 26) dX12_divisor_22 (by decide) ?_
    exact wx_sub (s_X12_divisor_26 hS hd hcu hsu h g) (px_s rfl px_0)
noncomputable def f_X12_divisor (p0 : Int64) (p2 : Int64) : Option (Int64) :=
  if 0 ≤ (lg_cmp p0 0) then
    f_X12_divisor_12 p2 p0
  else
    f_X12_divisor_12 p2 (-p0)
theorem s_X12_divisor {d : Nat} {X : Nat × (Nat → Int32)} {sh : px_Sh} {M : px_M} {L : px_L} {R : px_R} {n : Nat} {p0 : Int64} {p2 : Int64} {e : Int64} (hS : SR sh R) (hd : 0 ≤ d) (h : f_X12_divisor p0 p2 = some e) : MX yX12_divisor cX12_divisor 10 (some .long) d 0 0 X [.long p0, .long p2] sh M L R n (px_pu (some (.long e)) sh M L R n) := by
  refine MX.of (by decide +kernel) (by exact Nat.le_of_ble_eq_true rfl) ?_
  have hcu : 0 ≤ 0 := Nat.zero_le _
  have hsu : 0 ≤ 0 := Nat.zero_le _
  have g : px_pu (some (.long e)) sh M L R n (some (.long e)) sh M L R n := ⟨rfl, rfl, rfl, rfl, rfl, rfl⟩
  unfold f_X12_divisor at h
  refine wx_lload_n dX12_divisor_0 rfl ?_
  refine wx_lconst (v := 0) dX12_divisor_1 (by decide) ?_
  refine wx_lcmp dX12_divisor_2 ?_
  refine wx_if_ge (tgt := 11) dX12_divisor_3 (by decide) (fun c_3 => ?_) (fun c_3 => ?_)
  · replace h := it_t h c_3
    refine wx_lload_n dX12_divisor_11 rfl ?_
    exact wx_sub (s_X12_divisor_12 hS hd hcu hsu h g) (px_s rfl px_0)
  · replace h := it_f h c_3
    refine wx_lload_n dX12_divisor_6 rfl ?_
    refine wx_lneg dX12_divisor_7 ?_
    refine wx_goto (tgt := 12) dX12_divisor_8 (by decide) ?_
    exact wx_sub (s_X12_divisor_12 hS hd hcu hsu h g) (px_s rfl px_0)
noncomputable def f_X12_shorten_30 (sh : px_Sh) (L : px_L) (a1 : Nat) (y2 : Int64) (x4 : Int32) : Option ((Int32 × px_L) ⊕ (px_L)) :=
  if 7 ≤ x4 then
    some (.inr L)
  else
    if (lg_cmp y2 1) ≤ 0 then
      some (.inr L)
    else
      ok (xk sh a1 14 x4) <|
      ok (nz y2 0) <|
      nm ((L a1 x4.toNatClampNeg) / y2) fun v_50 =>
      ok (xk sh a1 14 x4) <|
      nm (px_u L a1 x4.toNatClampNeg v_50) fun L_50 =>
      some (.inl ((x4 + 1), L_50))
theorem s_X12_shorten_30b {a1 : Nat} {y2 : Int64} {x4 : Int32} {M : px_M} {L : px_L} {R : px_R} {e : ((Int32 × px_L) ⊕ (px_L))} (hS : SR sh R) (hd : 1 ≤ d) (hcu : cu ≤ mc) (hsu : su ≤ ms) (h : f_X12_shorten_30 sh L a1 y2 x4 = some e) (g : (sE (fun a => WX RX12 cX12_shorten 5 none ("shorten", []) d mc ms X (px_QF Post mc ms) 30 [(1, .ref a1), (2, .long y2), (4, .int a.1)] [] sh M (a.2) R n cu su) (fun t => WX RX12 cX12_shorten 5 none ("shorten", []) d mc ms X (px_QF Post mc ms) 57 [] [] sh M t R n cu su)) e) : WX RX12 cX12_shorten 5 none ("shorten", []) d mc ms X (px_QF Post mc ms) 30 [(1, .ref a1), (2, .long y2), (4, .int x4)] [] sh M L R n cu su := by
  unfold f_X12_shorten_30 at h
  refine wx_iload dX12_shorten_30 rfl ?_
  refine wx_bipush (v := 7) dX12_shorten_32 (by decide) ?_
  refine wx_icmp_ge (tgt := 57) dX12_shorten_34 (by decide) (fun c_34 => ?_) (fun c_34 => ?_)
  · replace h := it_t h c_34
    obtain rfl := Option.some.inj h
    replace g := sE_r g
    exact wx_sub g px_0
  · replace h := it_f h c_34
    refine wx_lload_n dX12_shorten_37 rfl ?_
    refine wx_lconst (v := 1) dX12_shorten_38 (by decide) ?_
    refine wx_lcmp dX12_shorten_39 ?_
    refine wx_if_le (tgt := 57) dX12_shorten_40 (by decide) (fun c_40 => ?_) (fun c_40 => ?_)
    · replace h := it_t h c_40
      obtain rfl := Option.some.inj h
      replace g := sE_r g
      exact wx_sub g px_0
    · replace h := it_f h c_40
      refine wx_aload_n dX12_shorten_43 rfl ?_
      refine wx_iload dX12_shorten_44 rfl ?_
      refine wx_dup2_11 dX12_shorten_46 rfl rfl ?_
      obtain ⟨w_47, h⟩ := ok_some h
      obtain ⟨ln_47, wt_47, wi_47⟩ := xk_some w_47
      refine wx_lald dX12_shorten_47 wt_47 wi_47 ?_
      refine wx_lload_n dX12_shorten_48 rfl ?_
      obtain ⟨w_49, h⟩ := ok_some h
      refine wx_ldiv dX12_shorten_49 (nz_n w_49) ?_
      refine wx_naml (fun v_50 q_50 => ?_)
      replace h := nm_at h q_50
      obtain ⟨w_50, h⟩ := ok_some h
      obtain ⟨ln_50, wt_50, wi_50⟩ := xk_some w_50
      refine wx_last dX12_shorten_50 wt_50 wi_50 ?_
      refine wx_namL (fun L_50 q_50 => ?_)
      replace h := nm_at h q_50
      refine wx_iinc (lv' := [(4, _), (1, _), (2, _)]) dX12_shorten_51 rfl (i_1 _) (by decide) rfl ?_
      refine wx_goto (tgt := 30) dX12_shorten_54 (by decide) ?_
      obtain rfl := Option.some.inj h
      replace g := sE_l g
      exact wx_sub g (px_s rfl (px_s rfl (px_s rfl px_0)))
theorem s_X12_shorten_30 {a1 : Nat} {y2 : Int64} {x4 : Int32} {M : px_M} {L : px_L} {R : px_R} {e : (px_L)} (hS : SR sh R) (hd : 1 ≤ d) (hcu : cu ≤ mc) (hsu : su ≤ ms) (h : lpf (fun a : Int32 × px_L => f_X12_shorten_30 sh a.2 a1 y2 a.1) (x4, L) = some e) (g : WX RX12 cX12_shorten 5 none ("shorten", []) d mc ms X (px_QF Post mc ms) 57 [] [] sh M e R n cu su) : WX RX12 cX12_shorten 5 none ("shorten", []) d mc ms X (px_QF Post mc ms) 30 [(1, .ref a1), (2, .long y2), (4, .int x4)] [] sh M L R n cu su := by
  have key := lpf_wp (P := (fun a => WX RX12 cX12_shorten 5 none ("shorten", []) d mc ms X (px_QF Post mc ms) 30 [(1, .ref a1), (2, .long y2), (4, .int a.1)] [] sh M (a.2) R n cu su)) (G := (fun t => WX RX12 cX12_shorten 5 none ("shorten", []) d mc ms X (px_QF Post mc ms) 57 [] [] sh M t R n cu su)) (fun a r h g => s_X12_shorten_30b (a1 := a1) (y2 := y2) (x4 := a.1) (M := M) (L := a.2) (R := R) hS hd hcu hsu h g) (a := (x4, L)) h g
  exact key
noncomputable def f_X12_shorten_5 (sh : px_Sh) (L : px_L) (a1 : Nat) (y2 : Int64) (x4 : Int32) : Option ((Int64 × Int32) ⊕ (Int64)) :=
  if 7 ≤ x4 then
    some (.inr y2)
  else
    ok (xk sh a1 14 x4) <|
    bd1 (f_X12_divisor (L a1 x4.toNatClampNeg) y2) fun e_17 =>
    some (.inl (e_17, (x4 + 1)))
theorem s_X12_shorten_5b {a1 : Nat} {y2 : Int64} {x4 : Int32} {M : px_M} {L : px_L} {R : px_R} {e : ((Int64 × Int32) ⊕ (Int64))} (hS : SR sh R) (hd : 1 ≤ d) (hcu : cu ≤ mc) (hsu : su ≤ ms) (h : f_X12_shorten_5 sh L a1 y2 x4 = some e) (g : (sE (fun a => WX RX12 cX12_shorten 5 none ("shorten", []) d mc ms X (px_QF Post mc ms) 5 [(1, .ref a1), (2, .long a.1), (4, .int a.2)] [] sh M L R n cu su) (fun t => WX RX12 cX12_shorten 5 none ("shorten", []) d mc ms X (px_QF Post mc ms) 27 [(1, .ref a1), (2, .long t)] [] sh M L R n cu su)) e) : WX RX12 cX12_shorten 5 none ("shorten", []) d mc ms X (px_QF Post mc ms) 5 [(1, .ref a1), (2, .long y2), (4, .int x4)] [] sh M L R n cu su := by
  unfold f_X12_shorten_5 at h
  refine wx_iload dX12_shorten_5 rfl ?_
  refine wx_bipush (v := 7) dX12_shorten_7 (by decide) ?_
  refine wx_icmp_ge (tgt := 27) dX12_shorten_9 (by decide) (fun c_9 => ?_) (fun c_9 => ?_)
  · replace h := it_t h c_9
    obtain rfl := Option.some.inj h
    replace g := sE_r g
    exact wx_sub g (px_s rfl (px_s rfl px_0))
  · replace h := it_f h c_9
    refine wx_aload_n dX12_shorten_12 rfl ?_
    refine wx_iload dX12_shorten_13 rfl ?_
    obtain ⟨w_15, h⟩ := ok_some h
    obtain ⟨ln_15, wt_15, wi_15⟩ := xk_some w_15
    refine wx_lald dX12_shorten_15 wt_15 wi_15 ?_
    refine wx_lload_n dX12_shorten_16 rfl ?_
    obtain ⟨e_17, k_17, h⟩ := bd1_some h
    refine wx_cSl dX12_shorten_17 ml_X12_459 my_X12_divisor sv_X12_divisor (s_X12_divisor (d := d - 1) hS (by omega) k_17) rfl (by omega) (by exact Nat.le_of_ble_eq_true rfl) hcu hsu ?_
    refine wx_lstore_n (lv' := [(2, _), (1, _), (4, _)]) dX12_shorten_20 (by decide) rfl ?_
    refine wx_iinc (lv' := [(4, _), (2, _), (1, _)]) dX12_shorten_21 rfl (i_1 _) (by decide) rfl ?_
    refine wx_goto (tgt := 5) dX12_shorten_24 (by decide) ?_
    obtain rfl := Option.some.inj h
    replace g := sE_l g
    exact wx_sub g (px_s rfl (px_s rfl (px_s rfl px_0)))
theorem s_X12_shorten_5 {a1 : Nat} {y2 : Int64} {x4 : Int32} {M : px_M} {L : px_L} {R : px_R} {e : (Int64)} (hS : SR sh R) (hd : 1 ≤ d) (hcu : cu ≤ mc) (hsu : su ≤ ms) (h : lpf (fun a : Int64 × Int32 => f_X12_shorten_5 sh L a1 a.1 a.2) (y2, x4) = some e) (g : WX RX12 cX12_shorten 5 none ("shorten", []) d mc ms X (px_QF Post mc ms) 27 [(1, .ref a1), (2, .long e)] [] sh M L R n cu su) : WX RX12 cX12_shorten 5 none ("shorten", []) d mc ms X (px_QF Post mc ms) 5 [(1, .ref a1), (2, .long y2), (4, .int x4)] [] sh M L R n cu su := by
  have key := lpf_wp (P := (fun a => WX RX12 cX12_shorten 5 none ("shorten", []) d mc ms X (px_QF Post mc ms) 5 [(1, .ref a1), (2, .long a.1), (4, .int a.2)] [] sh M L R n cu su)) (G := (fun t => WX RX12 cX12_shorten 5 none ("shorten", []) d mc ms X (px_QF Post mc ms) 27 [(1, .ref a1), (2, .long t)] [] sh M L R n cu su)) (fun a r h g => s_X12_shorten_5b (a1 := a1) (y2 := a.1) (x4 := a.2) (M := M) (L := L) (R := R) hS hd hcu hsu h g) (a := (y2, x4)) h g
  exact key
noncomputable def f_X12_shorten (sh : px_Sh) (L : px_L) (a1 : Nat) : Option (px_L) :=
  bd1 (lpf (fun a : Int64 × Int32 => f_X12_shorten_5 sh L a1 a.1 a.2) (0, 0)) fun e_5 =>
  bd1 (lpf (fun a : Int32 × px_L => f_X12_shorten_30 sh a.2 a1 e_5 a.1) (0, L)) fun e_30 =>
  some e_30
theorem s_X12_shorten {d : Nat} {X : Nat × (Nat → Int32)} {sh : px_Sh} {M : px_M} {L : px_L} {R : px_R} {n : Nat} {a1 : Nat} {e : px_L} (hS : SR sh R) (hd : 1 ≤ d) (h : f_X12_shorten sh L a1 = some e) : MX yX12_shorten cX12_shorten 5 none d 0 0 X [.ref 73, .ref a1] sh M L R n (px_pu none sh M e R n) := by
  refine MX.of (by decide +kernel) (by exact Nat.le_of_ble_eq_true rfl) ?_
  have hcu : 0 ≤ 0 := Nat.zero_le _
  have hsu : 0 ≤ 0 := Nat.zero_le _
  have g : px_pu none sh M e R n none sh M e R n := ⟨rfl, rfl, rfl, rfl, rfl, rfl⟩
  unfold f_X12_shorten at h
  refine wx_lconst (v := 0) dX12_shorten_0 (by decide) ?_
  refine wx_lstore_n (lv' := [(2, _), (0, _), (1, _)]) dX12_shorten_1 (by decide) rfl ?_
  refine wx_iconst (v := 0) dX12_shorten_2 (by decide) ?_
  refine wx_istore (lv' := [(4, _), (2, _), (0, _), (1, _)]) dX12_shorten_3 (by decide) rfl ?_
  obtain ⟨e_5, k_5, h⟩ := bd1_some h
  refine wx_sub (s_X12_shorten_5 hS hd hcu hsu k_5 ?_) (px_s rfl (px_s rfl (px_s rfl px_0)))
  refine wx_iconst (v := 0) dX12_shorten_27 (by decide) ?_
  refine wx_istore (lv' := [(4, _), (1, _), (2, _)]) dX12_shorten_28 (by decide) rfl ?_
  obtain ⟨e_30, k_30, h⟩ := bd1_some h
  refine wx_sub (s_X12_shorten_30 hS hd hcu hsu k_30 ?_) (px_s rfl (px_s rfl (px_s rfl px_0)))
  refine wx_vret dX12_shorten_57 hcu hsu ?_
  obtain rfl := Option.some.inj h
  exact g
noncomputable def f_X12_solves_238 (sh : px_Sh) (M : px_M) (L : px_L) (R : px_R) (x1 : Int32) (x3 : Int32) (x4 : Int32) (x5 : Int32) (x6 : Int32) (y7 : Int64) (y9 : Int64) (y11 : Int64) (x13 : Int32) (z0 : Int64) (z1 : Int32) (z2 : Nat) : Option ((Int32 × px_L) ⊕ (px_L)) :=
  ok (xk sh z2 14 z1) <|
  nm (px_u L z2 z1.toNatClampNeg z0) fun L_238 =>
  some (.inl ((x13 + 1), L_238))
theorem s_X12_solves_238 {x1 : Int32} {x3 : Int32} {x4 : Int32} {x5 : Int32} {x6 : Int32} {y7 : Int64} {y9 : Int64} {y11 : Int64} {x13 : Int32} {z0 : Int64} {z1 : Int32} {z2 : Nat} {M : px_M} {L : px_L} {R : px_R} {e : ((Int32 × px_L) ⊕ (px_L))} (hS : SR sh R) (hd : 2 ≤ d) (hcu : cu ≤ mc) (hsu : su ≤ ms) (h : f_X12_solves_238 sh M L R x1 x3 x4 x5 x6 y7 y9 y11 x13 z0 z1 z2 = some e) (g : (sE (fun a => WX RX12 cX12_solves 14 (some .boolean) ("solves", []) d mc ms X (px_QF Post mc ms) 168 [(0, .ref 73), (1, .int x1), (3, .int x3), (4, .int x4), (5, .int x5), (6, .int x6), (7, .long y7), (9, .long y9), (11, .long y11), (13, .int a.1)] [] sh M (a.2) R n cu su) (fun t => WX RX12 cX12_solves 14 (some .boolean) ("solves", []) d mc ms X (px_QF Post mc ms) 245 [(0, .ref 73), (1, .int x1), (3, .int x3), (4, .int x4), (5, .int x5), (6, .int x6)] [] sh M t R n cu su)) e) : WX RX12 cX12_solves 14 (some .boolean) ("solves", []) d mc ms X (px_QF Post mc ms) 238 [(0, .ref 73), (1, .int x1), (3, .int x3), (4, .int x4), (5, .int x5), (6, .int x6), (7, .long y7), (9, .long y9), (11, .long y11), (13, .int x13)] [.long z0, .int z1, .ref z2] sh M L R n cu su := by
  unfold f_X12_solves_238 at h
  obtain ⟨w_238, h⟩ := ok_some h
  obtain ⟨ln_238, wt_238, wi_238⟩ := xk_some w_238
  refine wx_last dX12_solves_238 wt_238 wi_238 ?_
  refine wx_namL (fun L_238 q_238 => ?_)
  replace h := nm_at h q_238
  refine wx_iinc (lv' := [(13, _), (0, _), (1, _), (3, _), (4, _), (5, _), (6, _), (7, _), (9, _), (11, _)]) dX12_solves_239 rfl (i_1 _) (by decide) rfl ?_
  refine wx_goto (tgt := 168) dX12_solves_242 (by decide) ?_
  obtain rfl := Option.some.inj h
  replace g := sE_l g
  exact wx_sub g (px_s rfl (px_s rfl (px_s rfl (px_s rfl (px_s rfl (px_s rfl (px_s rfl (px_s rfl (px_s rfl (px_s rfl px_0))))))))))
noncomputable def f_X12_solves_201 (sh : px_Sh) (M : px_M) (L : px_L) (R : px_R) (x1 : Int32) (x3 : Int32) (x4 : Int32) (x5 : Int32) (x6 : Int32) (y7 : Int64) (y9 : Int64) (y11 : Int64) (x13 : Int32) (z0 : Int32) (z1 : Nat) : Option ((Int32 × px_L) ⊕ (px_L)) :=
  ok (nz y11 0) <|
  ok (ix x6 12) <|
  bd1 (R 199 x6.toNatClampNeg) fun b_212 =>
  ok (xk sh b_212 14 x13) <|
  ok (nz y11 0) <|
  ok (ix x5 12) <|
  bd1 (R 199 x5.toNatClampNeg) fun b_228 =>
  ok (xk sh b_228 14 x13) <|
  f_X12_solves_238 sh M L R x1 x3 x4 x5 x6 y7 y9 y11 x13 (((y7 / y11) * (L b_212 x13.toNatClampNeg)) - ((y9 / y11) * (L b_228 x13.toNatClampNeg))) z0 z1
theorem s_X12_solves_201 {x1 : Int32} {x3 : Int32} {x4 : Int32} {x5 : Int32} {x6 : Int32} {y7 : Int64} {y9 : Int64} {y11 : Int64} {x13 : Int32} {z0 : Int32} {z1 : Nat} {M : px_M} {L : px_L} {R : px_R} {e : ((Int32 × px_L) ⊕ (px_L))} (hS : SR sh R) (hd : 2 ≤ d) (hcu : cu ≤ mc) (hsu : su ≤ ms) (h : f_X12_solves_201 sh M L R x1 x3 x4 x5 x6 y7 y9 y11 x13 z0 z1 = some e) (g : (sE (fun a => WX RX12 cX12_solves 14 (some .boolean) ("solves", []) d mc ms X (px_QF Post mc ms) 168 [(0, .ref 73), (1, .int x1), (3, .int x3), (4, .int x4), (5, .int x5), (6, .int x6), (7, .long y7), (9, .long y9), (11, .long y11), (13, .int a.1)] [] sh M (a.2) R n cu su) (fun t => WX RX12 cX12_solves 14 (some .boolean) ("solves", []) d mc ms X (px_QF Post mc ms) 245 [(0, .ref 73), (1, .int x1), (3, .int x3), (4, .int x4), (5, .int x5), (6, .int x6)] [] sh M t R n cu su)) e) : WX RX12 cX12_solves 14 (some .boolean) ("solves", []) d mc ms X (px_QF Post mc ms) 201 [(0, .ref 73), (1, .int x1), (3, .int x3), (4, .int x4), (5, .int x5), (6, .int x6), (7, .long y7), (9, .long y9), (11, .long y11), (13, .int x13)] [.int z0, .ref z1] sh M L R n cu su := by
  unfold f_X12_solves_201 at h
  refine wx_lload dX12_solves_201 rfl ?_
  refine wx_lload dX12_solves_203 rfl ?_
  obtain ⟨w_205, h⟩ := ok_some h
  refine wx_ldiv dX12_solves_205 (nz_n w_205) ?_
  refine wx_aload_n dX12_solves_206 rfl ?_
  refine wx_getR dX12_solves_207 fl_X12_154 (sc_73 hS) rfl (rr_73_67 hS) ?_
  refine wx_iload dX12_solves_210 rfl ?_
  obtain ⟨w_212, h⟩ := ok_some h
  obtain ⟨b_212, wr_212, h⟩ := bd1_some h
  refine wx_aald dX12_solves_212 (sc_199 hS) (by decide) (by decide) (ix_in w_212) wr_212 ?_
  refine wx_iload dX12_solves_213 rfl ?_
  obtain ⟨w_215, h⟩ := ok_some h
  obtain ⟨ln_215, wt_215, wi_215⟩ := xk_some w_215
  refine wx_lald dX12_solves_215 wt_215 wi_215 ?_
  refine wx_lmul dX12_solves_216 ?_
  refine wx_lload dX12_solves_217 rfl ?_
  refine wx_lload dX12_solves_219 rfl ?_
  obtain ⟨w_221, h⟩ := ok_some h
  refine wx_ldiv dX12_solves_221 (nz_n w_221) ?_
  refine wx_aload_n dX12_solves_222 rfl ?_
  refine wx_getR dX12_solves_223 fl_X12_154 (sc_73 hS) rfl (rr_73_67 hS) ?_
  refine wx_iload dX12_solves_226 rfl ?_
  obtain ⟨w_228, h⟩ := ok_some h
  obtain ⟨b_228, wr_228, h⟩ := bd1_some h
  refine wx_aald dX12_solves_228 (sc_199 hS) (by decide) (by decide) (ix_in w_228) wr_228 ?_
  refine wx_iload dX12_solves_229 rfl ?_
  obtain ⟨w_231, h⟩ := ok_some h
  obtain ⟨ln_231, wt_231, wi_231⟩ := xk_some w_231
  refine wx_lald dX12_solves_231 wt_231 wi_231 ?_
  refine wx_lmul dX12_solves_232 ?_
  refine wx_lsub dX12_solves_233 ?_
  refine wx_goto (tgt := 238) dX12_solves_234 (by decide) ?_
  exact wx_sub (s_X12_solves_238 hS hd hcu hsu h g) (px_s rfl (px_s rfl (px_s rfl (px_s rfl (px_s rfl (px_s rfl (px_s rfl (px_s rfl (px_s rfl (px_s rfl px_0))))))))))
noncomputable def f_X12_solves_168 (sh : px_Sh) (M : px_M) (L : px_L) (R : px_R) (x1 : Int32) (x3 : Int32) (x4 : Int32) (x5 : Int32) (x6 : Int32) (y7 : Int64) (y9 : Int64) (y11 : Int64) (x13 : Int32) : Option ((Int32 × px_L) ⊕ (px_L)) :=
  if 7 ≤ x13 then
    some (.inr L)
  else
    ok (ix x6 12) <|
    bd1 (R 199 x6.toNatClampNeg) fun b_181 =>
    if ((x1 >>> (x13 &&& 31)) &&& 1) = 1 then
      f_X12_solves_201 sh M L R x1 x3 x4 x5 x6 y7 y9 y11 x13 x13 b_181
    else
      if x13 = 6 then
        f_X12_solves_201 sh M L R x1 x3 x4 x5 x6 y7 y9 y11 x13 x13 b_181
      else
        f_X12_solves_238 sh M L R x1 x3 x4 x5 x6 y7 y9 y11 x13 0 x13 b_181
theorem s_X12_solves_168b {x1 : Int32} {x3 : Int32} {x4 : Int32} {x5 : Int32} {x6 : Int32} {y7 : Int64} {y9 : Int64} {y11 : Int64} {x13 : Int32} {M : px_M} {L : px_L} {R : px_R} {e : ((Int32 × px_L) ⊕ (px_L))} (hS : SR sh R) (hd : 2 ≤ d) (hcu : cu ≤ mc) (hsu : su ≤ ms) (h : f_X12_solves_168 sh M L R x1 x3 x4 x5 x6 y7 y9 y11 x13 = some e) (g : (sE (fun a => WX RX12 cX12_solves 14 (some .boolean) ("solves", []) d mc ms X (px_QF Post mc ms) 168 [(0, .ref 73), (1, .int x1), (3, .int x3), (4, .int x4), (5, .int x5), (6, .int x6), (7, .long y7), (9, .long y9), (11, .long y11), (13, .int a.1)] [] sh M (a.2) R n cu su) (fun t => WX RX12 cX12_solves 14 (some .boolean) ("solves", []) d mc ms X (px_QF Post mc ms) 245 [(0, .ref 73), (1, .int x1), (3, .int x3), (4, .int x4), (5, .int x5), (6, .int x6)] [] sh M t R n cu su)) e) : WX RX12 cX12_solves 14 (some .boolean) ("solves", []) d mc ms X (px_QF Post mc ms) 168 [(0, .ref 73), (1, .int x1), (3, .int x3), (4, .int x4), (5, .int x5), (6, .int x6), (7, .long y7), (9, .long y9), (11, .long y11), (13, .int x13)] [] sh M L R n cu su := by
  unfold f_X12_solves_168 at h
  refine wx_iload dX12_solves_168 rfl ?_
  refine wx_bipush (v := 7) dX12_solves_170 (by decide) ?_
  refine wx_icmp_ge (tgt := 245) dX12_solves_172 (by decide) (fun c_172 => ?_) (fun c_172 => ?_)
  · replace h := it_t h c_172
    obtain rfl := Option.some.inj h
    replace g := sE_r g
    exact wx_sub g (px_s rfl (px_s rfl (px_s rfl (px_s rfl (px_s rfl (px_s rfl px_0))))))
  · replace h := it_f h c_172
    refine wx_aload_n dX12_solves_175 rfl ?_
    refine wx_getR dX12_solves_176 fl_X12_154 (sc_73 hS) rfl (rr_73_67 hS) ?_
    refine wx_iload dX12_solves_179 rfl ?_
    obtain ⟨w_181, h⟩ := ok_some h
    obtain ⟨b_181, wr_181, h⟩ := bd1_some h
    refine wx_aald dX12_solves_181 (sc_199 hS) (by decide) (by decide) (ix_in w_181) wr_181 ?_
    refine wx_iload dX12_solves_182 rfl ?_
    refine wx_iload_n dX12_solves_184 rfl ?_
    refine wx_iload dX12_solves_185 rfl ?_
    refine wx_ishr dX12_solves_187 ?_
    refine wx_iconst (v := 1) dX12_solves_188 (by decide) ?_
    refine wx_iand dX12_solves_189 ?_
    refine wx_iconst (v := 1) dX12_solves_190 (by decide) ?_
    refine wx_icmp_eq (tgt := 201) dX12_solves_191 (by decide) (fun c_191 => ?_) (fun c_191 => ?_)
    · replace h := it_t h c_191
      exact wx_sub (s_X12_solves_201 hS hd hcu hsu h g) (px_s rfl (px_s rfl (px_s rfl (px_s rfl (px_s rfl (px_s rfl (px_s rfl (px_s rfl (px_s rfl (px_s rfl px_0))))))))))
    · replace h := it_f h c_191
      refine wx_iload dX12_solves_194 rfl ?_
      refine wx_bipush (v := 6) dX12_solves_196 (by decide) ?_
      refine wx_icmp_ne (tgt := 237) dX12_solves_198 (by decide) (fun c_198 => ?_) (fun c_198 => ?_)
      · replace h := it_f h c_198
        refine wx_lconst (v := 0) dX12_solves_237 (by decide) ?_
        exact wx_sub (s_X12_solves_238 hS hd hcu hsu h g) (px_s rfl (px_s rfl (px_s rfl (px_s rfl (px_s rfl (px_s rfl (px_s rfl (px_s rfl (px_s rfl (px_s rfl px_0))))))))))
      · replace h := it_t h c_198
        exact wx_sub (s_X12_solves_201 hS hd hcu hsu h g) (px_s rfl (px_s rfl (px_s rfl (px_s rfl (px_s rfl (px_s rfl (px_s rfl (px_s rfl (px_s rfl (px_s rfl px_0))))))))))
theorem s_X12_solves_168 {x1 : Int32} {x3 : Int32} {x4 : Int32} {x5 : Int32} {x6 : Int32} {y7 : Int64} {y9 : Int64} {y11 : Int64} {x13 : Int32} {M : px_M} {L : px_L} {R : px_R} {e : (px_L)} (hS : SR sh R) (hd : 2 ≤ d) (hcu : cu ≤ mc) (hsu : su ≤ ms) (h : lpf (fun a : Int32 × px_L => f_X12_solves_168 sh M a.2 R x1 x3 x4 x5 x6 y7 y9 y11 a.1) (x13, L) = some e) (g : WX RX12 cX12_solves 14 (some .boolean) ("solves", []) d mc ms X (px_QF Post mc ms) 245 [(0, .ref 73), (1, .int x1), (3, .int x3), (4, .int x4), (5, .int x5), (6, .int x6)] [] sh M e R n cu su) : WX RX12 cX12_solves 14 (some .boolean) ("solves", []) d mc ms X (px_QF Post mc ms) 168 [(0, .ref 73), (1, .int x1), (3, .int x3), (4, .int x4), (5, .int x5), (6, .int x6), (7, .long y7), (9, .long y9), (11, .long y11), (13, .int x13)] [] sh M L R n cu su := by
  have key := lpf_wp (P := (fun a => WX RX12 cX12_solves 14 (some .boolean) ("solves", []) d mc ms X (px_QF Post mc ms) 168 [(0, .ref 73), (1, .int x1), (3, .int x3), (4, .int x4), (5, .int x5), (6, .int x6), (7, .long y7), (9, .long y9), (11, .long y11), (13, .int a.1)] [] sh M (a.2) R n cu su)) (G := (fun t => WX RX12 cX12_solves 14 (some .boolean) ("solves", []) d mc ms X (px_QF Post mc ms) 245 [(0, .ref 73), (1, .int x1), (3, .int x3), (4, .int x4), (5, .int x5), (6, .int x6)] [] sh M t R n cu su)) (fun a r h g => s_X12_solves_168b (x1 := x1) (x3 := x3) (x4 := x4) (x5 := x5) (x6 := x6) (y7 := y7) (y9 := y9) (y11 := y11) (x13 := a.1) (M := M) (L := a.2) (R := R) hS hd hcu hsu h g) (a := (x13, L)) h g
  exact key
noncomputable def f_X12_solves_256 (sh : px_Sh) (M : px_M) (L : px_L) (R : px_R) (x1 : Int32) (x3 : Int32) (x4 : Int32) (x5 : Int32) (x6 : Int32) : Option ((Int32 × px_L) ⊕ (px_L)) :=
  some (.inl ((x6 + 1), L))
theorem s_X12_solves_256 {x1 : Int32} {x3 : Int32} {x4 : Int32} {x5 : Int32} {x6 : Int32} {M : px_M} {L : px_L} {R : px_R} {e : ((Int32 × px_L) ⊕ (px_L))} (hS : SR sh R) (hd : 2 ≤ d) (hcu : cu ≤ mc) (hsu : su ≤ ms) (h : f_X12_solves_256 sh M L R x1 x3 x4 x5 x6 = some e) (g : (sE (fun a => WX RX12 cX12_solves 14 (some .boolean) ("solves", []) d mc ms X (px_QF Post mc ms) 100 [(0, .ref 73), (1, .int x1), (3, .int x3), (4, .int x4), (5, .int x5), (6, .int a.1)] [] sh M (a.2) R n cu su) (fun t => WX RX12 cX12_solves 14 (some .boolean) ("solves", []) d mc ms X (px_QF Post mc ms) 262 [(0, .ref 73), (1, .int x1), (3, .int x3), (4, .int x4)] [] sh M t R n cu su)) e) : WX RX12 cX12_solves 14 (some .boolean) ("solves", []) d mc ms X (px_QF Post mc ms) 256 [(0, .ref 73), (1, .int x1), (3, .int x3), (4, .int x4), (5, .int x5), (6, .int x6)] [] sh M L R n cu su := by
  unfold f_X12_solves_256 at h
  refine wx_iinc (lv' := [(6, _), (0, _), (1, _), (3, _), (4, _), (5, _)]) dX12_solves_256 rfl (i_1 _) (by decide) rfl ?_
  refine wx_goto (tgt := 100) dX12_solves_259 (by decide) ?_
  obtain rfl := Option.some.inj h
  replace g := sE_l g
  exact wx_sub g (px_s rfl (px_s rfl (px_s rfl (px_s rfl (px_s rfl (px_s rfl px_0))))))
noncomputable def f_X12_solves_100 (sh : px_Sh) (M : px_M) (L : px_L) (R : px_R) (x1 : Int32) (x3 : Int32) (x4 : Int32) (x5 : Int32) (x6 : Int32) : Option ((Int32 × px_L) ⊕ (px_L)) :=
  if 12 ≤ x6 then
    some (.inr L)
  else
    if x6 = x5 then
      f_X12_solves_256 sh M L R x1 x3 x4 x5 x6
    else
      ok (ix x6 12) <|
      bd1 (R 199 x6.toNatClampNeg) fun b_120 =>
      ok (xk sh b_120 14 x4) <|
      if (lg_cmp (L b_120 x4.toNatClampNeg) 0) = 0 then
        f_X12_solves_256 sh M L R x1 x3 x4 x5 x6
      else
        ok (ix x5 12) <|
        bd1 (R 199 x5.toNatClampNeg) fun b_138 =>
        ok (xk sh b_138 14 x4) <|
        nm (L b_138 x4.toNatClampNeg) fun v_142 =>
        ok (ix x6 12) <|
        bd1 (R 199 x6.toNatClampNeg) fun b_150 =>
        ok (xk sh b_150 14 x4) <|
        nm (L b_150 x4.toNatClampNeg) fun v_154 =>
        bd1 (f_X12_divisor v_142 v_154) fun e_160 =>
        bd1 (lpf (fun a : Int32 × px_L => f_X12_solves_168 sh M a.2 R x1 x3 x4 x5 x6 v_142 v_154 e_160 a.1) (0, L)) fun e_168 =>
        ok (ix x6 12) <|
        bd1 (R 199 x6.toNatClampNeg) fun b_252 =>
        bd1 (f_X12_shorten sh e_168 b_252) fun e_253 =>
        f_X12_solves_256 sh M e_253 R x1 x3 x4 x5 x6
theorem s_X12_solves_100b {x1 : Int32} {x3 : Int32} {x4 : Int32} {x5 : Int32} {x6 : Int32} {M : px_M} {L : px_L} {R : px_R} {e : ((Int32 × px_L) ⊕ (px_L))} (hS : SR sh R) (hd : 2 ≤ d) (hcu : cu ≤ mc) (hsu : su ≤ ms) (h : f_X12_solves_100 sh M L R x1 x3 x4 x5 x6 = some e) (g : (sE (fun a => WX RX12 cX12_solves 14 (some .boolean) ("solves", []) d mc ms X (px_QF Post mc ms) 100 [(0, .ref 73), (1, .int x1), (3, .int x3), (4, .int x4), (5, .int x5), (6, .int a.1)] [] sh M (a.2) R n cu su) (fun t => WX RX12 cX12_solves 14 (some .boolean) ("solves", []) d mc ms X (px_QF Post mc ms) 262 [(0, .ref 73), (1, .int x1), (3, .int x3), (4, .int x4)] [] sh M t R n cu su)) e) : WX RX12 cX12_solves 14 (some .boolean) ("solves", []) d mc ms X (px_QF Post mc ms) 100 [(0, .ref 73), (1, .int x1), (3, .int x3), (4, .int x4), (5, .int x5), (6, .int x6)] [] sh M L R n cu su := by
  unfold f_X12_solves_100 at h
  refine wx_iload dX12_solves_100 rfl ?_
  refine wx_bipush (v := 12) dX12_solves_102 (by decide) ?_
  refine wx_icmp_ge (tgt := 262) dX12_solves_104 (by decide) (fun c_104 => ?_) (fun c_104 => ?_)
  · replace h := it_t h c_104
    obtain rfl := Option.some.inj h
    replace g := sE_r g
    exact wx_sub g (px_s rfl (px_s rfl (px_s rfl (px_s rfl px_0))))
  · replace h := it_f h c_104
    refine wx_iload dX12_solves_107 rfl ?_
    refine wx_iload dX12_solves_109 rfl ?_
    refine wx_icmp_eq (tgt := 256) dX12_solves_111 (by decide) (fun c_111 => ?_) (fun c_111 => ?_)
    · replace h := it_t h c_111
      exact wx_sub (s_X12_solves_256 hS hd hcu hsu h g) (px_s rfl (px_s rfl (px_s rfl (px_s rfl (px_s rfl (px_s rfl px_0))))))
    · replace h := it_f h c_111
      refine wx_aload_n dX12_solves_114 rfl ?_
      refine wx_getR dX12_solves_115 fl_X12_154 (sc_73 hS) rfl (rr_73_67 hS) ?_
      refine wx_iload dX12_solves_118 rfl ?_
      obtain ⟨w_120, h⟩ := ok_some h
      obtain ⟨b_120, wr_120, h⟩ := bd1_some h
      refine wx_aald dX12_solves_120 (sc_199 hS) (by decide) (by decide) (ix_in w_120) wr_120 ?_
      refine wx_iload dX12_solves_121 rfl ?_
      obtain ⟨w_123, h⟩ := ok_some h
      obtain ⟨ln_123, wt_123, wi_123⟩ := xk_some w_123
      refine wx_lald dX12_solves_123 wt_123 wi_123 ?_
      refine wx_lconst (v := 0) dX12_solves_124 (by decide) ?_
      refine wx_lcmp dX12_solves_125 ?_
      refine wx_if_ne (tgt := 132) dX12_solves_126 (by decide) (fun c_126 => ?_) (fun c_126 => ?_)
      · replace h := it_f h c_126
        refine wx_aload_n dX12_solves_132 rfl ?_
        refine wx_getR dX12_solves_133 fl_X12_154 (sc_73 hS) rfl (rr_73_67 hS) ?_
        refine wx_iload dX12_solves_136 rfl ?_
        obtain ⟨w_138, h⟩ := ok_some h
        obtain ⟨b_138, wr_138, h⟩ := bd1_some h
        refine wx_aald dX12_solves_138 (sc_199 hS) (by decide) (by decide) (ix_in w_138) wr_138 ?_
        refine wx_iload dX12_solves_139 rfl ?_
        obtain ⟨w_141, h⟩ := ok_some h
        obtain ⟨ln_141, wt_141, wi_141⟩ := xk_some w_141
        refine wx_lald dX12_solves_141 wt_141 wi_141 ?_
        refine wx_naml (fun v_142 q_142 => ?_)
        replace h := nm_at h q_142
        refine wx_lstore (lv' := [(7, _), (0, _), (1, _), (3, _), (4, _), (5, _), (6, _)]) dX12_solves_142 (by decide) rfl ?_
        refine wx_aload_n dX12_solves_144 rfl ?_
        refine wx_getR dX12_solves_145 fl_X12_154 (sc_73 hS) rfl (rr_73_67 hS) ?_
        refine wx_iload dX12_solves_148 rfl ?_
        obtain ⟨w_150, h⟩ := ok_some h
        obtain ⟨b_150, wr_150, h⟩ := bd1_some h
        refine wx_aald dX12_solves_150 (sc_199 hS) (by decide) (by decide) (ix_in w_150) wr_150 ?_
        refine wx_iload dX12_solves_151 rfl ?_
        obtain ⟨w_153, h⟩ := ok_some h
        obtain ⟨ln_153, wt_153, wi_153⟩ := xk_some w_153
        refine wx_lald dX12_solves_153 wt_153 wi_153 ?_
        refine wx_naml (fun v_154 q_154 => ?_)
        replace h := nm_at h q_154
        refine wx_lstore (lv' := [(9, _), (7, _), (0, _), (1, _), (3, _), (4, _), (5, _), (6, _)]) dX12_solves_154 (by decide) rfl ?_
        refine wx_lload dX12_solves_156 rfl ?_
        refine wx_lload dX12_solves_158 rfl ?_
        obtain ⟨e_160, k_160, h⟩ := bd1_some h
        refine wx_cSl dX12_solves_160 ml_X12_459 my_X12_divisor sv_X12_divisor (s_X12_divisor (d := d - 1) hS (by omega) k_160) rfl (by omega) (by exact Nat.le_of_ble_eq_true rfl) hcu hsu ?_
        refine wx_lstore (lv' := [(11, _), (9, _), (7, _), (0, _), (1, _), (3, _), (4, _), (5, _), (6, _)]) dX12_solves_163 (by decide) rfl ?_
        refine wx_iconst (v := 0) dX12_solves_165 (by decide) ?_
        refine wx_istore (lv' := [(13, _), (11, _), (9, _), (7, _), (0, _), (1, _), (3, _), (4, _), (5, _), (6, _)]) dX12_solves_166 (by decide) rfl ?_
        obtain ⟨e_168, k_168, h⟩ := bd1_some h
        refine wx_sub (s_X12_solves_168 hS hd hcu hsu k_168 ?_) (px_s rfl (px_s rfl (px_s rfl (px_s rfl (px_s rfl (px_s rfl (px_s rfl (px_s rfl (px_s rfl (px_s rfl px_0))))))))))
        refine wx_aload_n dX12_solves_245 rfl ?_
        refine wx_aload_n dX12_solves_246 rfl ?_
        refine wx_getR dX12_solves_247 fl_X12_154 (sc_73 hS) rfl (rr_73_67 hS) ?_
        refine wx_iload dX12_solves_250 rfl ?_
        obtain ⟨w_252, h⟩ := ok_some h
        obtain ⟨b_252, wr_252, h⟩ := bd1_some h
        refine wx_aald dX12_solves_252 (sc_199 hS) (by decide) (by decide) (ix_in w_252) wr_252 ?_
        obtain ⟨e_253, k_253, h⟩ := bd1_some h
        refine wx_cVv dX12_solves_253 ml_X12_466 my_X12_shorten iv_X12_shorten (sc_73 hS) (by decide) (s_X12_shorten (d := d - 1) hS (by omega) k_253) rfl (by omega) (by exact Nat.le_of_ble_eq_true rfl) hcu hsu ?_
        exact wx_sub (s_X12_solves_256 hS hd hcu hsu h g) (px_s rfl (px_s rfl (px_s rfl (px_s rfl (px_s rfl (px_s rfl px_0))))))
      · replace h := it_t h c_126
        refine wx_goto (tgt := 256) dX12_solves_129 (by decide) ?_
        exact wx_sub (s_X12_solves_256 hS hd hcu hsu h g) (px_s rfl (px_s rfl (px_s rfl (px_s rfl (px_s rfl (px_s rfl px_0))))))
theorem s_X12_solves_100 {x1 : Int32} {x3 : Int32} {x4 : Int32} {x5 : Int32} {x6 : Int32} {M : px_M} {L : px_L} {R : px_R} {e : (px_L)} (hS : SR sh R) (hd : 2 ≤ d) (hcu : cu ≤ mc) (hsu : su ≤ ms) (h : lpf (fun a : Int32 × px_L => f_X12_solves_100 sh M a.2 R x1 x3 x4 x5 a.1) (x6, L) = some e) (g : WX RX12 cX12_solves 14 (some .boolean) ("solves", []) d mc ms X (px_QF Post mc ms) 262 [(0, .ref 73), (1, .int x1), (3, .int x3), (4, .int x4)] [] sh M e R n cu su) : WX RX12 cX12_solves 14 (some .boolean) ("solves", []) d mc ms X (px_QF Post mc ms) 100 [(0, .ref 73), (1, .int x1), (3, .int x3), (4, .int x4), (5, .int x5), (6, .int x6)] [] sh M L R n cu su := by
  have key := lpf_wp (P := (fun a => WX RX12 cX12_solves 14 (some .boolean) ("solves", []) d mc ms X (px_QF Post mc ms) 100 [(0, .ref 73), (1, .int x1), (3, .int x3), (4, .int x4), (5, .int x5), (6, .int a.1)] [] sh M (a.2) R n cu su)) (G := (fun t => WX RX12 cX12_solves 14 (some .boolean) ("solves", []) d mc ms X (px_QF Post mc ms) 262 [(0, .ref 73), (1, .int x1), (3, .int x3), (4, .int x4)] [] sh M t R n cu su)) (fun a r h g => s_X12_solves_100b (x1 := x1) (x3 := x3) (x4 := x4) (x5 := x5) (x6 := a.1) (M := M) (L := a.2) (R := R) hS hd hcu hsu h g) (a := (x6, L)) h g
  exact key
noncomputable def f_X12_solves_66 (sh : px_Sh) (M : px_M) (L : px_L) (R : px_R) (x1 : Int32) (x3 : Int32) (x4 : Int32) (x5 : Int32) : Option ((Int32) ⊕ (Int32)) :=
  some (.inl (x5 + 1))
theorem s_X12_solves_66 {x1 : Int32} {x3 : Int32} {x4 : Int32} {x5 : Int32} {M : px_M} {L : px_L} {R : px_R} {e : ((Int32) ⊕ (Int32))} (hS : SR sh R) (hd : 2 ≤ d) (hcu : cu ≤ mc) (hsu : su ≤ ms) (h : f_X12_solves_66 sh M L R x1 x3 x4 x5 = some e) (g : (sE (fun a => WX RX12 cX12_solves 14 (some .boolean) ("solves", []) d mc ms X (px_QF Post mc ms) 34 [(0, .ref 73), (1, .int x1), (3, .int x3), (4, .int x4), (5, .int a)] [] sh M L R n cu su) (fun t => WX RX12 cX12_solves 14 (some .boolean) ("solves", []) d mc ms X (px_QF Post mc ms) 72 [(0, .ref 73), (1, .int x1), (3, .int x3), (4, .int x4), (5, .int t)] [] sh M L R n cu su)) e) : WX RX12 cX12_solves 14 (some .boolean) ("solves", []) d mc ms X (px_QF Post mc ms) 66 [(0, .ref 73), (1, .int x1), (3, .int x3), (4, .int x4), (5, .int x5)] [] sh M L R n cu su := by
  unfold f_X12_solves_66 at h
  refine wx_iinc (lv' := [(5, _), (0, _), (1, _), (3, _), (4, _)]) dX12_solves_66 rfl (i_1 _) (by decide) rfl ?_
  refine wx_goto (tgt := 34) dX12_solves_69 (by decide) ?_
  obtain rfl := Option.some.inj h
  replace g := sE_l g
  exact wx_sub g (px_s rfl (px_s rfl (px_s rfl (px_s rfl (px_s rfl px_0)))))
noncomputable def f_X12_solves_34 (sh : px_Sh) (M : px_M) (L : px_L) (R : px_R) (x1 : Int32) (x3 : Int32) (x4 : Int32) (x5 : Int32) : Option ((Int32) ⊕ (Int32)) :=
  if 12 ≤ x5 then
    some (.inr x5)
  else
    if ((x3 >>> (x5 &&& 31)) &&& 1) = 1 then
      f_X12_solves_66 sh M L R x1 x3 x4 x5
    else
      ok (ix x5 12) <|
      bd1 (R 199 x5.toNatClampNeg) fun b_57 =>
      ok (xk sh b_57 14 x4) <|
      if (lg_cmp (L b_57 x4.toNatClampNeg) 0) = 0 then
        f_X12_solves_66 sh M L R x1 x3 x4 x5
      else
        some (.inr x5)
theorem s_X12_solves_34b {x1 : Int32} {x3 : Int32} {x4 : Int32} {x5 : Int32} {M : px_M} {L : px_L} {R : px_R} {e : ((Int32) ⊕ (Int32))} (hS : SR sh R) (hd : 2 ≤ d) (hcu : cu ≤ mc) (hsu : su ≤ ms) (h : f_X12_solves_34 sh M L R x1 x3 x4 x5 = some e) (g : (sE (fun a => WX RX12 cX12_solves 14 (some .boolean) ("solves", []) d mc ms X (px_QF Post mc ms) 34 [(0, .ref 73), (1, .int x1), (3, .int x3), (4, .int x4), (5, .int a)] [] sh M L R n cu su) (fun t => WX RX12 cX12_solves 14 (some .boolean) ("solves", []) d mc ms X (px_QF Post mc ms) 72 [(0, .ref 73), (1, .int x1), (3, .int x3), (4, .int x4), (5, .int t)] [] sh M L R n cu su)) e) : WX RX12 cX12_solves 14 (some .boolean) ("solves", []) d mc ms X (px_QF Post mc ms) 34 [(0, .ref 73), (1, .int x1), (3, .int x3), (4, .int x4), (5, .int x5)] [] sh M L R n cu su := by
  unfold f_X12_solves_34 at h
  refine wx_iload dX12_solves_34 rfl ?_
  refine wx_bipush (v := 12) dX12_solves_36 (by decide) ?_
  refine wx_icmp_ge (tgt := 72) dX12_solves_38 (by decide) (fun c_38 => ?_) (fun c_38 => ?_)
  · replace h := it_t h c_38
    obtain rfl := Option.some.inj h
    replace g := sE_r g
    exact wx_sub g (px_s rfl (px_s rfl (px_s rfl (px_s rfl (px_s rfl px_0)))))
  · replace h := it_f h c_38
    refine wx_iload_n dX12_solves_41 rfl ?_
    refine wx_iload dX12_solves_42 rfl ?_
    refine wx_ishr dX12_solves_44 ?_
    refine wx_iconst (v := 1) dX12_solves_45 (by decide) ?_
    refine wx_iand dX12_solves_46 ?_
    refine wx_iconst (v := 1) dX12_solves_47 (by decide) ?_
    refine wx_icmp_eq (tgt := 66) dX12_solves_48 (by decide) (fun c_48 => ?_) (fun c_48 => ?_)
    · replace h := it_t h c_48
      exact wx_sub (s_X12_solves_66 hS hd hcu hsu h g) (px_s rfl (px_s rfl (px_s rfl (px_s rfl (px_s rfl px_0)))))
    · replace h := it_f h c_48
      refine wx_aload_n dX12_solves_51 rfl ?_
      refine wx_getR dX12_solves_52 fl_X12_154 (sc_73 hS) rfl (rr_73_67 hS) ?_
      refine wx_iload dX12_solves_55 rfl ?_
      obtain ⟨w_57, h⟩ := ok_some h
      obtain ⟨b_57, wr_57, h⟩ := bd1_some h
      refine wx_aald dX12_solves_57 (sc_199 hS) (by decide) (by decide) (ix_in w_57) wr_57 ?_
      refine wx_iload dX12_solves_58 rfl ?_
      obtain ⟨w_60, h⟩ := ok_some h
      obtain ⟨ln_60, wt_60, wi_60⟩ := xk_some w_60
      refine wx_lald dX12_solves_60 wt_60 wi_60 ?_
      refine wx_lconst (v := 0) dX12_solves_61 (by decide) ?_
      refine wx_lcmp dX12_solves_62 ?_
      refine wx_if_ne (tgt := 72) dX12_solves_63 (by decide) (fun c_63 => ?_) (fun c_63 => ?_)
      · replace h := it_f h c_63
        obtain rfl := Option.some.inj h
        replace g := sE_r g
        exact wx_sub g (px_s rfl (px_s rfl (px_s rfl (px_s rfl (px_s rfl px_0)))))
      · replace h := it_t h c_63
        exact wx_sub (s_X12_solves_66 hS hd hcu hsu h g) (px_s rfl (px_s rfl (px_s rfl (px_s rfl (px_s rfl px_0)))))
theorem s_X12_solves_34 {x1 : Int32} {x3 : Int32} {x4 : Int32} {x5 : Int32} {M : px_M} {L : px_L} {R : px_R} {e : (Int32)} (hS : SR sh R) (hd : 2 ≤ d) (hcu : cu ≤ mc) (hsu : su ≤ ms) (h : lpf (fun a : Int32 => f_X12_solves_34 sh M L R x1 x3 x4 a) x5 = some e) (g : WX RX12 cX12_solves 14 (some .boolean) ("solves", []) d mc ms X (px_QF Post mc ms) 72 [(0, .ref 73), (1, .int x1), (3, .int x3), (4, .int x4), (5, .int e)] [] sh M L R n cu su) : WX RX12 cX12_solves 14 (some .boolean) ("solves", []) d mc ms X (px_QF Post mc ms) 34 [(0, .ref 73), (1, .int x1), (3, .int x3), (4, .int x4), (5, .int x5)] [] sh M L R n cu su := by
  have key := lpf_wp (P := (fun a => WX RX12 cX12_solves 14 (some .boolean) ("solves", []) d mc ms X (px_QF Post mc ms) 34 [(0, .ref 73), (1, .int x1), (3, .int x3), (4, .int x4), (5, .int a)] [] sh M L R n cu su)) (G := (fun t => WX RX12 cX12_solves 14 (some .boolean) ("solves", []) d mc ms X (px_QF Post mc ms) 72 [(0, .ref 73), (1, .int x1), (3, .int x3), (4, .int x4), (5, .int t)] [] sh M L R n cu su)) (fun a r h g => s_X12_solves_34b (x1 := x1) (x3 := x3) (x4 := x4) (x5 := a) (M := M) (L := L) (R := R) hS hd hcu hsu h g) (a := x5) h g
  exact key
noncomputable def f_X12_solves_463 (sh : px_Sh) (M : px_M) (L : px_L) (R : px_R) (x1 : Int32) (x4 : Int32) : Option ((Int32 × px_L) ⊕ ((px_L) ⊕ (px_L))) :=
  some (.inl ((x4 + 1), L))
theorem s_X12_solves_463 {x1 : Int32} {x4 : Int32} {M : px_M} {L : px_L} {R : px_R} {e : ((Int32 × px_L) ⊕ ((px_L) ⊕ (px_L)))} (hS : SR sh R) (hd : 2 ≤ d) (hcu : cu ≤ mc) (hsu : su ≤ ms) (h : f_X12_solves_463 sh M L R x1 x4 = some e) (g : (sE (fun a => WX RX12 cX12_solves 14 (some .boolean) ("solves", []) d mc ms X (px_QF Post mc ms) 313 [(0, .ref 73), (1, .int x1), (4, .int a.1)] [] sh M (a.2) R n cu su) (sE (fun t => WX RX12 cX12_solves 14 (some .boolean) ("solves", []) d mc ms X (px_QF Post mc ms) 461 [] [] sh M t R n cu su) (fun t => WX RX12 cX12_solves 14 (some .boolean) ("solves", []) d mc ms X (px_QF Post mc ms) 469 [] [] sh M t R n cu su))) e) : WX RX12 cX12_solves 14 (some .boolean) ("solves", []) d mc ms X (px_QF Post mc ms) 463 [(0, .ref 73), (1, .int x1), (4, .int x4)] [] sh M L R n cu su := by
  unfold f_X12_solves_463 at h
  refine wx_iinc (lv' := [(4, _), (0, _), (1, _)]) dX12_solves_463 rfl (i_1 _) (by decide) rfl ?_
  refine wx_goto (tgt := 313) dX12_solves_466 (by decide) ?_
  obtain rfl := Option.some.inj h
  replace g := sE_l g
  exact wx_sub g (px_s rfl (px_s rfl (px_s rfl px_0)))
noncomputable def f_X12_solves_448 (sh : px_Sh) (M : px_M) (L : px_L) (R : px_R) (x1 : Int32) (x4 : Int32) (z0 : Int64) (z1 : Int32) : Option ((Int32 × px_L) ⊕ ((px_L) ⊕ (px_L))) :=
  ok (ix z1 6) <|
  nm (px_u L 214 z1.toNatClampNeg z0) fun L_448 =>
  ok (ix x4 6) <|
  if 0 ≤ (lg_cmp (L_448 213 x4.toNatClampNeg) 0) then
    f_X12_solves_463 sh M L_448 R x1 x4
  else
    some (.inr (.inl L_448))
theorem s_X12_solves_448 {x1 : Int32} {x4 : Int32} {z0 : Int64} {z1 : Int32} {M : px_M} {L : px_L} {R : px_R} {e : ((Int32 × px_L) ⊕ ((px_L) ⊕ (px_L)))} (hS : SR sh R) (hd : 2 ≤ d) (hcu : cu ≤ mc) (hsu : su ≤ ms) (h : f_X12_solves_448 sh M L R x1 x4 z0 z1 = some e) (g : (sE (fun a => WX RX12 cX12_solves 14 (some .boolean) ("solves", []) d mc ms X (px_QF Post mc ms) 313 [(0, .ref 73), (1, .int x1), (4, .int a.1)] [] sh M (a.2) R n cu su) (sE (fun t => WX RX12 cX12_solves 14 (some .boolean) ("solves", []) d mc ms X (px_QF Post mc ms) 461 [] [] sh M t R n cu su) (fun t => WX RX12 cX12_solves 14 (some .boolean) ("solves", []) d mc ms X (px_QF Post mc ms) 469 [] [] sh M t R n cu su))) e) : WX RX12 cX12_solves 14 (some .boolean) ("solves", []) d mc ms X (px_QF Post mc ms) 448 [(0, .ref 73), (1, .int x1), (4, .int x4)] [.long z0, .int z1, .ref 214] sh M L R n cu su := by
  unfold f_X12_solves_448 at h
  obtain ⟨w_448, h⟩ := ok_some h
  refine wx_last dX12_solves_448 (sc_214 hS) (ix_in w_448) ?_
  refine wx_namL (fun L_448 q_448 => ?_)
  replace h := nm_at h q_448
  refine wx_aload_n dX12_solves_449 rfl ?_
  refine wx_getR dX12_solves_450 fl_X12_160 (sc_73 hS) rfl (rr_73_69 hS) ?_
  refine wx_iload dX12_solves_453 rfl ?_
  obtain ⟨w_455, h⟩ := ok_some h
  refine wx_lald dX12_solves_455 (sc_213 hS) (ix_in w_455) ?_
  refine wx_lconst (v := 0) dX12_solves_456 (by decide) ?_
  refine wx_lcmp dX12_solves_457 ?_
  refine wx_if_ge (tgt := 463) dX12_solves_458 (by decide) (fun c_458 => ?_) (fun c_458 => ?_)
  · replace h := it_t h c_458
    exact wx_sub (s_X12_solves_463 hS hd hcu hsu h g) (px_s rfl (px_s rfl (px_s rfl px_0)))
  · replace h := it_f h c_458
    obtain rfl := Option.some.inj h
    replace g := sE_l (sE_r g)
    exact wx_sub g px_0
noncomputable def f_X12_solves_420 (sh : px_Sh) (M : px_M) (L : px_L) (R : px_R) (x1 : Int32) (x4 : Int32) (y7 : Int64) (y9 : Int64) (z0 : Int64) (z1 : Int32) : Option ((Int32 × px_L) ⊕ ((px_L) ⊕ (px_L))) :=
  ok (ix z1 6) <|
  nm (px_u L 213 z1.toNatClampNeg z0) fun L_420 =>
  if 0 ≤ (lg_cmp y7 0) then
    ok (nz y9 0) <|
    f_X12_solves_448 sh M L_420 R x1 x4 (y7 / y9) x4
  else
    ok (nz y9 0) <|
    f_X12_solves_448 sh M L_420 R x1 x4 ((-y7) / y9) x4
theorem s_X12_solves_420 {x1 : Int32} {x4 : Int32} {y7 : Int64} {y9 : Int64} {z0 : Int64} {z1 : Int32} {M : px_M} {L : px_L} {R : px_R} {e : ((Int32 × px_L) ⊕ ((px_L) ⊕ (px_L)))} (hS : SR sh R) (hd : 2 ≤ d) (hcu : cu ≤ mc) (hsu : su ≤ ms) (h : f_X12_solves_420 sh M L R x1 x4 y7 y9 z0 z1 = some e) (g : (sE (fun a => WX RX12 cX12_solves 14 (some .boolean) ("solves", []) d mc ms X (px_QF Post mc ms) 313 [(0, .ref 73), (1, .int x1), (4, .int a.1)] [] sh M (a.2) R n cu su) (sE (fun t => WX RX12 cX12_solves 14 (some .boolean) ("solves", []) d mc ms X (px_QF Post mc ms) 461 [] [] sh M t R n cu su) (fun t => WX RX12 cX12_solves 14 (some .boolean) ("solves", []) d mc ms X (px_QF Post mc ms) 469 [] [] sh M t R n cu su))) e) : WX RX12 cX12_solves 14 (some .boolean) ("solves", []) d mc ms X (px_QF Post mc ms) 420 [(0, .ref 73), (1, .int x1), (4, .int x4), (7, .long y7), (9, .long y9)] [.long z0, .int z1, .ref 213] sh M L R n cu su := by
  unfold f_X12_solves_420 at h
  obtain ⟨w_420, h⟩ := ok_some h
  refine wx_last dX12_solves_420 (sc_213 hS) (ix_in w_420) ?_
  refine wx_namL (fun L_420 q_420 => ?_)
  replace h := nm_at h q_420
  refine wx_aload_n dX12_solves_421 rfl ?_
  refine wx_getR dX12_solves_422 fl_X12_164 (sc_73 hS) rfl (rr_73_70 hS) ?_
  refine wx_iload dX12_solves_425 rfl ?_
  refine wx_lload dX12_solves_427 rfl ?_
  refine wx_lconst (v := 0) dX12_solves_429 (by decide) ?_
  refine wx_lcmp dX12_solves_430 ?_
  refine wx_if_ge (tgt := 443) dX12_solves_431 (by decide) (fun c_431 => ?_) (fun c_431 => ?_)
  · replace h := it_t h c_431
    refine wx_lload dX12_solves_443 rfl ?_
    refine wx_lload dX12_solves_445 rfl ?_
    obtain ⟨w_447, h⟩ := ok_some h
    refine wx_ldiv dX12_solves_447 (nz_n w_447) ?_
    exact wx_sub (s_X12_solves_448 hS hd hcu hsu h g) (px_s rfl (px_s rfl (px_s rfl px_0)))
  · replace h := it_f h c_431
    refine wx_lload dX12_solves_434 rfl ?_
    refine wx_lneg dX12_solves_436 ?_
    refine wx_lload dX12_solves_437 rfl ?_
    obtain ⟨w_439, h⟩ := ok_some h
    refine wx_ldiv dX12_solves_439 (nz_n w_439) ?_
    refine wx_goto (tgt := 448) dX12_solves_440 (by decide) ?_
    exact wx_sub (s_X12_solves_448 hS hd hcu hsu h g) (px_s rfl (px_s rfl (px_s rfl px_0)))
noncomputable def f_X12_solves_313 (sh : px_Sh) (M : px_M) (L : px_L) (R : px_R) (x1 : Int32) (x4 : Int32) : Option ((Int32 × px_L) ⊕ ((px_L) ⊕ (px_L))) :=
  if (M 73 58) ≤ x4 then
    some (.inr (.inr L))
  else
    ok (ix x4 6) <|
    nm (px_u L 213 x4.toNatClampNeg 0) fun L_329 =>
    ok (ix x4 6) <|
    nm (px_u L_329 214 x4.toNatClampNeg 1) fun L_337 =>
    if ((x1 >>> (x4 &&& 31)) &&& 1) = 0 then
      f_X12_solves_463 sh M L_337 R x1 x4
    else
      ok (ix x4 6) <|
      nm (M 212 x4.toNatClampNeg) fun v_361 =>
      ok (ix v_361 12) <|
      bd1 (R 199 v_361.toNatClampNeg) fun b_361 =>
      ok (xk sh b_361 14 6) <|
      nm (L_337 b_361 (6 : Int32).toNatClampNeg) fun v_365 =>
      ok (ix x4 6) <|
      nm (M 212 x4.toNatClampNeg) fun v_378 =>
      ok (ix v_378 12) <|
      bd1 (R 199 v_378.toNatClampNeg) fun b_378 =>
      ok (xk sh b_378 14 x4) <|
      nm (L_337 b_378 x4.toNatClampNeg) fun v_382 =>
      bd1 (f_X12_divisor v_365 v_382) fun e_388 =>
      if 0 ≤ (lg_cmp v_382 0) then
        ok (nz e_388 0) <|
        f_X12_solves_420 sh M L_337 R x1 x4 v_382 e_388 (v_365 / e_388) x4
      else
        ok (nz e_388 0) <|
        f_X12_solves_420 sh M L_337 R x1 x4 v_382 e_388 ((-v_365) / e_388) x4
theorem s_X12_solves_313b {x1 : Int32} {x4 : Int32} {M : px_M} {L : px_L} {R : px_R} {e : ((Int32 × px_L) ⊕ ((px_L) ⊕ (px_L)))} (hS : SR sh R) (hd : 2 ≤ d) (hcu : cu ≤ mc) (hsu : su ≤ ms) (h : f_X12_solves_313 sh M L R x1 x4 = some e) (g : (sE (fun a => WX RX12 cX12_solves 14 (some .boolean) ("solves", []) d mc ms X (px_QF Post mc ms) 313 [(0, .ref 73), (1, .int x1), (4, .int a.1)] [] sh M (a.2) R n cu su) (sE (fun t => WX RX12 cX12_solves 14 (some .boolean) ("solves", []) d mc ms X (px_QF Post mc ms) 461 [] [] sh M t R n cu su) (fun t => WX RX12 cX12_solves 14 (some .boolean) ("solves", []) d mc ms X (px_QF Post mc ms) 469 [] [] sh M t R n cu su))) e) : WX RX12 cX12_solves 14 (some .boolean) ("solves", []) d mc ms X (px_QF Post mc ms) 313 [(0, .ref 73), (1, .int x1), (4, .int x4)] [] sh M L R n cu su := by
  unfold f_X12_solves_313 at h
  refine wx_iload dX12_solves_313 rfl ?_
  refine wx_aload_n dX12_solves_315 rfl ?_
  refine wx_getI dX12_solves_316 fl_X12_452 (sc_73 hS) rfl ?_
  refine wx_icmp_ge (tgt := 469) dX12_solves_319 (by decide) (fun c_319 => ?_) (fun c_319 => ?_)
  · replace h := it_t h c_319
    obtain rfl := Option.some.inj h
    replace g := sE_r (sE_r g)
    exact wx_sub g px_0
  · replace h := it_f h c_319
    refine wx_aload_n dX12_solves_322 rfl ?_
    refine wx_getR dX12_solves_323 fl_X12_160 (sc_73 hS) rfl (rr_73_69 hS) ?_
    refine wx_iload dX12_solves_326 rfl ?_
    refine wx_lconst (v := 0) dX12_solves_328 (by decide) ?_
    obtain ⟨w_329, h⟩ := ok_some h
    refine wx_last dX12_solves_329 (sc_213 hS) (ix_in w_329) ?_
    refine wx_namL (fun L_329 q_329 => ?_)
    replace h := nm_at h q_329
    refine wx_aload_n dX12_solves_330 rfl ?_
    refine wx_getR dX12_solves_331 fl_X12_164 (sc_73 hS) rfl (rr_73_70 hS) ?_
    refine wx_iload dX12_solves_334 rfl ?_
    refine wx_lconst (v := 1) dX12_solves_336 (by decide) ?_
    obtain ⟨w_337, h⟩ := ok_some h
    refine wx_last dX12_solves_337 (sc_214 hS) (ix_in w_337) ?_
    refine wx_namL (fun L_337 q_337 => ?_)
    replace h := nm_at h q_337
    refine wx_iload_n dX12_solves_338 rfl ?_
    refine wx_iload dX12_solves_339 rfl ?_
    refine wx_ishr dX12_solves_341 ?_
    refine wx_iconst (v := 1) dX12_solves_342 (by decide) ?_
    refine wx_iand dX12_solves_343 ?_
    refine wx_if_ne (tgt := 350) dX12_solves_344 (by decide) (fun c_344 => ?_) (fun c_344 => ?_)
    · replace h := it_f h c_344
      refine wx_aload_n dX12_solves_350 rfl ?_
      refine wx_getR dX12_solves_351 fl_X12_154 (sc_73 hS) rfl (rr_73_67 hS) ?_
      refine wx_aload_n dX12_solves_354 rfl ?_
      refine wx_getR dX12_solves_355 fl_X12_157 (sc_73 hS) rfl (rr_73_68 hS) ?_
      refine wx_iload dX12_solves_358 rfl ?_
      obtain ⟨w_360, h⟩ := ok_some h
      refine wx_iald dX12_solves_360 (sc_212 hS) (ix_in w_360) ?_
      refine wx_nami (fun v_361 q_361 => ?_)
      replace h := nm_at h q_361
      obtain ⟨w_361, h⟩ := ok_some h
      obtain ⟨b_361, wr_361, h⟩ := bd1_some h
      refine wx_aald dX12_solves_361 (sc_199 hS) (by decide) (by decide) (ix_in w_361) wr_361 ?_
      refine wx_bipush (v := 6) dX12_solves_362 (by decide) ?_
      obtain ⟨w_364, h⟩ := ok_some h
      obtain ⟨ln_364, wt_364, wi_364⟩ := xk_some w_364
      refine wx_lald dX12_solves_364 wt_364 wi_364 ?_
      refine wx_naml (fun v_365 q_365 => ?_)
      replace h := nm_at h q_365
      refine wx_lstore (lv' := [(5, _), (0, _), (1, _), (4, _)]) dX12_solves_365 (by decide) rfl ?_
      refine wx_aload_n dX12_solves_367 rfl ?_
      refine wx_getR dX12_solves_368 fl_X12_154 (sc_73 hS) rfl (rr_73_67 hS) ?_
      refine wx_aload_n dX12_solves_371 rfl ?_
      refine wx_getR dX12_solves_372 fl_X12_157 (sc_73 hS) rfl (rr_73_68 hS) ?_
      refine wx_iload dX12_solves_375 rfl ?_
      obtain ⟨w_377, h⟩ := ok_some h
      refine wx_iald dX12_solves_377 (sc_212 hS) (ix_in w_377) ?_
      refine wx_nami (fun v_378 q_378 => ?_)
      replace h := nm_at h q_378
      obtain ⟨w_378, h⟩ := ok_some h
      obtain ⟨b_378, wr_378, h⟩ := bd1_some h
      refine wx_aald dX12_solves_378 (sc_199 hS) (by decide) (by decide) (ix_in w_378) wr_378 ?_
      refine wx_iload dX12_solves_379 rfl ?_
      obtain ⟨w_381, h⟩ := ok_some h
      obtain ⟨ln_381, wt_381, wi_381⟩ := xk_some w_381
      refine wx_lald dX12_solves_381 wt_381 wi_381 ?_
      refine wx_naml (fun v_382 q_382 => ?_)
      replace h := nm_at h q_382
      refine wx_lstore (lv' := [(7, _), (5, _), (0, _), (1, _), (4, _)]) dX12_solves_382 (by decide) rfl ?_
      refine wx_lload dX12_solves_384 rfl ?_
      refine wx_lload dX12_solves_386 rfl ?_
      obtain ⟨e_388, k_388, h⟩ := bd1_some h
      refine wx_cSl dX12_solves_388 ml_X12_459 my_X12_divisor sv_X12_divisor (s_X12_divisor (d := d - 1) hS (by omega) k_388) rfl (by omega) (by exact Nat.le_of_ble_eq_true rfl) hcu hsu ?_
      refine wx_lstore (lv' := [(9, _), (7, _), (5, _), (0, _), (1, _), (4, _)]) dX12_solves_391 (by decide) rfl ?_
      refine wx_aload_n dX12_solves_393 rfl ?_
      refine wx_getR dX12_solves_394 fl_X12_160 (sc_73 hS) rfl (rr_73_69 hS) ?_
      refine wx_iload dX12_solves_397 rfl ?_
      refine wx_lload dX12_solves_399 rfl ?_
      refine wx_lconst (v := 0) dX12_solves_401 (by decide) ?_
      refine wx_lcmp dX12_solves_402 ?_
      refine wx_if_ge (tgt := 415) dX12_solves_403 (by decide) (fun c_403 => ?_) (fun c_403 => ?_)
      · replace h := it_t h c_403
        refine wx_lload dX12_solves_415 rfl ?_
        refine wx_lload dX12_solves_417 rfl ?_
        obtain ⟨w_419, h⟩ := ok_some h
        refine wx_ldiv dX12_solves_419 (nz_n w_419) ?_
        exact wx_sub (s_X12_solves_420 hS hd hcu hsu h g) (px_s rfl (px_s rfl (px_s rfl (px_s rfl (px_s rfl px_0)))))
      · replace h := it_f h c_403
        refine wx_lload dX12_solves_406 rfl ?_
        refine wx_lneg dX12_solves_408 ?_
        refine wx_lload dX12_solves_409 rfl ?_
        obtain ⟨w_411, h⟩ := ok_some h
        refine wx_ldiv dX12_solves_411 (nz_n w_411) ?_
        refine wx_goto (tgt := 420) dX12_solves_412 (by decide) ?_
        exact wx_sub (s_X12_solves_420 hS hd hcu hsu h g) (px_s rfl (px_s rfl (px_s rfl (px_s rfl (px_s rfl px_0)))))
    · replace h := it_t h c_344
      refine wx_goto (tgt := 463) dX12_solves_347 (by decide) ?_
      exact wx_sub (s_X12_solves_463 hS hd hcu hsu h g) (px_s rfl (px_s rfl (px_s rfl px_0)))
theorem s_X12_solves_313 {x1 : Int32} {x4 : Int32} {M : px_M} {L : px_L} {R : px_R} {e : ((px_L) ⊕ (px_L))} (hS : SR sh R) (hd : 2 ≤ d) (hcu : cu ≤ mc) (hsu : su ≤ ms) (h : lpf (fun a : Int32 × px_L => f_X12_solves_313 sh M a.2 R x1 a.1) (x4, L) = some e) (g : (sE (fun t => WX RX12 cX12_solves 14 (some .boolean) ("solves", []) d mc ms X (px_QF Post mc ms) 461 [] [] sh M t R n cu su) (fun t => WX RX12 cX12_solves 14 (some .boolean) ("solves", []) d mc ms X (px_QF Post mc ms) 469 [] [] sh M t R n cu su)) e) : WX RX12 cX12_solves 14 (some .boolean) ("solves", []) d mc ms X (px_QF Post mc ms) 313 [(0, .ref 73), (1, .int x1), (4, .int x4)] [] sh M L R n cu su := by
  have key := lpf_wp (P := (fun a => WX RX12 cX12_solves 14 (some .boolean) ("solves", []) d mc ms X (px_QF Post mc ms) 313 [(0, .ref 73), (1, .int x1), (4, .int a.1)] [] sh M (a.2) R n cu su)) (G := (sE (fun t => WX RX12 cX12_solves 14 (some .boolean) ("solves", []) d mc ms X (px_QF Post mc ms) 461 [] [] sh M t R n cu su) (fun t => WX RX12 cX12_solves 14 (some .boolean) ("solves", []) d mc ms X (px_QF Post mc ms) 469 [] [] sh M t R n cu su))) (fun a r h g => s_X12_solves_313b (x1 := x1) (x4 := a.1) (M := M) (L := a.2) (R := R) hS hd hcu hsu h g) (a := (x4, L)) h g
  exact key
noncomputable def f_X12_solves_304 (sh : px_Sh) (M : px_M) (L : px_L) (R : px_R) (x1 : Int32) (x3 : Int32) (x4 : Int32) : Option ((Int32) ⊕ ((Unit) ⊕ (Unit))) :=
  some (.inl (x4 + 1))
theorem s_X12_solves_304 {x1 : Int32} {x3 : Int32} {x4 : Int32} {M : px_M} {L : px_L} {R : px_R} {e : ((Int32) ⊕ ((Unit) ⊕ (Unit)))} (hS : SR sh R) (hd : 2 ≤ d) (hcu : cu ≤ mc) (hsu : su ≤ ms) (h : f_X12_solves_304 sh M L R x1 x3 x4 = some e) (g : (sE (fun a => WX RX12 cX12_solves 14 (some .boolean) ("solves", []) d mc ms X (px_QF Post mc ms) 271 [(0, .ref 73), (1, .int x1), (3, .int x3), (4, .int a)] [] sh M L R n cu su) (sE (fun t => WX RX12 cX12_solves 14 (some .boolean) ("solves", []) d mc ms X (px_QF Post mc ms) 302 [] [] sh M L R n cu su) (fun t => WX RX12 cX12_solves 14 (some .boolean) ("solves", []) d mc ms X (px_QF Post mc ms) 310 [(0, .ref 73), (1, .int x1)] [] sh M L R n cu su))) e) : WX RX12 cX12_solves 14 (some .boolean) ("solves", []) d mc ms X (px_QF Post mc ms) 304 [(0, .ref 73), (1, .int x1), (3, .int x3), (4, .int x4)] [] sh M L R n cu su := by
  unfold f_X12_solves_304 at h
  refine wx_iinc (lv' := [(4, _), (0, _), (1, _), (3, _)]) dX12_solves_304 rfl (i_1 _) (by decide) rfl ?_
  refine wx_goto (tgt := 271) dX12_solves_307 (by decide) ?_
  obtain rfl := Option.some.inj h
  replace g := sE_l g
  exact wx_sub g (px_s rfl (px_s rfl (px_s rfl (px_s rfl px_0))))
noncomputable def f_X12_solves_271 (sh : px_Sh) (M : px_M) (L : px_L) (R : px_R) (x1 : Int32) (x3 : Int32) (x4 : Int32) : Option ((Int32) ⊕ ((Unit) ⊕ (Unit))) :=
  if 12 ≤ x4 then
    some (.inr (.inr ()))
  else
    if ((x3 >>> (x4 &&& 31)) &&& 1) = 0 then
      ok (ix x4 12) <|
      bd1 (R 199 x4.toNatClampNeg) fun b_293 =>
      ok (xk sh b_293 14 6) <|
      if (lg_cmp (L b_293 (6 : Int32).toNatClampNeg) 0) = 0 then
        f_X12_solves_304 sh M L R x1 x3 x4
      else
        some (.inr (.inl ()))
    else
      f_X12_solves_304 sh M L R x1 x3 x4
theorem s_X12_solves_271b {x1 : Int32} {x3 : Int32} {x4 : Int32} {M : px_M} {L : px_L} {R : px_R} {e : ((Int32) ⊕ ((Unit) ⊕ (Unit)))} (hS : SR sh R) (hd : 2 ≤ d) (hcu : cu ≤ mc) (hsu : su ≤ ms) (h : f_X12_solves_271 sh M L R x1 x3 x4 = some e) (g : (sE (fun a => WX RX12 cX12_solves 14 (some .boolean) ("solves", []) d mc ms X (px_QF Post mc ms) 271 [(0, .ref 73), (1, .int x1), (3, .int x3), (4, .int a)] [] sh M L R n cu su) (sE (fun t => WX RX12 cX12_solves 14 (some .boolean) ("solves", []) d mc ms X (px_QF Post mc ms) 302 [] [] sh M L R n cu su) (fun t => WX RX12 cX12_solves 14 (some .boolean) ("solves", []) d mc ms X (px_QF Post mc ms) 310 [(0, .ref 73), (1, .int x1)] [] sh M L R n cu su))) e) : WX RX12 cX12_solves 14 (some .boolean) ("solves", []) d mc ms X (px_QF Post mc ms) 271 [(0, .ref 73), (1, .int x1), (3, .int x3), (4, .int x4)] [] sh M L R n cu su := by
  unfold f_X12_solves_271 at h
  refine wx_iload dX12_solves_271 rfl ?_
  refine wx_bipush (v := 12) dX12_solves_273 (by decide) ?_
  refine wx_icmp_ge (tgt := 310) dX12_solves_275 (by decide) (fun c_275 => ?_) (fun c_275 => ?_)
  · replace h := it_t h c_275
    obtain rfl := Option.some.inj h
    replace g := sE_r (sE_r g)
    exact wx_sub g (px_s rfl (px_s rfl px_0))
  · replace h := it_f h c_275
    refine wx_iload_n dX12_solves_278 rfl ?_
    refine wx_iload dX12_solves_279 rfl ?_
    refine wx_ishr dX12_solves_281 ?_
    refine wx_iconst (v := 1) dX12_solves_282 (by decide) ?_
    refine wx_iand dX12_solves_283 ?_
    refine wx_if_ne (tgt := 304) dX12_solves_284 (by decide) (fun c_284 => ?_) (fun c_284 => ?_)
    · replace h := it_f h c_284
      exact wx_sub (s_X12_solves_304 hS hd hcu hsu h g) (px_s rfl (px_s rfl (px_s rfl (px_s rfl px_0))))
    · replace h := it_t h c_284
      refine wx_aload_n dX12_solves_287 rfl ?_
      refine wx_getR dX12_solves_288 fl_X12_154 (sc_73 hS) rfl (rr_73_67 hS) ?_
      refine wx_iload dX12_solves_291 rfl ?_
      obtain ⟨w_293, h⟩ := ok_some h
      obtain ⟨b_293, wr_293, h⟩ := bd1_some h
      refine wx_aald dX12_solves_293 (sc_199 hS) (by decide) (by decide) (ix_in w_293) wr_293 ?_
      refine wx_bipush (v := 6) dX12_solves_294 (by decide) ?_
      obtain ⟨w_296, h⟩ := ok_some h
      obtain ⟨ln_296, wt_296, wi_296⟩ := xk_some w_296
      refine wx_lald dX12_solves_296 wt_296 wi_296 ?_
      refine wx_lconst (v := 0) dX12_solves_297 (by decide) ?_
      refine wx_lcmp dX12_solves_298 ?_
      refine wx_if_eq (tgt := 304) dX12_solves_299 (by decide) (fun c_299 => ?_) (fun c_299 => ?_)
      · replace h := it_t h c_299
        exact wx_sub (s_X12_solves_304 hS hd hcu hsu h g) (px_s rfl (px_s rfl (px_s rfl (px_s rfl px_0))))
      · replace h := it_f h c_299
        obtain rfl := Option.some.inj h
        replace g := sE_l (sE_r g)
        exact wx_sub g px_0
theorem s_X12_solves_271 {x1 : Int32} {x3 : Int32} {x4 : Int32} {M : px_M} {L : px_L} {R : px_R} {e : ((Unit) ⊕ (Unit))} (hS : SR sh R) (hd : 2 ≤ d) (hcu : cu ≤ mc) (hsu : su ≤ ms) (h : lpf (fun a : Int32 => f_X12_solves_271 sh M L R x1 x3 a) x4 = some e) (g : (sE (fun t => WX RX12 cX12_solves 14 (some .boolean) ("solves", []) d mc ms X (px_QF Post mc ms) 302 [] [] sh M L R n cu su) (fun t => WX RX12 cX12_solves 14 (some .boolean) ("solves", []) d mc ms X (px_QF Post mc ms) 310 [(0, .ref 73), (1, .int x1)] [] sh M L R n cu su)) e) : WX RX12 cX12_solves 14 (some .boolean) ("solves", []) d mc ms X (px_QF Post mc ms) 271 [(0, .ref 73), (1, .int x1), (3, .int x3), (4, .int x4)] [] sh M L R n cu su := by
  have key := lpf_wp (P := (fun a => WX RX12 cX12_solves 14 (some .boolean) ("solves", []) d mc ms X (px_QF Post mc ms) 271 [(0, .ref 73), (1, .int x1), (3, .int x3), (4, .int a)] [] sh M L R n cu su)) (G := (sE (fun t => WX RX12 cX12_solves 14 (some .boolean) ("solves", []) d mc ms X (px_QF Post mc ms) 302 [] [] sh M L R n cu su) (fun t => WX RX12 cX12_solves 14 (some .boolean) ("solves", []) d mc ms X (px_QF Post mc ms) 310 [(0, .ref 73), (1, .int x1)] [] sh M L R n cu su))) (fun a r h g => s_X12_solves_271b (x1 := x1) (x3 := x3) (x4 := a) (M := M) (L := L) (R := R) hS hd hcu hsu h g) (a := x4) h g
  exact key
noncomputable def f_X12_solves_262 (sh : px_Sh) (M : px_M) (L : px_L) (R : px_R) (x1 : Int32) (x3 : Int32) (x4 : Int32) : Option ((Int32 × Int32 × px_M × px_L) ⊕ ((px_M × px_L) ⊕ (Int32 × px_M × px_L))) :=
  some (.inl (x3, (x4 + 1), M, L))
theorem s_X12_solves_262 {x1 : Int32} {x3 : Int32} {x4 : Int32} {M : px_M} {L : px_L} {R : px_R} {e : ((Int32 × Int32 × px_M × px_L) ⊕ ((px_M × px_L) ⊕ (Int32 × px_M × px_L)))} (hS : SR sh R) (hd : 2 ≤ d) (hcu : cu ≤ mc) (hsu : su ≤ ms) (h : f_X12_solves_262 sh M L R x1 x3 x4 = some e) (g : (sE (fun a => WX RX12 cX12_solves 14 (some .boolean) ("solves", []) d mc ms X (px_QF Post mc ms) 10 [(0, .ref 73), (1, .int x1), (3, .int a.1), (4, .int a.2.1)] [] sh (a.2.2.1) (a.2.2.2) R n cu su) (sE (fun t => WX RX12 cX12_solves 14 (some .boolean) ("solves", []) d mc ms X (px_QF Post mc ms) 79 [] [] sh (t.1) (t.2) R n cu su) (fun t => WX RX12 cX12_solves 14 (some .boolean) ("solves", []) d mc ms X (px_QF Post mc ms) 268 [(0, .ref 73), (1, .int x1), (3, .int t.1)] [] sh (t.2.1) (t.2.2) R n cu su))) e) : WX RX12 cX12_solves 14 (some .boolean) ("solves", []) d mc ms X (px_QF Post mc ms) 262 [(0, .ref 73), (1, .int x1), (3, .int x3), (4, .int x4)] [] sh M L R n cu su := by
  unfold f_X12_solves_262 at h
  refine wx_iinc (lv' := [(4, _), (0, _), (1, _), (3, _)]) dX12_solves_262 rfl (i_1 _) (by decide) rfl ?_
  refine wx_goto (tgt := 10) dX12_solves_265 (by decide) ?_
  obtain rfl := Option.some.inj h
  replace g := sE_l g
  exact wx_sub g (px_s rfl (px_s rfl (px_s rfl (px_s rfl px_0))))
noncomputable def f_X12_solves_10 (sh : px_Sh) (M : px_M) (L : px_L) (R : px_R) (x1 : Int32) (x3 : Int32) (x4 : Int32) : Option ((Int32 × Int32 × px_M × px_L) ⊕ ((px_M × px_L) ⊕ (Int32 × px_M × px_L))) :=
  if (M 73 58) ≤ x4 then
    some (.inr (.inr (x3, M, L)))
  else
    if ((x1 >>> (x4 &&& 31)) &&& 1) = 0 then
      f_X12_solves_262 sh M L R x1 x3 x4
    else
      bd1 (lpf (fun a : Int32 => f_X12_solves_34 sh M L R x1 x3 x4 a) 0) fun e_34 =>
      if e_34 = 12 then
        some (.inr (.inl (M, L)))
      else
        nm (x3 ||| (1 <<< (e_34 &&& 31))) fun v_87 =>
        ok (ix x4 6) <|
        nm (px_u M 212 x4.toNatClampNeg e_34) fun M_96 =>
        bd1 (lpf (fun a : Int32 × px_L => f_X12_solves_100 sh M_96 a.2 R x1 v_87 x4 e_34 a.1) (0, L)) fun e_100 =>
        f_X12_solves_262 sh M_96 e_100 R x1 v_87 x4
theorem s_X12_solves_10b {x1 : Int32} {x3 : Int32} {x4 : Int32} {M : px_M} {L : px_L} {R : px_R} {e : ((Int32 × Int32 × px_M × px_L) ⊕ ((px_M × px_L) ⊕ (Int32 × px_M × px_L)))} (hS : SR sh R) (hd : 2 ≤ d) (hcu : cu ≤ mc) (hsu : su ≤ ms) (h : f_X12_solves_10 sh M L R x1 x3 x4 = some e) (g : (sE (fun a => WX RX12 cX12_solves 14 (some .boolean) ("solves", []) d mc ms X (px_QF Post mc ms) 10 [(0, .ref 73), (1, .int x1), (3, .int a.1), (4, .int a.2.1)] [] sh (a.2.2.1) (a.2.2.2) R n cu su) (sE (fun t => WX RX12 cX12_solves 14 (some .boolean) ("solves", []) d mc ms X (px_QF Post mc ms) 79 [] [] sh (t.1) (t.2) R n cu su) (fun t => WX RX12 cX12_solves 14 (some .boolean) ("solves", []) d mc ms X (px_QF Post mc ms) 268 [(0, .ref 73), (1, .int x1), (3, .int t.1)] [] sh (t.2.1) (t.2.2) R n cu su))) e) : WX RX12 cX12_solves 14 (some .boolean) ("solves", []) d mc ms X (px_QF Post mc ms) 10 [(0, .ref 73), (1, .int x1), (3, .int x3), (4, .int x4)] [] sh M L R n cu su := by
  unfold f_X12_solves_10 at h
  refine wx_iload dX12_solves_10 rfl ?_
  refine wx_aload_n dX12_solves_12 rfl ?_
  refine wx_getI dX12_solves_13 fl_X12_452 (sc_73 hS) rfl ?_
  refine wx_icmp_ge (tgt := 268) dX12_solves_16 (by decide) (fun c_16 => ?_) (fun c_16 => ?_)
  · replace h := it_t h c_16
    obtain rfl := Option.some.inj h
    replace g := sE_r (sE_r g)
    exact wx_sub g (px_s rfl (px_s rfl (px_s rfl px_0)))
  · replace h := it_f h c_16
    refine wx_iload_n dX12_solves_19 rfl ?_
    refine wx_iload dX12_solves_20 rfl ?_
    refine wx_ishr dX12_solves_22 ?_
    refine wx_iconst (v := 1) dX12_solves_23 (by decide) ?_
    refine wx_iand dX12_solves_24 ?_
    refine wx_if_ne (tgt := 31) dX12_solves_25 (by decide) (fun c_25 => ?_) (fun c_25 => ?_)
    · replace h := it_f h c_25
      refine wx_iconst (v := 0) dX12_solves_31 (by decide) ?_
      refine wx_istore (lv' := [(5, _), (0, _), (1, _), (3, _), (4, _)]) dX12_solves_32 (by decide) rfl ?_
      obtain ⟨e_34, k_34, h⟩ := bd1_some h
      refine wx_sub (s_X12_solves_34 hS hd hcu hsu k_34 ?_) (px_s rfl (px_s rfl (px_s rfl (px_s rfl (px_s rfl px_0)))))
      refine wx_iload dX12_solves_72 rfl ?_
      refine wx_bipush (v := 12) dX12_solves_74 (by decide) ?_
      refine wx_icmp_ne (tgt := 81) dX12_solves_76 (by decide) (fun c_76 => ?_) (fun c_76 => ?_)
      · replace h := it_f h c_76
        refine wx_iload_n dX12_solves_81 rfl ?_
        refine wx_iconst (v := 1) dX12_solves_82 (by decide) ?_
        refine wx_iload dX12_solves_83 rfl ?_
        refine wx_ishl dX12_solves_85 ?_
        refine wx_ior dX12_solves_86 ?_
        refine wx_nami (fun v_87 q_87 => ?_)
        replace h := nm_at h q_87
        refine wx_istore_n (lv' := [(3, _), (0, _), (1, _), (4, _), (5, _)]) dX12_solves_87 (by decide) rfl ?_
        refine wx_aload_n dX12_solves_88 rfl ?_
        refine wx_getR dX12_solves_89 fl_X12_157 (sc_73 hS) rfl (rr_73_68 hS) ?_
        refine wx_iload dX12_solves_92 rfl ?_
        refine wx_iload dX12_solves_94 rfl ?_
        obtain ⟨w_96, h⟩ := ok_some h
        refine wx_iast dX12_solves_96 (sc_212 hS) (ix_in w_96) ?_
        refine wx_namM (fun M_96 q_96 => ?_)
        replace h := nm_at h q_96
        refine wx_iconst (v := 0) dX12_solves_97 (by decide) ?_
        refine wx_istore (lv' := [(6, _), (3, _), (0, _), (1, _), (4, _), (5, _)]) dX12_solves_98 (by decide) rfl ?_
        obtain ⟨e_100, k_100, h⟩ := bd1_some h
        refine wx_sub (s_X12_solves_100 hS hd hcu hsu k_100 ?_) (px_s rfl (px_s rfl (px_s rfl (px_s rfl (px_s rfl (px_s rfl px_0))))))
        exact wx_sub (s_X12_solves_262 hS hd hcu hsu h g) (px_s rfl (px_s rfl (px_s rfl (px_s rfl px_0))))
      · replace h := it_t h c_76
        obtain rfl := Option.some.inj h
        replace g := sE_l (sE_r g)
        exact wx_sub g px_0
    · replace h := it_t h c_25
      refine wx_goto (tgt := 262) dX12_solves_28 (by decide) ?_
      exact wx_sub (s_X12_solves_262 hS hd hcu hsu h g) (px_s rfl (px_s rfl (px_s rfl (px_s rfl px_0))))
theorem s_X12_solves_10 {x1 : Int32} {x3 : Int32} {x4 : Int32} {M : px_M} {L : px_L} {R : px_R} {e : ((px_M × px_L) ⊕ (Int32 × px_M × px_L))} (hS : SR sh R) (hd : 2 ≤ d) (hcu : cu ≤ mc) (hsu : su ≤ ms) (h : lpf (fun a : Int32 × Int32 × px_M × px_L => f_X12_solves_10 sh a.2.2.1 a.2.2.2 R x1 a.1 a.2.1) (x3, x4, M, L) = some e) (g : (sE (fun t => WX RX12 cX12_solves 14 (some .boolean) ("solves", []) d mc ms X (px_QF Post mc ms) 79 [] [] sh (t.1) (t.2) R n cu su) (fun t => WX RX12 cX12_solves 14 (some .boolean) ("solves", []) d mc ms X (px_QF Post mc ms) 268 [(0, .ref 73), (1, .int x1), (3, .int t.1)] [] sh (t.2.1) (t.2.2) R n cu su)) e) : WX RX12 cX12_solves 14 (some .boolean) ("solves", []) d mc ms X (px_QF Post mc ms) 10 [(0, .ref 73), (1, .int x1), (3, .int x3), (4, .int x4)] [] sh M L R n cu su := by
  have key := lpf_wp (P := (fun a => WX RX12 cX12_solves 14 (some .boolean) ("solves", []) d mc ms X (px_QF Post mc ms) 10 [(0, .ref 73), (1, .int x1), (3, .int a.1), (4, .int a.2.1)] [] sh (a.2.2.1) (a.2.2.2) R n cu su)) (G := (sE (fun t => WX RX12 cX12_solves 14 (some .boolean) ("solves", []) d mc ms X (px_QF Post mc ms) 79 [] [] sh (t.1) (t.2) R n cu su) (fun t => WX RX12 cX12_solves 14 (some .boolean) ("solves", []) d mc ms X (px_QF Post mc ms) 268 [(0, .ref 73), (1, .int x1), (3, .int t.1)] [] sh (t.2.1) (t.2.2) R n cu su))) (fun a r h g => s_X12_solves_10b (x1 := x1) (x3 := a.1) (x4 := a.2.1) (M := a.2.2.1) (L := a.2.2.2) (R := R) hS hd hcu hsu h g) (a := (x3, x4, M, L)) h g
  exact key
noncomputable def f_X12_solves (sh : px_Sh) (M : px_M) (L : px_L) (R : px_R) (p1 : Int32) (p2 : Int32) : Option (Int32 × px_M × px_L) :=
  bd1 (f_X12_writeRows sh M L R p2) fun e_2 =>
  bdS (lpf (fun a : Int32 × Int32 × px_M × px_L => f_X12_solves_10 sh a.2.2.1 a.2.2.2 R p1 a.1 a.2.1) (0, 0, M, e_2)) (fun t_10_0 =>
  some (0, t_10_0.1, t_10_0.2)) (fun u_10_0 =>
  bdS (lpf (fun a : Int32 => f_X12_solves_271 sh u_10_0.2.1 u_10_0.2.2 R p1 u_10_0.1 a) 0) (fun t_271_0 =>
    some (0, u_10_0.2.1, u_10_0.2.2)) (fun u_271_0 =>
    bdS (lpf (fun a : Int32 × px_L => f_X12_solves_313 sh u_10_0.2.1 a.2 R p1 a.1) (0, u_10_0.2.2)) (fun t_313_0 =>
      some (0, u_10_0.2.1, t_313_0)) (fun u_313_0 =>
      some (1, u_10_0.2.1, u_313_0))))
theorem s_X12_solves {d : Nat} {X : Nat × (Nat → Int32)} {sh : px_Sh} {M : px_M} {L : px_L} {R : px_R} {n : Nat} {p1 : Int32} {p2 : Int32} {e : Int32 × px_M × px_L} (hS : SR sh R) (hd : 2 ≤ d) (h : f_X12_solves sh M L R p1 p2 = some e) : MX yX12_solves cX12_solves 14 (some .boolean) d 0 0 X [.ref 73, .int p1, .int p2] sh M L R n (px_pu (some (.int e.1)) sh e.2.1 e.2.2 R n) := by
  refine MX.of (by decide +kernel) (by exact Nat.le_of_ble_eq_true rfl) ?_
  have hcu : 0 ≤ 0 := Nat.zero_le _
  have hsu : 0 ≤ 0 := Nat.zero_le _
  have g : px_pu (some (.int e.1)) sh e.2.1 e.2.2 R n (some (.int e.1)) sh e.2.1 e.2.2 R n := ⟨rfl, rfl, rfl, rfl, rfl, rfl⟩
  unfold f_X12_solves at h
  refine wx_aload_n dX12_solves_0 rfl ?_
  refine wx_iload_n dX12_solves_1 rfl ?_
  obtain ⟨e_2, k_2, h⟩ := bd1_some h
  refine wx_cVv dX12_solves_2 ml_X12_463 my_X12_writeRows iv_X12_writeRows (sc_73 hS) (by decide) (s_X12_writeRows (d := d - 1) hS (by omega) k_2) rfl (by omega) (by exact Nat.le_of_ble_eq_true rfl) hcu hsu ?_
  refine wx_iconst (v := 0) dX12_solves_5 (by decide) ?_
  refine wx_istore_n (lv' := [(3, _), (0, _), (1, _), (2, _)]) dX12_solves_6 (by decide) rfl ?_
  refine wx_iconst (v := 0) dX12_solves_7 (by decide) ?_
  refine wx_istore (lv' := [(4, _), (3, _), (0, _), (1, _), (2, _)]) dX12_solves_8 (by decide) rfl ?_
  rcases bdS_some h with ⟨t_10_0, k_10_0, h⟩ | ⟨u_10_0, k_10_0, h⟩
  · refine wx_sub (s_X12_solves_10 hS hd hcu hsu k_10_0 (sE_li ?_)) (px_s rfl (px_s rfl (px_s rfl (px_s rfl px_0))))
    refine wx_iconst (v := 0) dX12_solves_79 (by decide) ?_
    refine wx_zret dX12_solves_80 rfl hcu hsu ?_
    obtain rfl := Option.some.inj h
    exact g
  · refine wx_sub (s_X12_solves_10 hS hd hcu hsu k_10_0 (sE_ri ?_)) (px_s rfl (px_s rfl (px_s rfl (px_s rfl px_0))))
    refine wx_iconst (v := 0) dX12_solves_268 (by decide) ?_
    refine wx_istore (lv' := [(4, _), (0, _), (1, _), (3, _)]) dX12_solves_269 (by decide) rfl ?_
    rcases bdS_some h with ⟨t_271_0, k_271_0, h⟩ | ⟨u_271_0, k_271_0, h⟩
    · refine wx_sub (s_X12_solves_271 hS hd hcu hsu k_271_0 (sE_li ?_)) (px_s rfl (px_s rfl (px_s rfl (px_s rfl px_0))))
      refine wx_iconst (v := 0) dX12_solves_302 (by decide) ?_
      refine wx_zret dX12_solves_303 rfl hcu hsu ?_
      obtain rfl := Option.some.inj h
      exact g
    · refine wx_sub (s_X12_solves_271 hS hd hcu hsu k_271_0 (sE_ri ?_)) (px_s rfl (px_s rfl (px_s rfl (px_s rfl px_0))))
      refine wx_iconst (v := 0) dX12_solves_310 (by decide) ?_
      refine wx_istore (lv' := [(4, _), (0, _), (1, _)]) dX12_solves_311 (by decide) rfl ?_
      rcases bdS_some h with ⟨t_313_0, k_313_0, h⟩ | ⟨u_313_0, k_313_0, h⟩
      · refine wx_sub (s_X12_solves_313 hS hd hcu hsu k_313_0 (sE_li ?_)) (px_s rfl (px_s rfl (px_s rfl px_0)))
        refine wx_iconst (v := 0) dX12_solves_461 (by decide) ?_
        refine wx_zret dX12_solves_462 rfl hcu hsu ?_
        obtain rfl := Option.some.inj h
        exact g
      · refine wx_sub (s_X12_solves_313 hS hd hcu hsu k_313_0 (sE_ri ?_)) (px_s rfl (px_s rfl (px_s rfl px_0)))
        refine wx_iconst (v := 1) dX12_solves_469 (by decide) ?_
        refine wx_zret dX12_solves_470 rfl hcu hsu ?_
        obtain rfl := Option.some.inj h
        exact g
noncomputable def f_X12_findEase_34 (sh : px_Sh) (M : px_M) (L : px_L) (R : px_R) (x1 : Int32) (x2 : Int32) (y3 : Int64) (y5 : Int64) (x7 : Int32) : Option ((Int64 × Int64 × Int32) ⊕ (Int64 × Int64)) :=
  if (M 73 58) ≤ x7 then
    some (.inr (y3, y5))
  else
    ok (ix x7 6) <|
    bd1 (f_X12_divisor y5 (L 214 x7.toNatClampNeg)) fun e_52 =>
    ok (nz e_52 0) <|
    ok (ix x7 6) <|
    nm ((y5 / e_52) * (L 214 x7.toNatClampNeg)) fun v_70 =>
    ok (nz y5 0) <|
    ok (ix x7 6) <|
    ok (ix x7 6) <|
    ok (nz (L 214 x7.toNatClampNeg) 0) <|
    nm ((y3 * (v_70 / y5)) + ((L 213 x7.toNatClampNeg) * (v_70 / (L 214 x7.toNatClampNeg)))) fun v_98 =>
    some (.inl (v_98, v_70, (x7 + 1)))
theorem s_X12_findEase_34b {x1 : Int32} {x2 : Int32} {y3 : Int64} {y5 : Int64} {x7 : Int32} {M : px_M} {L : px_L} {R : px_R} {e : ((Int64 × Int64 × Int32) ⊕ (Int64 × Int64))} (hS : SR sh R) (hd : 3 ≤ d) (hcu : cu ≤ mc) (hsu : su ≤ ms) (h : f_X12_findEase_34 sh M L R x1 x2 y3 y5 x7 = some e) (g : (sE (fun a => WX RX12 cX12_findEase 12 (some .boolean) ("findEase", []) d mc ms X (px_QF Post mc ms) 34 [(0, .ref 73), (1, .int x1), (2, .int x2), (3, .long a.1), (5, .long a.2.1), (7, .int a.2.2)] [] sh M L R n cu su) (fun t => WX RX12 cX12_findEase 12 (some .boolean) ("findEase", []) d mc ms X (px_QF Post mc ms) 109 [(0, .ref 73), (1, .int x1), (2, .int x2), (3, .long t.1), (5, .long t.2)] [] sh M L R n cu su)) e) : WX RX12 cX12_findEase 12 (some .boolean) ("findEase", []) d mc ms X (px_QF Post mc ms) 34 [(0, .ref 73), (1, .int x1), (2, .int x2), (3, .long y3), (5, .long y5), (7, .int x7)] [] sh M L R n cu su := by
  unfold f_X12_findEase_34 at h
  refine wx_iload dX12_findEase_34 rfl ?_
  refine wx_aload_n dX12_findEase_36 rfl ?_
  refine wx_getI dX12_findEase_37 fl_X12_452 (sc_73 hS) rfl ?_
  refine wx_icmp_ge (tgt := 109) dX12_findEase_40 (by decide) (fun c_40 => ?_) (fun c_40 => ?_)
  · replace h := it_t h c_40
    obtain rfl := Option.some.inj h
    replace g := sE_r g
    exact wx_sub g (px_s rfl (px_s rfl (px_s rfl (px_s rfl (px_s rfl px_0)))))
  · replace h := it_f h c_40
    refine wx_lload dX12_findEase_43 rfl ?_
    refine wx_aload_n dX12_findEase_45 rfl ?_
    refine wx_getR dX12_findEase_46 fl_X12_164 (sc_73 hS) rfl (rr_73_70 hS) ?_
    refine wx_iload dX12_findEase_49 rfl ?_
    obtain ⟨w_51, h⟩ := ok_some h
    refine wx_lald dX12_findEase_51 (sc_214 hS) (ix_in w_51) ?_
    obtain ⟨e_52, k_52, h⟩ := bd1_some h
    refine wx_cSl dX12_findEase_52 ml_X12_459 my_X12_divisor sv_X12_divisor (s_X12_divisor (d := d - 1) hS (by omega) k_52) rfl (by omega) (by exact Nat.le_of_ble_eq_true rfl) hcu hsu ?_
    refine wx_lstore (lv' := [(8, _), (0, _), (1, _), (2, _), (3, _), (5, _), (7, _)]) dX12_findEase_55 (by decide) rfl ?_
    refine wx_lload dX12_findEase_57 rfl ?_
    refine wx_lload dX12_findEase_59 rfl ?_
    obtain ⟨w_61, h⟩ := ok_some h
    refine wx_ldiv dX12_findEase_61 (nz_n w_61) ?_
    refine wx_aload_n dX12_findEase_62 rfl ?_
    refine wx_getR dX12_findEase_63 fl_X12_164 (sc_73 hS) rfl (rr_73_70 hS) ?_
    refine wx_iload dX12_findEase_66 rfl ?_
    obtain ⟨w_68, h⟩ := ok_some h
    refine wx_lald dX12_findEase_68 (sc_214 hS) (ix_in w_68) ?_
    refine wx_lmul dX12_findEase_69 ?_
    refine wx_naml (fun v_70 q_70 => ?_)
    replace h := nm_at h q_70
    refine wx_lstore (lv' := [(10, _), (8, _), (0, _), (1, _), (2, _), (3, _), (5, _), (7, _)]) dX12_findEase_70 (by decide) rfl ?_
    refine wx_lload_n dX12_findEase_72 rfl ?_
    refine wx_lload dX12_findEase_73 rfl ?_
    refine wx_lload dX12_findEase_75 rfl ?_
    obtain ⟨w_77, h⟩ := ok_some h
    refine wx_ldiv dX12_findEase_77 (nz_n w_77) ?_
    refine wx_lmul dX12_findEase_78 ?_
    refine wx_aload_n dX12_findEase_79 rfl ?_
    refine wx_getR dX12_findEase_80 fl_X12_160 (sc_73 hS) rfl (rr_73_69 hS) ?_
    refine wx_iload dX12_findEase_83 rfl ?_
    obtain ⟨w_85, h⟩ := ok_some h
    refine wx_lald dX12_findEase_85 (sc_213 hS) (ix_in w_85) ?_
    refine wx_lload dX12_findEase_86 rfl ?_
    refine wx_aload_n dX12_findEase_88 rfl ?_
    refine wx_getR dX12_findEase_89 fl_X12_164 (sc_73 hS) rfl (rr_73_70 hS) ?_
    refine wx_iload dX12_findEase_92 rfl ?_
    obtain ⟨w_94, h⟩ := ok_some h
    refine wx_lald dX12_findEase_94 (sc_214 hS) (ix_in w_94) ?_
    obtain ⟨w_95, h⟩ := ok_some h
    refine wx_ldiv dX12_findEase_95 (nz_n w_95) ?_
    refine wx_lmul dX12_findEase_96 ?_
    refine wx_ladd dX12_findEase_97 ?_
    refine wx_naml (fun v_98 q_98 => ?_)
    replace h := nm_at h q_98
    refine wx_lstore_n (lv' := [(3, _), (10, _), (8, _), (0, _), (1, _), (2, _), (5, _), (7, _)]) dX12_findEase_98 (by decide) rfl ?_
    refine wx_lload dX12_findEase_99 rfl ?_
    refine wx_lstore (lv' := [(5, _), (3, _), (10, _), (8, _), (0, _), (1, _), (2, _), (7, _)]) dX12_findEase_101 (by decide) rfl ?_
    refine wx_iinc (lv' := [(7, _), (5, _), (3, _), (10, _), (8, _), (0, _), (1, _), (2, _)]) dX12_findEase_103 rfl (i_1 _) (by decide) rfl ?_
    refine wx_goto (tgt := 34) dX12_findEase_106 (by decide) ?_
    obtain rfl := Option.some.inj h
    replace g := sE_l g
    exact wx_sub g (px_s rfl (px_s rfl (px_s rfl (px_s rfl (px_s rfl (px_s rfl px_0))))))
theorem s_X12_findEase_34 {x1 : Int32} {x2 : Int32} {y3 : Int64} {y5 : Int64} {x7 : Int32} {M : px_M} {L : px_L} {R : px_R} {e : (Int64 × Int64)} (hS : SR sh R) (hd : 3 ≤ d) (hcu : cu ≤ mc) (hsu : su ≤ ms) (h : lpf (fun a : Int64 × Int64 × Int32 => f_X12_findEase_34 sh M L R x1 x2 a.1 a.2.1 a.2.2) (y3, y5, x7) = some e) (g : WX RX12 cX12_findEase 12 (some .boolean) ("findEase", []) d mc ms X (px_QF Post mc ms) 109 [(0, .ref 73), (1, .int x1), (2, .int x2), (3, .long e.1), (5, .long e.2)] [] sh M L R n cu su) : WX RX12 cX12_findEase 12 (some .boolean) ("findEase", []) d mc ms X (px_QF Post mc ms) 34 [(0, .ref 73), (1, .int x1), (2, .int x2), (3, .long y3), (5, .long y5), (7, .int x7)] [] sh M L R n cu su := by
  have key := lpf_wp (P := (fun a => WX RX12 cX12_findEase 12 (some .boolean) ("findEase", []) d mc ms X (px_QF Post mc ms) 34 [(0, .ref 73), (1, .int x1), (2, .int x2), (3, .long a.1), (5, .long a.2.1), (7, .int a.2.2)] [] sh M L R n cu su)) (G := (fun t => WX RX12 cX12_findEase 12 (some .boolean) ("findEase", []) d mc ms X (px_QF Post mc ms) 109 [(0, .ref 73), (1, .int x1), (2, .int x2), (3, .long t.1), (5, .long t.2)] [] sh M L R n cu su)) (fun a r h g => s_X12_findEase_34b (x1 := x1) (x2 := x2) (y3 := a.1) (y5 := a.2.1) (x7 := a.2.2) (M := M) (L := L) (R := R) hS hd hcu hsu h g) (a := (y3, y5, x7)) h g
  exact key
noncomputable def f_X12_findEase_166 (sh : px_Sh) (M : px_M) (L : px_L) (R : px_R) (x1 : Int32) (x2 : Int32) : Option ((Int32 × Int32 × px_M × px_L) ⊕ (Int32 × px_M × px_L)) :=
  some (.inl (x1, (x2 + 1), M, L))
theorem s_X12_findEase_166 {x1 : Int32} {x2 : Int32} {M : px_M} {L : px_L} {R : px_R} {e : ((Int32 × Int32 × px_M × px_L) ⊕ (Int32 × px_M × px_L))} (hS : SR sh R) (hd : 3 ≤ d) (hcu : cu ≤ mc) (hsu : su ≤ ms) (h : f_X12_findEase_166 sh M L R x1 x2 = some e) (g : (sE (fun a => WX RX12 cX12_findEase 12 (some .boolean) ("findEase", []) d mc ms X (px_QF Post mc ms) 4 [(0, .ref 73), (1, .int a.1), (2, .int a.2.1)] [] sh (a.2.2.1) (a.2.2.2) R n cu su) (fun t => WX RX12 cX12_findEase 12 (some .boolean) ("findEase", []) d mc ms X (px_QF Post mc ms) 172 [(1, .int t.1)] [] sh (t.2.1) (t.2.2) R n cu su)) e) : WX RX12 cX12_findEase 12 (some .boolean) ("findEase", []) d mc ms X (px_QF Post mc ms) 166 [(0, .ref 73), (1, .int x1), (2, .int x2)] [] sh M L R n cu su := by
  unfold f_X12_findEase_166 at h
  refine wx_iinc (lv' := [(2, _), (0, _), (1, _)]) dX12_findEase_166 rfl (i_1 _) (by decide) rfl ?_
  refine wx_goto (tgt := 4) dX12_findEase_169 (by decide) ?_
  obtain rfl := Option.some.inj h
  replace g := sE_l g
  exact wx_sub g (px_s rfl (px_s rfl (px_s rfl px_0)))
noncomputable def f_X12_findEase_153 (sh : px_Sh) (M : px_M) (L : px_L) (R : px_R) (x2 : Int32) (y3 : Int64) (y5 : Int64) : Option ((Int32 × Int32 × px_M × px_L) ⊕ (Int32 × px_M × px_L)) :=
  nm (px_u L 73 71 y3) fun L_157 =>
  nm (px_u L_157 73 72 y5) fun L_163 =>
  f_X12_findEase_166 sh M L_163 R 1 x2
theorem s_X12_findEase_153 {x2 : Int32} {y3 : Int64} {y5 : Int64} {M : px_M} {L : px_L} {R : px_R} {e : ((Int32 × Int32 × px_M × px_L) ⊕ (Int32 × px_M × px_L))} (hS : SR sh R) (hd : 3 ≤ d) (hcu : cu ≤ mc) (hsu : su ≤ ms) (h : f_X12_findEase_153 sh M L R x2 y3 y5 = some e) (g : (sE (fun a => WX RX12 cX12_findEase 12 (some .boolean) ("findEase", []) d mc ms X (px_QF Post mc ms) 4 [(0, .ref 73), (1, .int a.1), (2, .int a.2.1)] [] sh (a.2.2.1) (a.2.2.2) R n cu su) (fun t => WX RX12 cX12_findEase 12 (some .boolean) ("findEase", []) d mc ms X (px_QF Post mc ms) 172 [(1, .int t.1)] [] sh (t.2.1) (t.2.2) R n cu su)) e) : WX RX12 cX12_findEase 12 (some .boolean) ("findEase", []) d mc ms X (px_QF Post mc ms) 153 [(0, .ref 73), (2, .int x2), (3, .long y3), (5, .long y5)] [] sh M L R n cu su := by
  unfold f_X12_findEase_153 at h
  refine wx_iconst (v := 1) dX12_findEase_153 (by decide) ?_
  refine wx_istore_n (lv' := [(1, _), (0, _), (2, _), (3, _), (5, _)]) dX12_findEase_154 (by decide) rfl ?_
  refine wx_aload_n dX12_findEase_155 rfl ?_
  refine wx_lload_n dX12_findEase_156 rfl ?_
  refine wx_putL dX12_findEase_157 fl_X12_477 (sc_73 hS) (Or.inl rfl) rfl ⟨rfl, rfl⟩ ?_
  refine wx_namL (fun L_157 q_157 => ?_)
  replace h := nm_at h q_157
  refine wx_aload_n dX12_findEase_160 rfl ?_
  refine wx_lload dX12_findEase_161 rfl ?_
  refine wx_putL dX12_findEase_163 fl_X12_473 (sc_73 hS) (Or.inl rfl) rfl ⟨rfl, rfl⟩ ?_
  refine wx_namL (fun L_163 q_163 => ?_)
  replace h := nm_at h q_163
  exact wx_sub (s_X12_findEase_166 hS hd hcu hsu h g) (px_s rfl (px_s rfl (px_s rfl px_0)))
noncomputable def f_X12_findEase_4 (sh : px_Sh) (M : px_M) (L : px_L) (R : px_R) (x1 : Int32) (x2 : Int32) : Option ((Int32 × Int32 × px_M × px_L) ⊕ (Int32 × px_M × px_L)) :=
  if (1 <<< ((M 73 58) &&& 31)) ≤ x2 then
    some (.inr (x1, M, L))
  else
    bd1 (f_X12_solves sh M L R x2 (-1)) fun e_17 =>
    if e_17.1 = 0 then
      f_X12_findEase_166 sh e_17.2.1 e_17.2.2 R x1 x2
    else
      bd1 (lpf (fun a : Int64 × Int64 × Int32 => f_X12_findEase_34 sh e_17.2.1 e_17.2.2 R x1 x2 a.1 a.2.1 a.2.2) (0, 1, 0)) fun e_34 =>
      bd1 (f_X12_divisor e_34.1 e_34.2) fun e_112 =>
      ok (nz e_112 0) <|
      nm (e_34.1 / e_112) fun v_121 =>
      ok (nz e_112 0) <|
      nm (e_34.2 / e_112) fun v_127 =>
      if x1 = 0 then
        f_X12_findEase_153 sh e_17.2.1 e_17.2.2 R x2 v_121 v_127
      else
        if (lg_cmp (v_121 * (e_17.2.2 73 72)) ((e_17.2.2 73 71) * v_127)) < 0 then
          f_X12_findEase_153 sh e_17.2.1 e_17.2.2 R x2 v_121 v_127
        else
          f_X12_findEase_166 sh e_17.2.1 e_17.2.2 R x1 x2
theorem s_X12_findEase_4b {x1 : Int32} {x2 : Int32} {M : px_M} {L : px_L} {R : px_R} {e : ((Int32 × Int32 × px_M × px_L) ⊕ (Int32 × px_M × px_L))} (hS : SR sh R) (hd : 3 ≤ d) (hcu : cu ≤ mc) (hsu : su ≤ ms) (h : f_X12_findEase_4 sh M L R x1 x2 = some e) (g : (sE (fun a => WX RX12 cX12_findEase 12 (some .boolean) ("findEase", []) d mc ms X (px_QF Post mc ms) 4 [(0, .ref 73), (1, .int a.1), (2, .int a.2.1)] [] sh (a.2.2.1) (a.2.2.2) R n cu su) (fun t => WX RX12 cX12_findEase 12 (some .boolean) ("findEase", []) d mc ms X (px_QF Post mc ms) 172 [(1, .int t.1)] [] sh (t.2.1) (t.2.2) R n cu su)) e) : WX RX12 cX12_findEase 12 (some .boolean) ("findEase", []) d mc ms X (px_QF Post mc ms) 4 [(0, .ref 73), (1, .int x1), (2, .int x2)] [] sh M L R n cu su := by
  unfold f_X12_findEase_4 at h
  refine wx_iload_n dX12_findEase_4 rfl ?_
  refine wx_iconst (v := 1) dX12_findEase_5 (by decide) ?_
  refine wx_aload_n dX12_findEase_6 rfl ?_
  refine wx_getI dX12_findEase_7 fl_X12_452 (sc_73 hS) rfl ?_
  refine wx_ishl dX12_findEase_10 ?_
  refine wx_icmp_ge (tgt := 172) dX12_findEase_11 (by decide) (fun c_11 => ?_) (fun c_11 => ?_)
  · replace h := it_t h c_11
    obtain rfl := Option.some.inj h
    replace g := sE_r g
    exact wx_sub g (px_s rfl px_0)
  · replace h := it_f h c_11
    refine wx_aload_n dX12_findEase_14 rfl ?_
    refine wx_iload_n dX12_findEase_15 rfl ?_
    refine wx_iconst (v := (-1)) dX12_findEase_16 (by decide) ?_
    obtain ⟨e_17, k_17, h⟩ := bd1_some h
    refine wx_cVi dX12_findEase_17 ml_X12_470 my_X12_solves iv_X12_solves (sc_73 hS) (by decide) (s_X12_solves (d := d - 1) hS (by omega) k_17) rfl (by omega) (by exact Nat.le_of_ble_eq_true rfl) hcu hsu ?_
    refine wx_if_ne (tgt := 26) dX12_findEase_20 (by decide) (fun c_20 => ?_) (fun c_20 => ?_)
    · replace h := it_f h c_20
      refine wx_lconst (v := 0) dX12_findEase_26 (by decide) ?_
      refine wx_lstore_n (lv' := [(3, _), (0, _), (1, _), (2, _)]) dX12_findEase_27 (by decide) rfl ?_
      refine wx_lconst (v := 1) dX12_findEase_28 (by decide) ?_
      refine wx_lstore (lv' := [(5, _), (3, _), (0, _), (1, _), (2, _)]) dX12_findEase_29 (by decide) rfl ?_
      refine wx_iconst (v := 0) dX12_findEase_31 (by decide) ?_
      refine wx_istore (lv' := [(7, _), (5, _), (3, _), (0, _), (1, _), (2, _)]) dX12_findEase_32 (by decide) rfl ?_
      obtain ⟨e_34, k_34, h⟩ := bd1_some h
      refine wx_sub (s_X12_findEase_34 hS hd hcu hsu k_34 ?_) (px_s rfl (px_s rfl (px_s rfl (px_s rfl (px_s rfl (px_s rfl px_0))))))
      refine wx_lload_n dX12_findEase_109 rfl ?_
      refine wx_lload dX12_findEase_110 rfl ?_
      obtain ⟨e_112, k_112, h⟩ := bd1_some h
      refine wx_cSl dX12_findEase_112 ml_X12_459 my_X12_divisor sv_X12_divisor (s_X12_divisor (d := d - 1) hS (by omega) k_112) rfl (by omega) (by exact Nat.le_of_ble_eq_true rfl) hcu hsu ?_
      refine wx_lstore (lv' := [(7, _), (0, _), (1, _), (2, _), (3, _), (5, _)]) dX12_findEase_115 (by decide) rfl ?_
      refine wx_lload_n dX12_findEase_117 rfl ?_
      refine wx_lload dX12_findEase_118 rfl ?_
      obtain ⟨w_120, h⟩ := ok_some h
      refine wx_ldiv dX12_findEase_120 (nz_n w_120) ?_
      refine wx_naml (fun v_121 q_121 => ?_)
      replace h := nm_at h q_121
      refine wx_lstore_n (lv' := [(3, _), (7, _), (0, _), (1, _), (2, _), (5, _)]) dX12_findEase_121 (by decide) rfl ?_
      refine wx_lload dX12_findEase_122 rfl ?_
      refine wx_lload dX12_findEase_124 rfl ?_
      obtain ⟨w_126, h⟩ := ok_some h
      refine wx_ldiv dX12_findEase_126 (nz_n w_126) ?_
      refine wx_naml (fun v_127 q_127 => ?_)
      replace h := nm_at h q_127
      refine wx_lstore (lv' := [(5, _), (3, _), (7, _), (0, _), (1, _), (2, _)]) dX12_findEase_127 (by decide) rfl ?_
      refine wx_iload_n dX12_findEase_129 rfl ?_
      refine wx_if_eq (tgt := 153) dX12_findEase_130 (by decide) (fun c_130 => ?_) (fun c_130 => ?_)
      · replace h := it_t h c_130
        exact wx_sub (s_X12_findEase_153 hS hd hcu hsu h g) (px_s rfl (px_s rfl (px_s rfl (px_s rfl px_0))))
      · replace h := it_f h c_130
        refine wx_lload_n dX12_findEase_133 rfl ?_
        refine wx_aload_n dX12_findEase_134 rfl ?_
        refine wx_getL dX12_findEase_135 fl_X12_473 (sc_73 hS) rfl ?_
        refine wx_lmul dX12_findEase_138 ?_
        refine wx_aload_n dX12_findEase_139 rfl ?_
        refine wx_getL dX12_findEase_140 fl_X12_477 (sc_73 hS) rfl ?_
        refine wx_lload dX12_findEase_143 rfl ?_
        refine wx_lmul dX12_findEase_145 ?_
        refine wx_lcmp dX12_findEase_146 ?_
        refine wx_if_lt (tgt := 153) dX12_findEase_147 (by decide) (fun c_147 => ?_) (fun c_147 => ?_)
        · replace h := it_t h c_147
          exact wx_sub (s_X12_findEase_153 hS hd hcu hsu h g) (px_s rfl (px_s rfl (px_s rfl (px_s rfl px_0))))
        · replace h := it_f h c_147
          refine wx_goto (tgt := 166) dX12_findEase_150 (by decide) ?_
          exact wx_sub (s_X12_findEase_166 hS hd hcu hsu h g) (px_s rfl (px_s rfl (px_s rfl px_0)))
    · replace h := it_t h c_20
      refine wx_goto (tgt := 166) dX12_findEase_23 (by decide) ?_
      exact wx_sub (s_X12_findEase_166 hS hd hcu hsu h g) (px_s rfl (px_s rfl (px_s rfl px_0)))
theorem s_X12_findEase_4 {x1 : Int32} {x2 : Int32} {M : px_M} {L : px_L} {R : px_R} {e : (Int32 × px_M × px_L)} (hS : SR sh R) (hd : 3 ≤ d) (hcu : cu ≤ mc) (hsu : su ≤ ms) (h : lpf (fun a : Int32 × Int32 × px_M × px_L => f_X12_findEase_4 sh a.2.2.1 a.2.2.2 R a.1 a.2.1) (x1, x2, M, L) = some e) (g : WX RX12 cX12_findEase 12 (some .boolean) ("findEase", []) d mc ms X (px_QF Post mc ms) 172 [(1, .int e.1)] [] sh (e.2.1) (e.2.2) R n cu su) : WX RX12 cX12_findEase 12 (some .boolean) ("findEase", []) d mc ms X (px_QF Post mc ms) 4 [(0, .ref 73), (1, .int x1), (2, .int x2)] [] sh M L R n cu su := by
  have key := lpf_wp (P := (fun a => WX RX12 cX12_findEase 12 (some .boolean) ("findEase", []) d mc ms X (px_QF Post mc ms) 4 [(0, .ref 73), (1, .int a.1), (2, .int a.2.1)] [] sh (a.2.2.1) (a.2.2.2) R n cu su)) (G := (fun t => WX RX12 cX12_findEase 12 (some .boolean) ("findEase", []) d mc ms X (px_QF Post mc ms) 172 [(1, .int t.1)] [] sh (t.2.1) (t.2.2) R n cu su)) (fun a r h g => s_X12_findEase_4b (x1 := a.1) (x2 := a.2.1) (M := a.2.2.1) (L := a.2.2.2) (R := R) hS hd hcu hsu h g) (a := (x1, x2, M, L)) h g
  exact key
noncomputable def f_X12_findEase (sh : px_Sh) (M : px_M) (L : px_L) (R : px_R) : Option (Int32 × px_M × px_L) :=
  bd1 (lpf (fun a : Int32 × Int32 × px_M × px_L => f_X12_findEase_4 sh a.2.2.1 a.2.2.2 R a.1 a.2.1) (0, 0, M, L)) fun e_4 =>
  ok (zb e_4.1) <|
  some (e_4.1, e_4.2.1, e_4.2.2)
theorem s_X12_findEase {d : Nat} {X : Nat × (Nat → Int32)} {sh : px_Sh} {M : px_M} {L : px_L} {R : px_R} {n : Nat} {e : Int32 × px_M × px_L} (hS : SR sh R) (hd : 3 ≤ d) (h : f_X12_findEase sh M L R = some e) : MX yX12_findEase cX12_findEase 12 (some .boolean) d 0 0 X [.ref 73] sh M L R n (px_pu (some (.int e.1)) sh e.2.1 e.2.2 R n) := by
  refine MX.of (by decide +kernel) (by exact Nat.le_of_ble_eq_true rfl) ?_
  have hcu : 0 ≤ 0 := Nat.zero_le _
  have hsu : 0 ≤ 0 := Nat.zero_le _
  have g : px_pu (some (.int e.1)) sh e.2.1 e.2.2 R n (some (.int e.1)) sh e.2.1 e.2.2 R n := ⟨rfl, rfl, rfl, rfl, rfl, rfl⟩
  unfold f_X12_findEase at h
  refine wx_iconst (v := 0) dX12_findEase_0 (by decide) ?_
  refine wx_istore_n (lv' := [(1, _), (0, _)]) dX12_findEase_1 (by decide) rfl ?_
  refine wx_iconst (v := 0) dX12_findEase_2 (by decide) ?_
  refine wx_istore_n (lv' := [(2, _), (1, _), (0, _)]) dX12_findEase_3 (by decide) rfl ?_
  obtain ⟨e_4, k_4, h⟩ := bd1_some h
  refine wx_sub (s_X12_findEase_4 hS hd hcu hsu k_4 ?_) (px_s rfl (px_s rfl (px_s rfl px_0)))
  refine wx_iload_n dX12_findEase_172 rfl ?_
  obtain ⟨w_173, h⟩ := ok_some h
  refine wx_zret dX12_findEase_173 (zb_n w_173) hcu hsu ?_
  obtain rfl := Option.some.inj h
  exact g
noncomputable def f_X12_hangs (sh : px_Sh) (M : px_M) (L : px_L) (R : px_R) : Option (Int32 × px_M × px_L) :=
  nm (px_u M 73 0 0) fun M_2 =>
  bd1 (f_X12_findEase sh M_2 L R) fun e_6 =>
  ok (zb e_6.1) <|
  some (e_6.1, e_6.2.1, e_6.2.2)
theorem s_X12_hangs {d : Nat} {X : Nat × (Nat → Int32)} {sh : px_Sh} {M : px_M} {L : px_L} {R : px_R} {n : Nat} {e : Int32 × px_M × px_L} (hS : SR sh R) (hd : 4 ≤ d) (h : f_X12_hangs sh M L R = some e) : MX yX12_hangs cX12_hangs 1 (some .boolean) d 0 0 X [.ref 73] sh M L R n (px_pu (some (.int e.1)) sh e.2.1 e.2.2 R n) := by
  refine MX.of (by decide +kernel) (by exact Nat.le_of_ble_eq_true rfl) ?_
  have hcu : 0 ≤ 0 := Nat.zero_le _
  have hsu : 0 ≤ 0 := Nat.zero_le _
  have g : px_pu (some (.int e.1)) sh e.2.1 e.2.2 R n (some (.int e.1)) sh e.2.1 e.2.2 R n := ⟨rfl, rfl, rfl, rfl, rfl, rfl⟩
  unfold f_X12_hangs at h
  refine wx_aload_n dX12_hangs_0 rfl ?_
  refine wx_iconst (v := 0) dX12_hangs_1 (by decide) ?_
  refine wx_putI dX12_hangs_2 fl_X12_179 (sc_73 hS) (Or.inl rfl) rfl ⟨rfl, rfl⟩ ?_
  refine wx_namM (fun M_2 q_2 => ?_)
  replace h := nm_at h q_2
  refine wx_aload_n dX12_hangs_5 rfl ?_
  obtain ⟨e_6, k_6, h⟩ := bd1_some h
  refine wx_cVi dX12_hangs_6 ml_X12_480 my_X12_findEase iv_X12_findEase (sc_73 hS) (by decide) (s_X12_findEase (d := d - 1) hS (by omega) k_6) rfl (by omega) (by exact Nat.le_of_ble_eq_true rfl) hcu hsu ?_
  obtain ⟨w_9, h⟩ := ok_some h
  refine wx_zret dX12_hangs_9 (zb_n w_9) hcu hsu ?_
  obtain rfl := Option.some.inj h
  exact g
noncomputable def f_X12_isCorner_43 (sh : px_Sh) (M : px_M) (L : px_L) (R : px_R) (x1 : Int32) (x2 : Int32) (x3 : Int32) : Option ((Int32 × px_M × px_L) ⊕ ((px_M × px_L) ⊕ (px_M × px_L))) :=
  some (.inl ((x3 + 1), M, L))
theorem s_X12_isCorner_43 {x1 : Int32} {x2 : Int32} {x3 : Int32} {M : px_M} {L : px_L} {R : px_R} {e : ((Int32 × px_M × px_L) ⊕ ((px_M × px_L) ⊕ (px_M × px_L)))} (hS : SR sh R) (hd : 3 ≤ d) (hcu : cu ≤ mc) (hsu : su ≤ ms) (h : f_X12_isCorner_43 sh M L R x1 x2 x3 = some e) (g : (sE (fun a => WX RX12 cX12_isCorner 4 (some .boolean) ("isCorner", []) d mc ms X (px_QF Post mc ms) 2 [(0, .ref 73), (1, .int x1), (2, .int x2), (3, .int a.1)] [] sh (a.2.1) (a.2.2) R n cu su) (sE (fun t => WX RX12 cX12_isCorner 4 (some .boolean) ("isCorner", []) d mc ms X (px_QF Post mc ms) 41 [] [] sh (t.1) (t.2) R n cu su) (fun t => WX RX12 cX12_isCorner 4 (some .boolean) ("isCorner", []) d mc ms X (px_QF Post mc ms) 49 [] [] sh (t.1) (t.2) R n cu su))) e) : WX RX12 cX12_isCorner 4 (some .boolean) ("isCorner", []) d mc ms X (px_QF Post mc ms) 43 [(0, .ref 73), (1, .int x1), (2, .int x2), (3, .int x3)] [] sh M L R n cu su := by
  unfold f_X12_isCorner_43 at h
  refine wx_iinc (lv' := [(3, _), (0, _), (1, _), (2, _)]) dX12_isCorner_43 rfl (i_1 _) (by decide) rfl ?_
  refine wx_goto (tgt := 2) dX12_isCorner_46 (by decide) ?_
  obtain rfl := Option.some.inj h
  replace g := sE_l g
  exact wx_sub g (px_s rfl (px_s rfl (px_s rfl (px_s rfl px_0))))
noncomputable def f_X12_isCorner_37 (sh : px_Sh) (M : px_M) (L : px_L) (R : px_R) (x1 : Int32) (x2 : Int32) (x3 : Int32) (z0 : Int32) : Option ((Int32 × px_M × px_L) ⊕ ((px_M × px_L) ⊕ (px_M × px_L))) :=
  if z0 = x2 then
    some (.inr (.inl (M, L)))
  else
    f_X12_isCorner_43 sh M L R x1 x2 x3
theorem s_X12_isCorner_37 {x1 : Int32} {x2 : Int32} {x3 : Int32} {z0 : Int32} {M : px_M} {L : px_L} {R : px_R} {e : ((Int32 × px_M × px_L) ⊕ ((px_M × px_L) ⊕ (px_M × px_L)))} (hS : SR sh R) (hd : 3 ≤ d) (hcu : cu ≤ mc) (hsu : su ≤ ms) (h : f_X12_isCorner_37 sh M L R x1 x2 x3 z0 = some e) (g : (sE (fun a => WX RX12 cX12_isCorner 4 (some .boolean) ("isCorner", []) d mc ms X (px_QF Post mc ms) 2 [(0, .ref 73), (1, .int x1), (2, .int x2), (3, .int a.1)] [] sh (a.2.1) (a.2.2) R n cu su) (sE (fun t => WX RX12 cX12_isCorner 4 (some .boolean) ("isCorner", []) d mc ms X (px_QF Post mc ms) 41 [] [] sh (t.1) (t.2) R n cu su) (fun t => WX RX12 cX12_isCorner 4 (some .boolean) ("isCorner", []) d mc ms X (px_QF Post mc ms) 49 [] [] sh (t.1) (t.2) R n cu su))) e) : WX RX12 cX12_isCorner 4 (some .boolean) ("isCorner", []) d mc ms X (px_QF Post mc ms) 37 [(0, .ref 73), (1, .int x1), (2, .int x2), (3, .int x3)] [.int z0] sh M L R n cu su := by
  unfold f_X12_isCorner_37 at h
  refine wx_iload_n dX12_isCorner_37 rfl ?_
  refine wx_icmp_ne (tgt := 43) dX12_isCorner_38 (by decide) (fun c_38 => ?_) (fun c_38 => ?_)
  · replace h := it_f h c_38
    exact wx_sub (s_X12_isCorner_43 hS hd hcu hsu h g) (px_s rfl (px_s rfl (px_s rfl (px_s rfl px_0))))
  · replace h := it_t h c_38
    obtain rfl := Option.some.inj h
    replace g := sE_l (sE_r g)
    exact wx_sub g px_0
noncomputable def f_X12_isCorner_2 (sh : px_Sh) (M : px_M) (L : px_L) (R : px_R) (x1 : Int32) (x2 : Int32) (x3 : Int32) : Option ((Int32 × px_M × px_L) ⊕ ((px_M × px_L) ⊕ (px_M × px_L))) :=
  if (1 <<< ((M 73 58) &&& 31)) ≤ x3 then
    some (.inr (.inr (M, L)))
  else
    bd1 (f_X12_solves sh M L R x3 (-1)) fun e_15 =>
    if e_15.1 = 0 then
      f_X12_isCorner_43 sh e_15.2.1 e_15.2.2 R x1 x2 x3
    else
      ok (ix x1 6) <|
      if (lg_cmp (e_15.2.2 213 x1.toNatClampNeg) 0) = 0 then
        f_X12_isCorner_37 sh e_15.2.1 e_15.2.2 R x1 x2 x3 1
      else
        f_X12_isCorner_37 sh e_15.2.1 e_15.2.2 R x1 x2 x3 0
theorem s_X12_isCorner_2b {x1 : Int32} {x2 : Int32} {x3 : Int32} {M : px_M} {L : px_L} {R : px_R} {e : ((Int32 × px_M × px_L) ⊕ ((px_M × px_L) ⊕ (px_M × px_L)))} (hS : SR sh R) (hd : 3 ≤ d) (hcu : cu ≤ mc) (hsu : su ≤ ms) (h : f_X12_isCorner_2 sh M L R x1 x2 x3 = some e) (g : (sE (fun a => WX RX12 cX12_isCorner 4 (some .boolean) ("isCorner", []) d mc ms X (px_QF Post mc ms) 2 [(0, .ref 73), (1, .int x1), (2, .int x2), (3, .int a.1)] [] sh (a.2.1) (a.2.2) R n cu su) (sE (fun t => WX RX12 cX12_isCorner 4 (some .boolean) ("isCorner", []) d mc ms X (px_QF Post mc ms) 41 [] [] sh (t.1) (t.2) R n cu su) (fun t => WX RX12 cX12_isCorner 4 (some .boolean) ("isCorner", []) d mc ms X (px_QF Post mc ms) 49 [] [] sh (t.1) (t.2) R n cu su))) e) : WX RX12 cX12_isCorner 4 (some .boolean) ("isCorner", []) d mc ms X (px_QF Post mc ms) 2 [(0, .ref 73), (1, .int x1), (2, .int x2), (3, .int x3)] [] sh M L R n cu su := by
  unfold f_X12_isCorner_2 at h
  refine wx_iload_n dX12_isCorner_2 rfl ?_
  refine wx_iconst (v := 1) dX12_isCorner_3 (by decide) ?_
  refine wx_aload_n dX12_isCorner_4 rfl ?_
  refine wx_getI dX12_isCorner_5 fl_X12_452 (sc_73 hS) rfl ?_
  refine wx_ishl dX12_isCorner_8 ?_
  refine wx_icmp_ge (tgt := 49) dX12_isCorner_9 (by decide) (fun c_9 => ?_) (fun c_9 => ?_)
  · replace h := it_t h c_9
    obtain rfl := Option.some.inj h
    replace g := sE_r (sE_r g)
    exact wx_sub g px_0
  · replace h := it_f h c_9
    refine wx_aload_n dX12_isCorner_12 rfl ?_
    refine wx_iload_n dX12_isCorner_13 rfl ?_
    refine wx_iconst (v := (-1)) dX12_isCorner_14 (by decide) ?_
    obtain ⟨e_15, k_15, h⟩ := bd1_some h
    refine wx_cVi dX12_isCorner_15 ml_X12_470 my_X12_solves iv_X12_solves (sc_73 hS) (by decide) (s_X12_solves (d := d - 1) hS (by omega) k_15) rfl (by omega) (by exact Nat.le_of_ble_eq_true rfl) hcu hsu ?_
    refine wx_if_eq (tgt := 43) dX12_isCorner_18 (by decide) (fun c_18 => ?_) (fun c_18 => ?_)
    · replace h := it_t h c_18
      exact wx_sub (s_X12_isCorner_43 hS hd hcu hsu h g) (px_s rfl (px_s rfl (px_s rfl (px_s rfl px_0))))
    · replace h := it_f h c_18
      refine wx_aload_n dX12_isCorner_21 rfl ?_
      refine wx_getR dX12_isCorner_22 fl_X12_160 (sc_73 hS) rfl (rr_73_69 hS) ?_
      refine wx_iload_n dX12_isCorner_25 rfl ?_
      obtain ⟨w_26, h⟩ := ok_some h
      refine wx_lald dX12_isCorner_26 (sc_213 hS) (ix_in w_26) ?_
      refine wx_lconst (v := 0) dX12_isCorner_27 (by decide) ?_
      refine wx_lcmp dX12_isCorner_28 ?_
      refine wx_if_ne (tgt := 36) dX12_isCorner_29 (by decide) (fun c_29 => ?_) (fun c_29 => ?_)
      · replace h := it_f h c_29
        refine wx_iconst (v := 0) dX12_isCorner_36 (by decide) ?_
        exact wx_sub (s_X12_isCorner_37 hS hd hcu hsu h g) (px_s rfl (px_s rfl (px_s rfl (px_s rfl px_0))))
      · replace h := it_t h c_29
        refine wx_iconst (v := 1) dX12_isCorner_32 (by decide) ?_
        refine wx_goto (tgt := 37) dX12_isCorner_33 (by decide) ?_
        exact wx_sub (s_X12_isCorner_37 hS hd hcu hsu h g) (px_s rfl (px_s rfl (px_s rfl (px_s rfl px_0))))
theorem s_X12_isCorner_2 {x1 : Int32} {x2 : Int32} {x3 : Int32} {M : px_M} {L : px_L} {R : px_R} {e : ((px_M × px_L) ⊕ (px_M × px_L))} (hS : SR sh R) (hd : 3 ≤ d) (hcu : cu ≤ mc) (hsu : su ≤ ms) (h : lpf (fun a : Int32 × px_M × px_L => f_X12_isCorner_2 sh a.2.1 a.2.2 R x1 x2 a.1) (x3, M, L) = some e) (g : (sE (fun t => WX RX12 cX12_isCorner 4 (some .boolean) ("isCorner", []) d mc ms X (px_QF Post mc ms) 41 [] [] sh (t.1) (t.2) R n cu su) (fun t => WX RX12 cX12_isCorner 4 (some .boolean) ("isCorner", []) d mc ms X (px_QF Post mc ms) 49 [] [] sh (t.1) (t.2) R n cu su)) e) : WX RX12 cX12_isCorner 4 (some .boolean) ("isCorner", []) d mc ms X (px_QF Post mc ms) 2 [(0, .ref 73), (1, .int x1), (2, .int x2), (3, .int x3)] [] sh M L R n cu su := by
  have key := lpf_wp (P := (fun a => WX RX12 cX12_isCorner 4 (some .boolean) ("isCorner", []) d mc ms X (px_QF Post mc ms) 2 [(0, .ref 73), (1, .int x1), (2, .int x2), (3, .int a.1)] [] sh (a.2.1) (a.2.2) R n cu su)) (G := (sE (fun t => WX RX12 cX12_isCorner 4 (some .boolean) ("isCorner", []) d mc ms X (px_QF Post mc ms) 41 [] [] sh (t.1) (t.2) R n cu su) (fun t => WX RX12 cX12_isCorner 4 (some .boolean) ("isCorner", []) d mc ms X (px_QF Post mc ms) 49 [] [] sh (t.1) (t.2) R n cu su))) (fun a r h g => s_X12_isCorner_2b (x1 := x1) (x2 := x2) (x3 := a.1) (M := a.2.1) (L := a.2.2) (R := R) hS hd hcu hsu h g) (a := (x3, M, L)) h g
  exact key
noncomputable def f_X12_isCorner (sh : px_Sh) (M : px_M) (L : px_L) (R : px_R) (p1 : Int32) (p2 : Int32) : Option (Int32 × px_M × px_L) :=
  bdS (lpf (fun a : Int32 × px_M × px_L => f_X12_isCorner_2 sh a.2.1 a.2.2 R p1 p2 a.1) (0, M, L)) (fun t_2_0 =>
  some (1, t_2_0.1, t_2_0.2)) (fun u_2_0 =>
  some (0, u_2_0.1, u_2_0.2))
theorem s_X12_isCorner {d : Nat} {X : Nat × (Nat → Int32)} {sh : px_Sh} {M : px_M} {L : px_L} {R : px_R} {n : Nat} {p1 : Int32} {p2 : Int32} {e : Int32 × px_M × px_L} (hS : SR sh R) (hd : 3 ≤ d) (h : f_X12_isCorner sh M L R p1 p2 = some e) : MX yX12_isCorner cX12_isCorner 4 (some .boolean) d 0 0 X [.ref 73, .int p1, .int p2] sh M L R n (px_pu (some (.int e.1)) sh e.2.1 e.2.2 R n) := by
  refine MX.of (by decide +kernel) (by exact Nat.le_of_ble_eq_true rfl) ?_
  have hcu : 0 ≤ 0 := Nat.zero_le _
  have hsu : 0 ≤ 0 := Nat.zero_le _
  have g : px_pu (some (.int e.1)) sh e.2.1 e.2.2 R n (some (.int e.1)) sh e.2.1 e.2.2 R n := ⟨rfl, rfl, rfl, rfl, rfl, rfl⟩
  unfold f_X12_isCorner at h
  refine wx_iconst (v := 0) dX12_isCorner_0 (by decide) ?_
  refine wx_istore_n (lv' := [(3, _), (0, _), (1, _), (2, _)]) dX12_isCorner_1 (by decide) rfl ?_
  rcases bdS_some h with ⟨t_2_0, k_2_0, h⟩ | ⟨u_2_0, k_2_0, h⟩
  · refine wx_sub (s_X12_isCorner_2 hS hd hcu hsu k_2_0 (sE_li ?_)) (px_s rfl (px_s rfl (px_s rfl (px_s rfl px_0))))
    refine wx_iconst (v := 1) dX12_isCorner_41 (by decide) ?_
    refine wx_zret dX12_isCorner_42 rfl hcu hsu ?_
    obtain rfl := Option.some.inj h
    exact g
  · refine wx_sub (s_X12_isCorner_2 hS hd hcu hsu k_2_0 (sE_ri ?_)) (px_s rfl (px_s rfl (px_s rfl (px_s rfl px_0))))
    refine wx_iconst (v := 0) dX12_isCorner_49 (by decide) ?_
    refine wx_zret dX12_isCorner_50 rfl hcu hsu ?_
    obtain rfl := Option.some.inj h
    exact g
end LIFT
