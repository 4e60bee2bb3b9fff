/-! Net -/
section LIFT
variable {d mc ms : Nat} {X : Nat × (Nat → Int32)} {Post : px_Post} {sh : px_Sh} {n cu su : Nat}
noncomputable def f_X4_wayOf_68 (sh : px_Sh) (M : px_M) (z0 : Int32) : Option (Int32) :=
  some z0
theorem s_X4_wayOf_68 {z0 : Int32} {M : px_M} {L : px_L} {R : px_R} {e : (Int32)} (hS : SR sh R) (hd : 0 ≤ d) (hcu : cu ≤ mc) (hsu : su ≤ ms) (h : f_X4_wayOf_68 sh M z0 = some e) (g : Post (some (.int e)) sh M L R n) : WX RX4 cX4_wayOf 6 (some .int) ("wayOf", []) d mc ms X (px_QF Post mc ms) 68 [] [.int z0] sh M L R n cu su := by
  unfold f_X4_wayOf_68 at h
  refine wx_iret dX4_wayOf_68 hcu hsu ?_
  obtain rfl := Option.some.inj h
  exact g
noncomputable def f_X4_wayOf_15 (sh : px_Sh) (M : px_M) (x1 : Int32) (x2 : Int32) (z0 : Nat) : Option (Int32) :=
  ok (ix x1 6) <|
  nm (M 47 x1.toNatClampNeg) fun v_25 =>
  ok (xk sh z0 13 v_25) <|
  ok (ix x1 6) <|
  nm (M 46 x1.toNatClampNeg) fun v_34 =>
  ok (xk sh z0 13 v_34) <|
  nm ((M z0 v_25.toNatClampNeg) - (M z0 v_34.toNatClampNeg)) fun v_36 =>
  ok (ix x1 6) <|
  if (M 46 x1.toNatClampNeg) = x2 then
    some v_36
  else
    ok (ix x1 6) <|
    if (M 47 x1.toNatClampNeg) = x2 then
      f_X4_wayOf_68 sh M (-v_36)
    else
      f_X4_wayOf_68 sh M 0
theorem s_X4_wayOf_15 {x1 : Int32} {x2 : Int32} {z0 : Nat} {M : px_M} {L : px_L} {R : px_R} {e : (Int32)} (hS : SR sh R) (hd : 0 ≤ d) (hcu : cu ≤ mc) (hsu : su ≤ ms) (h : f_X4_wayOf_15 sh M x1 x2 z0 = some e) (g : Post (some (.int e)) sh M L R n) : WX RX4 cX4_wayOf 6 (some .int) ("wayOf", []) d mc ms X (px_QF Post mc ms) 15 [(0, .ref 40), (1, .int x1), (2, .int x2)] [.ref z0] sh M L R n cu su := by
  unfold f_X4_wayOf_15 at h
  refine wx_astore (lv' := [(4, _), (0, _), (1, _), (2, _)]) dX4_wayOf_15 (by decide) rfl ?_
  refine wx_aload dX4_wayOf_17 rfl ?_
  refine wx_aload_n dX4_wayOf_19 rfl ?_
  refine wx_getR dX4_wayOf_20 fl_X4_31 (sc_40 hS) rfl (rr_40_7 hS) ?_
  refine wx_iload_n dX4_wayOf_23 rfl ?_
  obtain ⟨w_24, h⟩ := ok_some h
  refine wx_iald dX4_wayOf_24 (sc_47 hS) (ix_in w_24) ?_
  refine wx_nami (fun v_25 q_25 => ?_)
  replace h := nm_at h q_25
  obtain ⟨w_25, h⟩ := ok_some h
  obtain ⟨ln_25, wt_25, wi_25⟩ := xk_some w_25
  refine wx_iald dX4_wayOf_25 wt_25 wi_25 ?_
  refine wx_aload dX4_wayOf_26 rfl ?_
  refine wx_aload_n dX4_wayOf_28 rfl ?_
  refine wx_getR dX4_wayOf_29 fl_X4_28 (sc_40 hS) rfl (rr_40_6 hS) ?_
  refine wx_iload_n dX4_wayOf_32 rfl ?_
  obtain ⟨w_33, h⟩ := ok_some h
  refine wx_iald dX4_wayOf_33 (sc_46 hS) (ix_in w_33) ?_
  refine wx_nami (fun v_34 q_34 => ?_)
  replace h := nm_at h q_34
  obtain ⟨w_34, h⟩ := ok_some h
  obtain ⟨ln_34, wt_34, wi_34⟩ := xk_some w_34
  refine wx_iald dX4_wayOf_34 wt_34 wi_34 ?_
  refine wx_isub dX4_wayOf_35 ?_
  refine wx_nami (fun v_36 q_36 => ?_)
  replace h := nm_at h q_36
  refine wx_istore (lv' := [(5, _), (4, _), (0, _), (1, _), (2, _)]) dX4_wayOf_36 (by decide) rfl ?_
  refine wx_aload_n dX4_wayOf_38 rfl ?_
  refine wx_getR dX4_wayOf_39 fl_X4_28 (sc_40 hS) rfl (rr_40_6 hS) ?_
  refine wx_iload_n dX4_wayOf_42 rfl ?_
  obtain ⟨w_43, h⟩ := ok_some h
  refine wx_iald dX4_wayOf_43 (sc_46 hS) (ix_in w_43) ?_
  refine wx_iload_n dX4_wayOf_44 rfl ?_
  refine wx_icmp_ne (tgt := 51) dX4_wayOf_45 (by decide) (fun c_45 => ?_) (fun c_45 => ?_)
  · replace h := it_f h c_45
    refine wx_aload_n dX4_wayOf_51 rfl ?_
    refine wx_getR dX4_wayOf_52 fl_X4_31 (sc_40 hS) rfl (rr_40_7 hS) ?_
    refine wx_iload_n dX4_wayOf_55 rfl ?_
    obtain ⟨w_56, h⟩ := ok_some h
    refine wx_iald dX4_wayOf_56 (sc_47 hS) (ix_in w_56) ?_
    refine wx_iload_n dX4_wayOf_57 rfl ?_
    refine wx_icmp_ne (tgt := 67) dX4_wayOf_58 (by decide) (fun c_58 => ?_) (fun c_58 => ?_)
    · replace h := it_f h c_58
      refine wx_iconst (v := 0) dX4_wayOf_67 (by decide) ?_
      exact wx_sub (s_X4_wayOf_68 hS hd hcu hsu h g) px_0
    · replace h := it_t h c_58
      refine wx_iload dX4_wayOf_61 rfl ?_
      refine wx_ineg dX4_wayOf_63 ?_
      refine wx_goto (tgt := 68) dX4_wayOf_64 (by decide) ?_
      exact wx_sub (s_X4_wayOf_68 hS hd hcu hsu h g) px_0
  · replace h := it_t h c_45
    refine wx_iload dX4_wayOf_48 rfl ?_
    refine wx_iret dX4_wayOf_50 hcu hsu ?_
    obtain rfl := Option.some.inj h
    exact g
noncomputable def f_X4_wayOf (sh : px_Sh) (M : px_M) (p1 : Int32) (p2 : Int32) (p3 : Int32) : Option (Int32) :=
  if p3 = 0 then
    f_X4_wayOf_15 sh M p1 p2 41
  else
    f_X4_wayOf_15 sh M p1 p2 42
theorem s_X4_wayOf {d : Nat} {X : Nat × (Nat → Int32)} {sh : px_Sh} {M : px_M} {L : px_L} {R : px_R} {n : Nat} {p1 : Int32} {p2 : Int32} {p3 : Int32} {e : Int32} (hS : SR sh R) (hd : 0 ≤ d) (h : f_X4_wayOf sh M p1 p2 p3 = some e) : MX yX4_wayOf cX4_wayOf 6 (some .int) d 0 0 X [.ref 40, .int p1, .int p2, .int p3] sh M L R n (px_pu (some (.int e)) sh M L R n) := by
  refine MX.of (by decide +kernel) (by exact Nat.le_of_ble_eq_true rfl) ?_
  have hcu : 0 ≤ 0 := Nat.zero_le _
  have hsu : 0 ≤ 0 := Nat.zero_le _
  have g : px_pu (some (.int e)) sh M L R n (some (.int e)) sh M L R n := ⟨rfl, rfl, rfl, rfl, rfl, rfl⟩
  unfold f_X4_wayOf at h
  refine wx_iload_n dX4_wayOf_0 rfl ?_
  refine wx_if_ne (tgt := 11) dX4_wayOf_1 (by decide) (fun c_1 => ?_) (fun c_1 => ?_)
  · replace h := it_f h c_1
    refine wx_aload_n dX4_wayOf_11 rfl ?_
    refine wx_getR dX4_wayOf_12 fl_X4_15 (sc_40 hS) rfl (rr_40_1 hS) ?_
    exact wx_sub (s_X4_wayOf_15 hS hd hcu hsu h g) (px_s rfl (px_s rfl (px_s rfl px_0)))
  · replace h := it_t h c_1
    refine wx_aload_n dX4_wayOf_4 rfl ?_
    refine wx_getR dX4_wayOf_5 fl_X4_11 (sc_40 hS) rfl (rr_40_0 hS) ?_
    refine wx_goto (tgt := 15) dX4_wayOf_8 (by decide) ?_
    exact wx_sub (s_X4_wayOf_15 hS hd hcu hsu h g) (px_s rfl (px_s rfl (px_s rfl px_0)))
noncomputable def f_X4_fillRow_50 (sh : px_Sh) (M : px_M) (L : px_L) (R : px_R) (x1 : Int32) (x2 : Int32) (x3 : Int32) (x4 : Int32) (x5 : Int32) (x6 : Int32) : Option ((Int32 × Int32 × px_L) ⊕ (px_L)) :=
  some (.inl (x5, (x6 + 1), L))
theorem s_X4_fillRow_50 {x1 : Int32} {x2 : Int32} {x3 : Int32} {x4 : Int32} {x5 : Int32} {x6 : Int32} {M : px_M} {L : px_L} {R : px_R} {e : ((Int32 × Int32 × px_L) ⊕ (px_L))} (hS : SR sh R) (hd : 1 ≤ d) (hcu : cu ≤ mc) (hsu : su ≤ ms) (h : f_X4_fillRow_50 sh M L R x1 x2 x3 x4 x5 x6 = some e) (g : (sE (fun a => WX RX4 cX4_fillRow 7 none ("fillRow", []) d mc ms X (px_QF Post mc ms) 6 [(0, .ref 40), (1, .int x1), (2, .int x2), (3, .int x3), (4, .int x4), (5, .int a.1), (6, .int a.2.1)] [] sh M (a.2.2) R n cu su) (fun t => WX RX4 cX4_fillRow 7 none ("fillRow", []) d mc ms X (px_QF Post mc ms) 56 [(0, .ref 40), (2, .int x2), (3, .int x3), (4, .int x4)] [] sh M t R n cu su)) e) : WX RX4 cX4_fillRow 7 none ("fillRow", []) d mc ms X (px_QF Post mc ms) 50 [(0, .ref 40), (1, .int x1), (2, .int x2), (3, .int x3), (4, .int x4), (5, .int x5), (6, .int x6)] [] sh M L R n cu su := by
  unfold f_X4_fillRow_50 at h
  refine wx_iinc (lv' := [(6, _), (0, _), (1, _), (2, _), (3, _), (4, _), (5, _)]) dX4_fillRow_50 rfl (i_1 _) (by decide) rfl ?_
  refine wx_goto (tgt := 6) dX4_fillRow_53 (by decide) ?_
  obtain rfl := Option.some.inj h
  replace g := sE_l g
  exact wx_sub g (px_s rfl (px_s rfl (px_s rfl (px_s rfl (px_s rfl (px_s rfl (px_s rfl px_0)))))))
noncomputable def f_X4_fillRow_6 (sh : px_Sh) (M : px_M) (L : px_L) (R : px_R) (x1 : Int32) (x2 : Int32) (x3 : Int32) (x4 : Int32) (x5 : Int32) (x6 : Int32) : Option ((Int32 × Int32 × px_L) ⊕ (px_L)) :=
  if (M 40 8) ≤ x6 then
    some (.inr L)
  else
    if ((x1 >>> (x6 &&& 31)) &&& 1) = 1 then
      nm (M 40 16) fun v_33 =>
      ok (ix v_33 12) <|
      bd1 (R 48 v_33.toNatClampNeg) fun b_33 =>
      bd1 (f_X4_wayOf sh M x6 x3 x4) fun e_42 =>
      nm ((e_42 : Int32).toInt64) fun v_46 =>
      ok (xk sh b_33 14 x5) <|
      nm (px_u L b_33 x5.toNatClampNeg v_46) fun L_46 =>
      f_X4_fillRow_50 sh M L_46 R x1 x2 x3 x4 (x5 + 1) x6
    else
      f_X4_fillRow_50 sh M L R x1 x2 x3 x4 x5 x6
theorem s_X4_fillRow_6b {x1 : Int32} {x2 : Int32} {x3 : Int32} {x4 : Int32} {x5 : Int32} {x6 : Int32} {M : px_M} {L : px_L} {R : px_R} {e : ((Int32 × Int32 × px_L) ⊕ (px_L))} (hS : SR sh R) (hd : 1 ≤ d) (hcu : cu ≤ mc) (hsu : su ≤ ms) (h : f_X4_fillRow_6 sh M L R x1 x2 x3 x4 x5 x6 = some e) (g : (sE (fun a => WX RX4 cX4_fillRow 7 none ("fillRow", []) d mc ms X (px_QF Post mc ms) 6 [(0, .ref 40), (1, .int x1), (2, .int x2), (3, .int x3), (4, .int x4), (5, .int a.1), (6, .int a.2.1)] [] sh M (a.2.2) R n cu su) (fun t => WX RX4 cX4_fillRow 7 none ("fillRow", []) d mc ms X (px_QF Post mc ms) 56 [(0, .ref 40), (2, .int x2), (3, .int x3), (4, .int x4)] [] sh M t R n cu su)) e) : WX RX4 cX4_fillRow 7 none ("fillRow", []) d mc ms X (px_QF Post mc ms) 6 [(0, .ref 40), (1, .int x1), (2, .int x2), (3, .int x3), (4, .int x4), (5, .int x5), (6, .int x6)] [] sh M L R n cu su := by
  unfold f_X4_fillRow_6 at h
  refine wx_iload dX4_fillRow_6 rfl ?_
  refine wx_aload_n dX4_fillRow_8 rfl ?_
  refine wx_getI dX4_fillRow_9 fl_X4_47 (sc_40 hS) rfl ?_
  refine wx_icmp_ge (tgt := 56) dX4_fillRow_12 (by decide) (fun c_12 => ?_) (fun c_12 => ?_)
  · replace h := it_t h c_12
    obtain rfl := Option.some.inj h
    replace g := sE_r g
    exact wx_sub g (px_s rfl (px_s rfl (px_s rfl (px_s rfl px_0))))
  · replace h := it_f h c_12
    refine wx_iload_n dX4_fillRow_15 rfl ?_
    refine wx_iload dX4_fillRow_16 rfl ?_
    refine wx_ishr dX4_fillRow_18 ?_
    refine wx_iconst (v := 1) dX4_fillRow_19 (by decide) ?_
    refine wx_iand dX4_fillRow_20 ?_
    refine wx_iconst (v := 1) dX4_fillRow_21 (by decide) ?_
    refine wx_icmp_ne (tgt := 50) dX4_fillRow_22 (by decide) (fun c_22 => ?_) (fun c_22 => ?_)
    · replace h := it_f h c_22
      exact wx_sub (s_X4_fillRow_50 hS hd hcu hsu h g) (px_s rfl (px_s rfl (px_s rfl (px_s rfl (px_s rfl (px_s rfl (px_s rfl px_0)))))))
    · replace h := it_t h c_22
      refine wx_aload_n dX4_fillRow_25 rfl ?_
      refine wx_getR dX4_fillRow_26 fl_X4_36 (sc_40 hS) rfl (rr_40_15 hS) ?_
      refine wx_aload_n dX4_fillRow_29 rfl ?_
      refine wx_getI dX4_fillRow_30 fl_X4_92 (sc_40 hS) rfl ?_
      refine wx_nami (fun v_33 q_33 => ?_)
      replace h := nm_at h q_33
      obtain ⟨w_33, h⟩ := ok_some h
      obtain ⟨b_33, wr_33, h⟩ := bd1_some h
      refine wx_aald dX4_fillRow_33 (sc_48 hS) (by decide) (by decide) (ix_in w_33) wr_33 ?_
      refine wx_iload dX4_fillRow_34 rfl ?_
      refine wx_aload_n dX4_fillRow_36 rfl ?_
      refine wx_iload dX4_fillRow_37 rfl ?_
      refine wx_iload_n dX4_fillRow_39 rfl ?_
      refine wx_iload dX4_fillRow_40 rfl ?_
      obtain ⟨e_42, k_42, h⟩ := bd1_some h
      refine wx_cVi dX4_fillRow_42 ml_X4_108 my_X4_wayOf iv_X4_wayOf (sc_40 hS) (by decide) (s_X4_wayOf (d := d - 1) hS (by omega) k_42) rfl (by omega) (by exact Nat.le_of_ble_eq_true rfl) hcu hsu ?_
      refine wx_i2l dX4_fillRow_45 ?_
      refine wx_naml (fun v_46 q_46 => ?_)
      replace h := nm_at h q_46
      obtain ⟨w_46, h⟩ := ok_some h
      obtain ⟨ln_46, wt_46, wi_46⟩ := xk_some w_46
      refine wx_last dX4_fillRow_46 wt_46 wi_46 ?_
      refine wx_namL (fun L_46 q_46 => ?_)
      replace h := nm_at h q_46
      refine wx_iinc (lv' := [(5, _), (0, _), (1, _), (2, _), (3, _), (4, _), (6, _)]) dX4_fillRow_47 rfl (i_1 _) (by decide) rfl ?_
      exact wx_sub (s_X4_fillRow_50 hS hd hcu hsu h g) (px_s rfl (px_s rfl (px_s rfl (px_s rfl (px_s rfl (px_s rfl (px_s rfl px_0)))))))
theorem s_X4_fillRow_6 {x1 : Int32} {x2 : Int32} {x3 : Int32} {x4 : Int32} {x5 : Int32} {x6 : Int32} {M : px_M} {L : px_L} {R : px_R} {e : (px_L)} (hS : SR sh R) (hd : 1 ≤ d) (hcu : cu ≤ mc) (hsu : su ≤ ms) (h : lpf (fun a : Int32 × Int32 × px_L => f_X4_fillRow_6 sh M a.2.2 R x1 x2 x3 x4 a.1 a.2.1) (x5, x6, L) = some e) (g : WX RX4 cX4_fillRow 7 none ("fillRow", []) d mc ms X (px_QF Post mc ms) 56 [(0, .ref 40), (2, .int x2), (3, .int x3), (4, .int x4)] [] sh M e R n cu su) : WX RX4 cX4_fillRow 7 none ("fillRow", []) d mc ms X (px_QF Post mc ms) 6 [(0, .ref 40), (1, .int x1), (2, .int x2), (3, .int x3), (4, .int x4), (5, .int x5), (6, .int x6)] [] sh M L R n cu su := by
  have key := lpf_wp (P := (fun a => WX RX4 cX4_fillRow 7 none ("fillRow", []) d mc ms X (px_QF Post mc ms) 6 [(0, .ref 40), (1, .int x1), (2, .int x2), (3, .int x3), (4, .int x4), (5, .int a.1), (6, .int a.2.1)] [] sh M (a.2.2) R n cu su)) (G := (fun t => WX RX4 cX4_fillRow 7 none ("fillRow", []) d mc ms X (px_QF Post mc ms) 56 [(0, .ref 40), (2, .int x2), (3, .int x3), (4, .int x4)] [] sh M t R n cu su)) (fun a r h g => s_X4_fillRow_6b (x1 := x1) (x2 := x2) (x3 := x3) (x4 := x4) (x5 := a.1) (x6 := a.2.1) (M := M) (L := a.2.2) (R := R) hS hd hcu hsu h g) (a := (x5, x6, L)) h g
  exact key
noncomputable def f_X4_fillRow_113 (sh : px_Sh) (M : px_M) (L : px_L) (R : px_R) (z0 : Int64) (z1 : Int32) (z2 : Nat) : Option (px_M × px_L) :=
  ok (xk sh z2 14 z1) <|
  nm (px_u L z2 z1.toNatClampNeg z0) fun L_113 =>
  nm ((M 40 16) + 1) fun v_121 =>
  nm (px_u M 40 16 v_121) fun M_121 =>
  some (M_121, L_113)
theorem s_X4_fillRow_113 {z0 : Int64} {z1 : Int32} {z2 : Nat} {M : px_M} {L : px_L} {R : px_R} {e : (px_M × px_L)} (hS : SR sh R) (hd : 1 ≤ d) (hcu : cu ≤ mc) (hsu : su ≤ ms) (h : f_X4_fillRow_113 sh M L R z0 z1 z2 = some e) (g : Post none sh (e.1) (e.2) R n) : WX RX4 cX4_fillRow 7 none ("fillRow", []) d mc ms X (px_QF Post mc ms) 113 [(0, .ref 40)] [.long z0, .int z1, .ref z2] sh M L R n cu su := by
  unfold f_X4_fillRow_113 at h
  obtain ⟨w_113, h⟩ := ok_some h
  obtain ⟨ln_113, wt_113, wi_113⟩ := xk_some w_113
  refine wx_last dX4_fillRow_113 wt_113 wi_113 ?_
  refine wx_namL (fun L_113 q_113 => ?_)
  replace h := nm_at h q_113
  refine wx_aload_n dX4_fillRow_114 rfl ?_
  refine wx_dup dX4_fillRow_115 rfl ?_
  refine wx_getI dX4_fillRow_116 fl_X4_92 (sc_40 hS) rfl ?_
  refine wx_iconst (v := 1) dX4_fillRow_119 (by decide) ?_
  refine wx_iadd dX4_fillRow_120 ?_
  refine wx_nami (fun v_121 q_121 => ?_)
  replace h := nm_at h q_121
  refine wx_putI dX4_fillRow_121 fl_X4_92 (sc_40 hS) (Or.inl rfl) rfl ⟨rfl, rfl⟩ ?_
  refine wx_namM (fun M_121 q_121 => ?_)
  replace h := nm_at h q_121
  refine wx_vret dX4_fillRow_124 hcu hsu ?_
  obtain rfl := Option.some.inj h
  exact g
noncomputable def f_X4_fillRow_76 (sh : px_Sh) (M : px_M) (L : px_L) (R : px_R) (x2 : Int32) (x3 : Int32) (x4 : Int32) (z0 : Int32) : Option (px_M × px_L) :=
  nm (M 40 16) fun v_86 =>
  ok (ix v_86 12) <|
  bd1 (R 48 v_86.toNatClampNeg) fun b_86 =>
  if x2 = (-1) then
    f_X4_fillRow_113 sh M L R (((-z0) : Int32).toInt64) (M 40 17) b_86
  else
    bd1 (f_X4_wayOf sh M x2 x3 x4) fun e_108 =>
    f_X4_fillRow_113 sh M L R (((-e_108) : Int32).toInt64) (M 40 17) b_86
theorem s_X4_fillRow_76 {x2 : Int32} {x3 : Int32} {x4 : Int32} {z0 : Int32} {M : px_M} {L : px_L} {R : px_R} {e : (px_M × px_L)} (hS : SR sh R) (hd : 1 ≤ d) (hcu : cu ≤ mc) (hsu : su ≤ ms) (h : f_X4_fillRow_76 sh M L R x2 x3 x4 z0 = some e) (g : Post none sh (e.1) (e.2) R n) : WX RX4 cX4_fillRow 7 none ("fillRow", []) d mc ms X (px_QF Post mc ms) 76 [(0, .ref 40), (2, .int x2), (3, .int x3), (4, .int x4)] [.int z0] sh M L R n cu su := by
  unfold f_X4_fillRow_76 at h
  refine wx_istore (lv' := [(6, _), (0, _), (2, _), (3, _), (4, _)]) dX4_fillRow_76 (by decide) rfl ?_
  refine wx_aload_n dX4_fillRow_78 rfl ?_
  refine wx_getR dX4_fillRow_79 fl_X4_36 (sc_40 hS) rfl (rr_40_15 hS) ?_
  refine wx_aload_n dX4_fillRow_82 rfl ?_
  refine wx_getI dX4_fillRow_83 fl_X4_92 (sc_40 hS) rfl ?_
  refine wx_nami (fun v_86 q_86 => ?_)
  replace h := nm_at h q_86
  obtain ⟨w_86, h⟩ := ok_some h
  obtain ⟨b_86, wr_86, h⟩ := bd1_some h
  refine wx_aald dX4_fillRow_86 (sc_48 hS) (by decide) (by decide) (ix_in w_86) wr_86 ?_
  refine wx_aload_n dX4_fillRow_87 rfl ?_
  refine wx_getI dX4_fillRow_88 fl_X4_101 (sc_40 hS) rfl ?_
  refine wx_iload_n dX4_fillRow_91 rfl ?_
  refine wx_iconst (v := (-1)) dX4_fillRow_92 (by decide) ?_
  refine wx_icmp_ne (tgt := 103) dX4_fillRow_93 (by decide) (fun c_93 => ?_) (fun c_93 => ?_)
  · replace h := it_f h c_93
    refine wx_aload_n dX4_fillRow_103 rfl ?_
    refine wx_iload_n dX4_fillRow_104 rfl ?_
    refine wx_iload_n dX4_fillRow_105 rfl ?_
    refine wx_iload dX4_fillRow_106 rfl ?_
    obtain ⟨e_108, k_108, h⟩ := bd1_some h
    refine wx_cVi dX4_fillRow_108 ml_X4_108 my_X4_wayOf iv_X4_wayOf (sc_40 hS) (by decide) (s_X4_wayOf (d := d - 1) hS (by omega) k_108) rfl (by omega) (by exact Nat.le_of_ble_eq_true rfl) hcu hsu ?_
    refine wx_ineg dX4_fillRow_111 ?_
    refine wx_i2l dX4_fillRow_112 ?_
    exact wx_sub (s_X4_fillRow_113 hS hd hcu hsu h g) (px_s rfl px_0)
  · replace h := it_t h c_93
    refine wx_iload dX4_fillRow_96 rfl ?_
    refine wx_ineg dX4_fillRow_98 ?_
    refine wx_i2l dX4_fillRow_99 ?_
    refine wx_goto (tgt := 113) dX4_fillRow_100 (by decide) ?_
    exact wx_sub (s_X4_fillRow_113 hS hd hcu hsu h g) (px_s rfl px_0)
noncomputable def f_X4_fillRow (sh : px_Sh) (M : px_M) (L : px_L) (R : px_R) (p1 : Int32) (p2 : Int32) (p3 : Int32) (p4 : Int32) : Option (px_M × px_L) :=
  bd1 (lpf (fun a : Int32 × Int32 × px_L => f_X4_fillRow_6 sh M a.2.2 R p1 p2 p3 p4 a.1 a.2.1) (0, 0, L)) fun e_6 =>
  if p4 = 0 then
    ok (ix p3 6) <|
    f_X4_fillRow_76 sh M e_6 R p2 p3 p4 (M 43 p3.toNatClampNeg)
  else
    ok (ix p3 6) <|
    f_X4_fillRow_76 sh M e_6 R p2 p3 p4 (M 44 p3.toNatClampNeg)
theorem s_X4_fillRow {d : Nat} {X : Nat × (Nat → Int32)} {sh : px_Sh} {M : px_M} {L : px_L} {R : px_R} {n : Nat} {p1 : Int32} {p2 : Int32} {p3 : Int32} {p4 : Int32} {e : px_M × px_L} (hS : SR sh R) (hd : 1 ≤ d) (h : f_X4_fillRow sh M L R p1 p2 p3 p4 = some e) : MX yX4_fillRow cX4_fillRow 7 none d 0 0 X [.ref 40, .int p1, .int p2, .int p3, .int p4] sh M L R n (px_pu none sh e.1 e.2 R n) := by
  refine MX.of (by decide +kernel) (by exact Nat.le_of_ble_eq_true rfl) ?_
  have hcu : 0 ≤ 0 := Nat.zero_le _
  have hsu : 0 ≤ 0 := Nat.zero_le _
  have g : px_pu none sh e.1 e.2 R n none sh e.1 e.2 R n := ⟨rfl, rfl, rfl, rfl, rfl, rfl⟩
  unfold f_X4_fillRow at h
  refine wx_iconst (v := 0) dX4_fillRow_0 (by decide) ?_
  refine wx_istore (lv' := [(5, _), (0, _), (1, _), (2, _), (3, _), (4, _)]) dX4_fillRow_1 (by decide) rfl ?_
  refine wx_iconst (v := 0) dX4_fillRow_3 (by decide) ?_
  refine wx_istore (lv' := [(6, _), (5, _), (0, _), (1, _), (2, _), (3, _), (4, _)]) dX4_fillRow_4 (by decide) rfl ?_
  obtain ⟨e_6, k_6, h⟩ := bd1_some h
  refine wx_sub (s_X4_fillRow_6 hS hd hcu hsu k_6 ?_) (px_s rfl (px_s rfl (px_s rfl (px_s rfl (px_s rfl (px_s rfl (px_s rfl px_0)))))))
  refine wx_iload dX4_fillRow_56 rfl ?_
  refine wx_if_ne (tgt := 70) dX4_fillRow_58 (by decide) (fun c_58 => ?_) (fun c_58 => ?_)
  · replace h := it_f h c_58
    refine wx_aload_n dX4_fillRow_70 rfl ?_
    refine wx_getR dX4_fillRow_71 fl_X4_21 (sc_40 hS) rfl (rr_40_3 hS) ?_
    refine wx_iload_n dX4_fillRow_74 rfl ?_
    obtain ⟨w_75, h⟩ := ok_some h
    refine wx_iald dX4_fillRow_75 (sc_44 hS) (ix_in w_75) ?_
    exact wx_sub (s_X4_fillRow_76 hS hd hcu hsu h g) (px_s rfl (px_s rfl (px_s rfl (px_s rfl px_0))))
  · replace h := it_t h c_58
    refine wx_aload_n dX4_fillRow_61 rfl ?_
    refine wx_getR dX4_fillRow_62 fl_X4_18 (sc_40 hS) rfl (rr_40_2 hS) ?_
    refine wx_iload_n dX4_fillRow_65 rfl ?_
    obtain ⟨w_66, h⟩ := ok_some h
    refine wx_iald dX4_fillRow_66 (sc_43 hS) (ix_in w_66) ?_
    refine wx_goto (tgt := 76) dX4_fillRow_67 (by decide) ?_
    exact wx_sub (s_X4_fillRow_76 hS hd hcu hsu h g) (px_s rfl (px_s rfl (px_s rfl (px_s rfl px_0))))
noncomputable def f_X4_fillTable_48 (sh : px_Sh) (M : px_M) (L : px_L) (R : px_R) (x1 : Int32) (x2 : Int32) (x3 : Int32) : Option ((Int32 × px_M × px_L) ⊕ (px_M × px_L)) :=
  some (.inl ((x3 + 1), M, L))
theorem s_X4_fillTable_48 {x1 : Int32} {x2 : Int32} {x3 : Int32} {M : px_M} {L : px_L} {R : px_R} {e : ((Int32 × px_M × px_L) ⊕ (px_M × px_L))} (hS : SR sh R) (hd : 2 ≤ d) (hcu : cu ≤ mc) (hsu : su ≤ ms) (h : f_X4_fillTable_48 sh M L R x1 x2 x3 = some e) (g : (sE (fun a => WX RX4 cX4_fillTable 4 none ("fillTable", []) d mc ms X (px_QF Post mc ms) 15 [(0, .ref 40), (1, .int x1), (2, .int x2), (3, .int a.1)] [] sh (a.2.1) (a.2.2) R n cu su) (fun t => WX RX4 cX4_fillTable 4 none ("fillTable", []) d mc ms X (px_QF Post mc ms) 54 [] [] sh (t.1) (t.2) R n cu su)) e) : WX RX4 cX4_fillTable 4 none ("fillTable", []) d mc ms X (px_QF Post mc ms) 48 [(0, .ref 40), (1, .int x1), (2, .int x2), (3, .int x3)] [] sh M L R n cu su := by
  unfold f_X4_fillTable_48 at h
  refine wx_iinc (lv' := [(3, _), (0, _), (1, _), (2, _)]) dX4_fillTable_48 rfl (i_1 _) (by decide) rfl ?_
  refine wx_goto (tgt := 15) dX4_fillTable_51 (by decide) ?_
  obtain rfl := Option.some.inj h
  replace g := sE_l g
  exact wx_sub g (px_s rfl (px_s rfl (px_s rfl (px_s rfl px_0))))
noncomputable def f_X4_fillTable_15 (sh : px_Sh) (M : px_M) (L : px_L) (R : px_R) (x1 : Int32) (x2 : Int32) (x3 : Int32) : Option ((Int32 × px_M × px_L) ⊕ (px_M × px_L)) :=
  if (M 40 5) ≤ x3 then
    some (.inr (M, L))
  else
    ok (ix x3 6) <|
    if (M 45 x3.toNatClampNeg) = 0 then
      bd1 (f_X4_fillRow sh M L R x1 x2 x3 0) fun e_37 =>
      bd1 (f_X4_fillRow sh e_37.1 e_37.2 R x1 x2 x3 1) fun e_45 =>
      f_X4_fillTable_48 sh e_45.1 e_45.2 R x1 x2 x3
    else
      f_X4_fillTable_48 sh M L R x1 x2 x3
theorem s_X4_fillTable_15b {x1 : Int32} {x2 : Int32} {x3 : Int32} {M : px_M} {L : px_L} {R : px_R} {e : ((Int32 × px_M × px_L) ⊕ (px_M × px_L))} (hS : SR sh R) (hd : 2 ≤ d) (hcu : cu ≤ mc) (hsu : su ≤ ms) (h : f_X4_fillTable_15 sh M L R x1 x2 x3 = some e) (g : (sE (fun a => WX RX4 cX4_fillTable 4 none ("fillTable", []) d mc ms X (px_QF Post mc ms) 15 [(0, .ref 40), (1, .int x1), (2, .int x2), (3, .int a.1)] [] sh (a.2.1) (a.2.2) R n cu su) (fun t => WX RX4 cX4_fillTable 4 none ("fillTable", []) d mc ms X (px_QF Post mc ms) 54 [] [] sh (t.1) (t.2) R n cu su)) e) : WX RX4 cX4_fillTable 4 none ("fillTable", []) d mc ms X (px_QF Post mc ms) 15 [(0, .ref 40), (1, .int x1), (2, .int x2), (3, .int x3)] [] sh M L R n cu su := by
  unfold f_X4_fillTable_15 at h
  refine wx_iload_n dX4_fillTable_15 rfl ?_
  refine wx_aload_n dX4_fillTable_16 rfl ?_
  refine wx_getI dX4_fillTable_17 fl_X4_39 (sc_40 hS) rfl ?_
  refine wx_icmp_ge (tgt := 54) dX4_fillTable_20 (by decide) (fun c_20 => ?_) (fun c_20 => ?_)
  · replace h := it_t h c_20
    obtain rfl := Option.some.inj h
    replace g := sE_r g
    exact wx_sub g px_0
  · replace h := it_f h c_20
    refine wx_aload_n dX4_fillTable_23 rfl ?_
    refine wx_getR dX4_fillTable_24 fl_X4_24 (sc_40 hS) rfl (rr_40_4 hS) ?_
    refine wx_iload_n dX4_fillTable_27 rfl ?_
    obtain ⟨w_28, h⟩ := ok_some h
    refine wx_bald dX4_fillTable_28 (sc_45 hS) (ix_in w_28) ?_
    refine wx_if_ne (tgt := 48) dX4_fillTable_29 (by decide) (fun c_29 => ?_) (fun c_29 => ?_)
    · replace h := it_f h c_29
      exact wx_sub (s_X4_fillTable_48 hS hd hcu hsu h g) (px_s rfl (px_s rfl (px_s rfl (px_s rfl px_0))))
    · replace h := it_t h c_29
      refine wx_aload_n dX4_fillTable_32 rfl ?_
      refine wx_iload_n dX4_fillTable_33 rfl ?_
      refine wx_iload_n dX4_fillTable_34 rfl ?_
      refine wx_iload_n dX4_fillTable_35 rfl ?_
      refine wx_iconst (v := 0) dX4_fillTable_36 (by decide) ?_
      obtain ⟨e_37, k_37, h⟩ := bd1_some h
      refine wx_cVv dX4_fillTable_37 ml_X4_104 my_X4_fillRow iv_X4_fillRow (sc_40 hS) (by decide) (s_X4_fillRow (d := d - 1) hS (by omega) k_37) rfl (by omega) (by exact Nat.le_of_ble_eq_true rfl) hcu hsu ?_
      refine wx_aload_n dX4_fillTable_40 rfl ?_
      refine wx_iload_n dX4_fillTable_41 rfl ?_
      refine wx_iload_n dX4_fillTable_42 rfl ?_
      refine wx_iload_n dX4_fillTable_43 rfl ?_
      refine wx_iconst (v := 1) dX4_fillTable_44 (by decide) ?_
      obtain ⟨e_45, k_45, h⟩ := bd1_some h
      refine wx_cVv dX4_fillTable_45 ml_X4_104 my_X4_fillRow iv_X4_fillRow (sc_40 hS) (by decide) (s_X4_fillRow (d := d - 1) hS (by omega) k_45) rfl (by omega) (by exact Nat.le_of_ble_eq_true rfl) hcu hsu ?_
      exact wx_sub (s_X4_fillTable_48 hS hd hcu hsu h g) (px_s rfl (px_s rfl (px_s rfl (px_s rfl px_0))))
theorem s_X4_fillTable_15 {x1 : Int32} {x2 : Int32} {x3 : Int32} {M : px_M} {L : px_L} {R : px_R} {e : (px_M × px_L)} (hS : SR sh R) (hd : 2 ≤ d) (hcu : cu ≤ mc) (hsu : su ≤ ms) (h : lpf (fun a : Int32 × px_M × px_L => f_X4_fillTable_15 sh a.2.1 a.2.2 R x1 x2 a.1) (x3, M, L) = some e) (g : WX RX4 cX4_fillTable 4 none ("fillTable", []) d mc ms X (px_QF Post mc ms) 54 [] [] sh (e.1) (e.2) R n cu su) : WX RX4 cX4_fillTable 4 none ("fillTable", []) d mc ms X (px_QF Post mc ms) 15 [(0, .ref 40), (1, .int x1), (2, .int x2), (3, .int x3)] [] sh M L R n cu su := by
  have key := lpf_wp (P := (fun a => WX RX4 cX4_fillTable 4 none ("fillTable", []) d mc ms X (px_QF Post mc ms) 15 [(0, .ref 40), (1, .int x1), (2, .int x2), (3, .int a.1)] [] sh (a.2.1) (a.2.2) R n cu su)) (G := (fun t => WX RX4 cX4_fillTable 4 none ("fillTable", []) d mc ms X (px_QF Post mc ms) 54 [] [] sh (t.1) (t.2) R n cu su)) (fun a r h g => s_X4_fillTable_15b (x1 := x1) (x2 := x2) (x3 := a.1) (M := a.2.1) (L := a.2.2) (R := R) hS hd hcu hsu h g) (a := (x3, M, L)) h g
  exact key
noncomputable def f_X4_fillTable (sh : px_Sh) (M : px_M) (L : px_L) (R : px_R) (p1 : Int32) (p2 : Int32) : Option (px_M × px_L) :=
  nm (px_u M 40 16 0) fun M_2 =>
  bd1 (f_J6_bitCount_0f7a4 p1) fun e_7 =>
  nm (px_u M_2 40 17 e_7) fun M_10 =>
  bd1 (lpf (fun a : Int32 × px_M × px_L => f_X4_fillTable_15 sh a.2.1 a.2.2 R p1 p2 a.1) (0, M_10, L)) fun e_15 =>
  some (e_15.1, e_15.2)
theorem s_X4_fillTable {d : Nat} {X : Nat × (Nat → Int32)} {sh : px_Sh} {M : px_M} {L : px_L} {R : px_R} {n : Nat} {p1 : Int32} {p2 : Int32} {e : px_M × px_L} (hS : SR sh R) (hd : 2 ≤ d) (h : f_X4_fillTable sh M L R p1 p2 = some e) : MX yX4_fillTable cX4_fillTable 4 none d 0 0 X [.ref 40, .int p1, .int p2] sh M L R n (px_pu none sh e.1 e.2 R n) := by
  refine MX.of (by decide +kernel) (by exact Nat.le_of_ble_eq_true rfl) ?_
  have hcu : 0 ≤ 0 := Nat.zero_le _
  have hsu : 0 ≤ 0 := Nat.zero_le _
  have g : px_pu none sh e.1 e.2 R n none sh e.1 e.2 R n := ⟨rfl, rfl, rfl, rfl, rfl, rfl⟩
  unfold f_X4_fillTable at h
  refine wx_aload_n dX4_fillTable_0 rfl ?_
  refine wx_iconst (v := 0) dX4_fillTable_1 (by decide) ?_
  refine wx_putI dX4_fillTable_2 fl_X4_92 (sc_40 hS) (Or.inl rfl) rfl ⟨rfl, rfl⟩ ?_
  refine wx_namM (fun M_2 q_2 => ?_)
  replace h := nm_at h q_2
  refine wx_aload_n dX4_fillTable_5 rfl ?_
  refine wx_iload_n dX4_fillTable_6 rfl ?_
  obtain ⟨e_7, k_7, h⟩ := bd1_some h
  refine wx_cSi dX4_fillTable_7 ml_X4_95 my_J6_bitCount_0f7a4 sv_J6_bitCount_0f7a4 (s_J6_bitCount_0f7a4 (d := d - 1) hS (by omega) k_7) rfl (by omega) (by exact Nat.le_of_ble_eq_true rfl) hcu hsu ?_
  refine wx_putI dX4_fillTable_10 fl_X4_101 (sc_40 hS) (Or.inl rfl) rfl ⟨rfl, rfl⟩ ?_
  refine wx_namM (fun M_10 q_10 => ?_)
  replace h := nm_at h q_10
  refine wx_iconst (v := 0) dX4_fillTable_13 (by decide) ?_
  refine wx_istore_n (lv' := [(3, _), (0, _), (1, _), (2, _)]) dX4_fillTable_14 (by decide) rfl ?_
  obtain ⟨e_15, k_15, h⟩ := bd1_some h
  refine wx_sub (s_X4_fillTable_15 hS hd hcu hsu k_15 ?_) (px_s rfl (px_s rfl (px_s rfl (px_s rfl px_0))))
  refine wx_vret dX4_fillTable_54 hcu hsu ?_
  obtain rfl := Option.some.inj h
  exact g
noncomputable def f_X4_clearEntry_22 (sh : px_Sh) (M : px_M) (L : px_L) (R : px_R) (x1 : Int32) (x2 : Int32) (y3 : Int64) (y5 : Int64) (x7 : Int32) : Option ((Int32 × px_L) ⊕ (px_L)) :=
  if (M 40 17) < x7 then
    some (.inr L)
  else
    if (lg_cmp (L 40 18) 0) = 0 then
      some (.inr L)
    else
      ok (ix x1 12) <|
      bd1 (R 48 x1.toNatClampNeg) fun b_45 =>
      ok (ix x1 12) <|
      bd1 (R 48 x1.toNatClampNeg) fun b_54 =>
      ok (xk sh b_54 14 x7) <|
      ok (ix x2 12) <|
      bd1 (R 48 x2.toNatClampNeg) fun b_66 =>
      ok (xk sh b_66 14 x7) <|
      ok (nz (L 40 18) 0) <|
      nm (((y3 * (L b_54 x7.toNatClampNeg)) - (y5 * (L b_66 x7.toNatClampNeg))) / (L 40 18)) fun v_77 =>
      ok (xk sh b_45 14 x7) <|
      nm (px_u L b_45 x7.toNatClampNeg v_77) fun L_77 =>
      some (.inl ((x7 + 1), L_77))
theorem s_X4_clearEntry_22b {x1 : Int32} {x2 : Int32} {y3 : Int64} {y5 : Int64} {x7 : Int32} {M : px_M} {L : px_L} {R : px_R} {e : ((Int32 × px_L) ⊕ (px_L))} (hS : SR sh R) (hd : 0 ≤ d) (hcu : cu ≤ mc) (hsu : su ≤ ms) (h : f_X4_clearEntry_22 sh M L R x1 x2 y3 y5 x7 = some e) (g : (sE (fun a => WX RX4 cX4_clearEntry 8 none ("clearEntry", []) d mc ms X (px_QF Post mc ms) 22 [(0, .ref 40), (1, .int x1), (2, .int x2), (3, .long y3), (5, .long y5), (7, .int a.1)] [] sh M (a.2) R n cu su) (fun t => WX RX4 cX4_clearEntry 8 none ("clearEntry", []) d mc ms X (px_QF Post mc ms) 84 [] [] sh M t R n cu su)) e) : WX RX4 cX4_clearEntry 8 none ("clearEntry", []) d mc ms X (px_QF Post mc ms) 22 [(0, .ref 40), (1, .int x1), (2, .int x2), (3, .long y3), (5, .long y5), (7, .int x7)] [] sh M L R n cu su := by
  unfold f_X4_clearEntry_22 at h
  refine wx_iload dX4_clearEntry_22 rfl ?_
  refine wx_aload_n dX4_clearEntry_24 rfl ?_
  refine wx_getI dX4_clearEntry_25 fl_X4_101 (sc_40 hS) rfl ?_
  refine wx_icmp_gt (tgt := 84) dX4_clearEntry_28 (by decide) (fun c_28 => ?_) (fun c_28 => ?_)
  · replace h := it_t h c_28
    obtain rfl := Option.some.inj h
    replace g := sE_r g
    exact wx_sub g px_0
  · replace h := it_f h c_28
    refine wx_aload_n dX4_clearEntry_31 rfl ?_
    refine wx_getL dX4_clearEntry_32 fl_X4_112 (sc_40 hS) rfl ?_
    refine wx_lconst (v := 0) dX4_clearEntry_35 (by decide) ?_
    refine wx_lcmp dX4_clearEntry_36 ?_
    refine wx_if_eq (tgt := 84) dX4_clearEntry_37 (by decide) (fun c_37 => ?_) (fun c_37 => ?_)
    · replace h := it_t h c_37
      obtain rfl := Option.some.inj h
      replace g := sE_r g
      exact wx_sub g px_0
    · replace h := it_f h c_37
      refine wx_aload_n dX4_clearEntry_40 rfl ?_
      refine wx_getR dX4_clearEntry_41 fl_X4_36 (sc_40 hS) rfl (rr_40_15 hS) ?_
      refine wx_iload_n dX4_clearEntry_44 rfl ?_
      obtain ⟨w_45, h⟩ := ok_some h
      obtain ⟨b_45, wr_45, h⟩ := bd1_some h
      refine wx_aald dX4_clearEntry_45 (sc_48 hS) (by decide) (by decide) (ix_in w_45) wr_45 ?_
      refine wx_iload dX4_clearEntry_46 rfl ?_
      refine wx_lload_n dX4_clearEntry_48 rfl ?_
      refine wx_aload_n dX4_clearEntry_49 rfl ?_
      refine wx_getR dX4_clearEntry_50 fl_X4_36 (sc_40 hS) rfl (rr_40_15 hS) ?_
      refine wx_iload_n dX4_clearEntry_53 rfl ?_
      obtain ⟨w_54, h⟩ := ok_some h
      obtain ⟨b_54, wr_54, h⟩ := bd1_some h
      refine wx_aald dX4_clearEntry_54 (sc_48 hS) (by decide) (by decide) (ix_in w_54) wr_54 ?_
      refine wx_iload dX4_clearEntry_55 rfl ?_
      obtain ⟨w_57, h⟩ := ok_some h
      obtain ⟨ln_57, wt_57, wi_57⟩ := xk_some w_57
      refine wx_lald dX4_clearEntry_57 wt_57 wi_57 ?_
      refine wx_lmul dX4_clearEntry_58 ?_
      refine wx_lload dX4_clearEntry_59 rfl ?_
      refine wx_aload_n dX4_clearEntry_61 rfl ?_
      refine wx_getR dX4_clearEntry_62 fl_X4_36 (sc_40 hS) rfl (rr_40_15 hS) ?_
      refine wx_iload_n dX4_clearEntry_65 rfl ?_
      obtain ⟨w_66, h⟩ := ok_some h
      obtain ⟨b_66, wr_66, h⟩ := bd1_some h
      refine wx_aald dX4_clearEntry_66 (sc_48 hS) (by decide) (by decide) (ix_in w_66) wr_66 ?_
      refine wx_iload dX4_clearEntry_67 rfl ?_
      obtain ⟨w_69, h⟩ := ok_some h
      obtain ⟨ln_69, wt_69, wi_69⟩ := xk_some w_69
      refine wx_lald dX4_clearEntry_69 wt_69 wi_69 ?_
      refine wx_lmul dX4_clearEntry_70 ?_
      refine wx_lsub dX4_clearEntry_71 ?_
      refine wx_aload_n dX4_clearEntry_72 rfl ?_
      refine wx_getL dX4_clearEntry_73 fl_X4_112 (sc_40 hS) rfl ?_
      obtain ⟨w_76, h⟩ := ok_some h
      refine wx_ldiv dX4_clearEntry_76 (nz_n w_76) ?_
      refine wx_naml (fun v_77 q_77 => ?_)
      replace h := nm_at h q_77
      obtain ⟨w_77, h⟩ := ok_some h
      obtain ⟨ln_77, wt_77, wi_77⟩ := xk_some w_77
      refine wx_last dX4_clearEntry_77 wt_77 wi_77 ?_
      refine wx_namL (fun L_77 q_77 => ?_)
      replace h := nm_at h q_77
      refine wx_iinc (lv' := [(7, _), (0, _), (1, _), (2, _), (3, _), (5, _)]) dX4_clearEntry_78 rfl (i_1 _) (by decide) rfl ?_
      refine wx_goto (tgt := 22) dX4_clearEntry_81 (by decide) ?_
      obtain rfl := Option.some.inj h
      replace g := sE_l g
      exact wx_sub g (px_s rfl (px_s rfl (px_s rfl (px_s rfl (px_s rfl (px_s rfl px_0))))))
theorem s_X4_clearEntry_22 {x1 : Int32} {x2 : Int32} {y3 : Int64} {y5 : Int64} {x7 : Int32} {M : px_M} {L : px_L} {R : px_R} {e : (px_L)} (hS : SR sh R) (hd : 0 ≤ d) (hcu : cu ≤ mc) (hsu : su ≤ ms) (h : lpf (fun a : Int32 × px_L => f_X4_clearEntry_22 sh M a.2 R x1 x2 y3 y5 a.1) (x7, L) = some e) (g : WX RX4 cX4_clearEntry 8 none ("clearEntry", []) d mc ms X (px_QF Post mc ms) 84 [] [] sh M e R n cu su) : WX RX4 cX4_clearEntry 8 none ("clearEntry", []) d mc ms X (px_QF Post mc ms) 22 [(0, .ref 40), (1, .int x1), (2, .int x2), (3, .long y3), (5, .long y5), (7, .int x7)] [] sh M L R n cu su := by
  have key := lpf_wp (P := (fun a => WX RX4 cX4_clearEntry 8 none ("clearEntry", []) d mc ms X (px_QF Post mc ms) 22 [(0, .ref 40), (1, .int x1), (2, .int x2), (3, .long y3), (5, .long y5), (7, .int a.1)] [] sh M (a.2) R n cu su)) (G := (fun t => WX RX4 cX4_clearEntry 8 none ("clearEntry", []) d mc ms X (px_QF Post mc ms) 84 [] [] sh M t R n cu su)) (fun a r h g => s_X4_clearEntry_22b (x1 := x1) (x2 := x2) (y3 := y3) (y5 := y5) (x7 := a.1) (M := M) (L := a.2) (R := R) hS hd hcu hsu h g) (a := (x7, L)) h g
  exact key
noncomputable def f_X4_clearEntry (sh : px_Sh) (M : px_M) (L : px_L) (R : px_R) (p1 : Int32) (p2 : Int32) : Option (px_L) :=
  ok (ix p2 12) <|
  bd1 (R 48 p2.toNatClampNeg) fun b_5 =>
  ok (xk sh b_5 14 p2) <|
  nm (L b_5 p2.toNatClampNeg) fun v_8 =>
  ok (ix p1 12) <|
  bd1 (R 48 p1.toNatClampNeg) fun b_14 =>
  ok (xk sh b_14 14 p2) <|
  nm (L b_14 p2.toNatClampNeg) fun v_17 =>
  bd1 (lpf (fun a : Int32 × px_L => f_X4_clearEntry_22 sh M a.2 R p1 p2 v_8 v_17 a.1) (0, L)) fun e_22 =>
  some e_22
theorem s_X4_clearEntry {d : Nat} {X : Nat × (Nat → Int32)} {sh : px_Sh} {M : px_M} {L : px_L} {R : px_R} {n : Nat} {p1 : Int32} {p2 : Int32} {e : px_L} (hS : SR sh R) (hd : 0 ≤ d) (h : f_X4_clearEntry sh M L R p1 p2 = some e) : MX yX4_clearEntry cX4_clearEntry 8 none d 0 0 X [.ref 40, .int p1, .int p2] sh M L R n (px_pu none sh M e R n) := by
  refine MX.of (by decide +kernel) (by exact Nat.le_of_ble_eq_true rfl) ?_
  have hcu : 0 ≤ 0 := Nat.zero_le _
  have hsu : 0 ≤ 0 := Nat.zero_le _
  have g : px_pu none sh M e R n none sh M e R n := ⟨rfl, rfl, rfl, rfl, rfl, rfl⟩
  unfold f_X4_clearEntry at h
  refine wx_aload_n dX4_clearEntry_0 rfl ?_
  refine wx_getR dX4_clearEntry_1 fl_X4_36 (sc_40 hS) rfl (rr_40_15 hS) ?_
  refine wx_iload_n dX4_clearEntry_4 rfl ?_
  obtain ⟨w_5, h⟩ := ok_some h
  obtain ⟨b_5, wr_5, h⟩ := bd1_some h
  refine wx_aald dX4_clearEntry_5 (sc_48 hS) (by decide) (by decide) (ix_in w_5) wr_5 ?_
  refine wx_iload_n dX4_clearEntry_6 rfl ?_
  obtain ⟨w_7, h⟩ := ok_some h
  obtain ⟨ln_7, wt_7, wi_7⟩ := xk_some w_7
  refine wx_lald dX4_clearEntry_7 wt_7 wi_7 ?_
  refine wx_naml (fun v_8 q_8 => ?_)
  replace h := nm_at h q_8
  refine wx_lstore_n (lv' := [(3, _), (0, _), (1, _), (2, _)]) dX4_clearEntry_8 (by decide) rfl ?_
  refine wx_aload_n dX4_clearEntry_9 rfl ?_
  refine wx_getR dX4_clearEntry_10 fl_X4_36 (sc_40 hS) rfl (rr_40_15 hS) ?_
  refine wx_iload_n dX4_clearEntry_13 rfl ?_
  obtain ⟨w_14, h⟩ := ok_some h
  obtain ⟨b_14, wr_14, h⟩ := bd1_some h
  refine wx_aald dX4_clearEntry_14 (sc_48 hS) (by decide) (by decide) (ix_in w_14) wr_14 ?_
  refine wx_iload_n dX4_clearEntry_15 rfl ?_
  obtain ⟨w_16, h⟩ := ok_some h
  obtain ⟨ln_16, wt_16, wi_16⟩ := xk_some w_16
  refine wx_lald dX4_clearEntry_16 wt_16 wi_16 ?_
  refine wx_naml (fun v_17 q_17 => ?_)
  replace h := nm_at h q_17
  refine wx_lstore (lv' := [(5, _), (3, _), (0, _), (1, _), (2, _)]) dX4_clearEntry_17 (by decide) rfl ?_
  refine wx_iconst (v := 0) dX4_clearEntry_19 (by decide) ?_
  refine wx_istore (lv' := [(7, _), (5, _), (3, _), (0, _), (1, _), (2, _)]) dX4_clearEntry_20 (by decide) rfl ?_
  obtain ⟨e_22, k_22, h⟩ := bd1_some h
  refine wx_sub (s_X4_clearEntry_22 hS hd hcu hsu k_22 ?_) (px_s rfl (px_s rfl (px_s rfl (px_s rfl (px_s rfl (px_s rfl px_0))))))
  refine wx_vret dX4_clearEntry_84 hcu hsu ?_
  obtain rfl := Option.some.inj h
  exact g
noncomputable def f_X4_eliminate_105 (sh : px_Sh) (M : px_M) (L : px_L) (R : px_R) (x1 : Int32) (x4 : Int32) : Option ((Int32 × px_L) ⊕ (px_L)) :=
  some (.inl ((x4 + 1), L))
theorem s_X4_eliminate_105 {x1 : Int32} {x4 : Int32} {M : px_M} {L : px_L} {R : px_R} {e : ((Int32 × px_L) ⊕ (px_L))} (hS : SR sh R) (hd : 1 ≤ d) (hcu : cu ≤ mc) (hsu : su ≤ ms) (h : f_X4_eliminate_105 sh M L R x1 x4 = some e) (g : (sE (fun a => WX RX4 cX4_eliminate 5 (some .boolean) ("eliminate", []) d mc ms X (px_QF Post mc ms) 83 [(0, .ref 40), (1, .int x1), (4, .int a.1)] [] sh M (a.2) R n cu su) (fun t => WX RX4 cX4_eliminate 5 (some .boolean) ("eliminate", []) d mc ms X (px_QF Post mc ms) 111 [(0, .ref 40), (1, .int x1)] [] sh M t R n cu su)) e) : WX RX4 cX4_eliminate 5 (some .boolean) ("eliminate", []) d mc ms X (px_QF Post mc ms) 105 [(0, .ref 40), (1, .int x1), (4, .int x4)] [] sh M L R n cu su := by
  unfold f_X4_eliminate_105 at h
  refine wx_iinc (lv' := [(4, _), (0, _), (1, _)]) dX4_eliminate_105 rfl (i_1 _) (by decide) rfl ?_
  refine wx_goto (tgt := 83) dX4_eliminate_108 (by decide) ?_
  obtain rfl := Option.some.inj h
  replace g := sE_l g
  exact wx_sub g (px_s rfl (px_s rfl (px_s rfl px_0)))
noncomputable def f_X4_eliminate_83 (sh : px_Sh) (M : px_M) (L : px_L) (R : px_R) (x1 : Int32) (x4 : Int32) : Option ((Int32 × px_L) ⊕ (px_L)) :=
  if (M 40 16) ≤ x4 then
    some (.inr L)
  else
    if x4 = x1 then
      f_X4_eliminate_105 sh M L R x1 x4
    else
      bd1 (f_X4_clearEntry sh M L R x4 x1) fun e_102 =>
      f_X4_eliminate_105 sh M e_102 R x1 x4
theorem s_X4_eliminate_83b {x1 : Int32} {x4 : Int32} {M : px_M} {L : px_L} {R : px_R} {e : ((Int32 × px_L) ⊕ (px_L))} (hS : SR sh R) (hd : 1 ≤ d) (hcu : cu ≤ mc) (hsu : su ≤ ms) (h : f_X4_eliminate_83 sh M L R x1 x4 = some e) (g : (sE (fun a => WX RX4 cX4_eliminate 5 (some .boolean) ("eliminate", []) d mc ms X (px_QF Post mc ms) 83 [(0, .ref 40), (1, .int x1), (4, .int a.1)] [] sh M (a.2) R n cu su) (fun t => WX RX4 cX4_eliminate 5 (some .boolean) ("eliminate", []) d mc ms X (px_QF Post mc ms) 111 [(0, .ref 40), (1, .int x1)] [] sh M t R n cu su)) e) : WX RX4 cX4_eliminate 5 (some .boolean) ("eliminate", []) d mc ms X (px_QF Post mc ms) 83 [(0, .ref 40), (1, .int x1), (4, .int x4)] [] sh M L R n cu su := by
  unfold f_X4_eliminate_83 at h
  refine wx_iload dX4_eliminate_83 rfl ?_
  refine wx_aload_n dX4_eliminate_85 rfl ?_
  refine wx_getI dX4_eliminate_86 fl_X4_92 (sc_40 hS) rfl ?_
  refine wx_icmp_ge (tgt := 111) dX4_eliminate_89 (by decide) (fun c_89 => ?_) (fun c_89 => ?_)
  · replace h := it_t h c_89
    obtain rfl := Option.some.inj h
    replace g := sE_r g
    exact wx_sub g (px_s rfl (px_s rfl px_0))
  · replace h := it_f h c_89
    refine wx_iload dX4_eliminate_92 rfl ?_
    refine wx_iload_n dX4_eliminate_94 rfl ?_
    refine wx_icmp_eq (tgt := 105) dX4_eliminate_95 (by decide) (fun c_95 => ?_) (fun c_95 => ?_)
    · replace h := it_t h c_95
      exact wx_sub (s_X4_eliminate_105 hS hd hcu hsu h g) (px_s rfl (px_s rfl (px_s rfl px_0)))
    · replace h := it_f h c_95
      refine wx_aload_n dX4_eliminate_98 rfl ?_
      refine wx_iload dX4_eliminate_99 rfl ?_
      refine wx_iload_n dX4_eliminate_101 rfl ?_
      obtain ⟨e_102, k_102, h⟩ := bd1_some h
      refine wx_cVv dX4_eliminate_102 ml_X4_116 my_X4_clearEntry iv_X4_clearEntry (sc_40 hS) (by decide) (s_X4_clearEntry (d := d - 1) hS (by omega) k_102) rfl (by omega) (by exact Nat.le_of_ble_eq_true rfl) hcu hsu ?_
      exact wx_sub (s_X4_eliminate_105 hS hd hcu hsu h g) (px_s rfl (px_s rfl (px_s rfl px_0)))
theorem s_X4_eliminate_83 {x1 : Int32} {x4 : Int32} {M : px_M} {L : px_L} {R : px_R} {e : (px_L)} (hS : SR sh R) (hd : 1 ≤ d) (hcu : cu ≤ mc) (hsu : su ≤ ms) (h : lpf (fun a : Int32 × px_L => f_X4_eliminate_83 sh M a.2 R x1 a.1) (x4, L) = some e) (g : WX RX4 cX4_eliminate 5 (some .boolean) ("eliminate", []) d mc ms X (px_QF Post mc ms) 111 [(0, .ref 40), (1, .int x1)] [] sh M e R n cu su) : WX RX4 cX4_eliminate 5 (some .boolean) ("eliminate", []) d mc ms X (px_QF Post mc ms) 83 [(0, .ref 40), (1, .int x1), (4, .int x4)] [] sh M L R n cu su := by
  have key := lpf_wp (P := (fun a => WX RX4 cX4_eliminate 5 (some .boolean) ("eliminate", []) d mc ms X (px_QF Post mc ms) 83 [(0, .ref 40), (1, .int x1), (4, .int a.1)] [] sh M (a.2) R n cu su)) (G := (fun t => WX RX4 cX4_eliminate 5 (some .boolean) ("eliminate", []) d mc ms X (px_QF Post mc ms) 111 [(0, .ref 40), (1, .int x1)] [] sh M t R n cu su)) (fun a r h g => s_X4_eliminate_83b (x1 := x1) (x4 := a.1) (M := M) (L := a.2) (R := R) hS hd hcu hsu h g) (a := (x4, L)) h g
  exact key
noncomputable def f_X4_eliminate_17 (sh : px_Sh) (M : px_M) (L : px_L) (R : px_R) (x1 : Int32) (x2 : Int32) : Option ((Int32) ⊕ (Int32)) :=
  if (M 40 16) ≤ x2 then
    some (.inr x2)
  else
    ok (ix x2 12) <|
    bd1 (R 48 x2.toNatClampNeg) fun b_30 =>
    ok (xk sh b_30 14 x1) <|
    if (lg_cmp (L b_30 x1.toNatClampNeg) 0) = 0 then
      some (.inl (x2 + 1))
    else
      some (.inr x2)
theorem s_X4_eliminate_17b {x1 : Int32} {x2 : Int32} {M : px_M} {L : px_L} {R : px_R} {e : ((Int32) ⊕ (Int32))} (hS : SR sh R) (hd : 1 ≤ d) (hcu : cu ≤ mc) (hsu : su ≤ ms) (h : f_X4_eliminate_17 sh M L R x1 x2 = some e) (g : (sE (fun a => WX RX4 cX4_eliminate 5 (some .boolean) ("eliminate", []) d mc ms X (px_QF Post mc ms) 17 [(0, .ref 40), (1, .int x1), (2, .int a)] [] sh M L R n cu su) (fun t => WX RX4 cX4_eliminate 5 (some .boolean) ("eliminate", []) d mc ms X (px_QF Post mc ms) 44 [(0, .ref 40), (1, .int x1), (2, .int t)] [] sh M L R n cu su)) e) : WX RX4 cX4_eliminate 5 (some .boolean) ("eliminate", []) d mc ms X (px_QF Post mc ms) 17 [(0, .ref 40), (1, .int x1), (2, .int x2)] [] sh M L R n cu su := by
  unfold f_X4_eliminate_17 at h
  refine wx_iload_n dX4_eliminate_17 rfl ?_
  refine wx_aload_n dX4_eliminate_18 rfl ?_
  refine wx_getI dX4_eliminate_19 fl_X4_92 (sc_40 hS) rfl ?_
  refine wx_icmp_ge (tgt := 44) dX4_eliminate_22 (by decide) (fun c_22 => ?_) (fun c_22 => ?_)
  · replace h := it_t h c_22
    obtain rfl := Option.some.inj h
    replace g := sE_r g
    exact wx_sub g (px_s rfl (px_s rfl (px_s rfl px_0)))
  · replace h := it_f h c_22
    refine wx_aload_n dX4_eliminate_25 rfl ?_
    refine wx_getR dX4_eliminate_26 fl_X4_36 (sc_40 hS) rfl (rr_40_15 hS) ?_
    refine wx_iload_n dX4_eliminate_29 rfl ?_
    obtain ⟨w_30, h⟩ := ok_some h
    obtain ⟨b_30, wr_30, h⟩ := bd1_some h
    refine wx_aald dX4_eliminate_30 (sc_48 hS) (by decide) (by decide) (ix_in w_30) wr_30 ?_
    refine wx_iload_n dX4_eliminate_31 rfl ?_
    obtain ⟨w_32, h⟩ := ok_some h
    obtain ⟨ln_32, wt_32, wi_32⟩ := xk_some w_32
    refine wx_lald dX4_eliminate_32 wt_32 wi_32 ?_
    refine wx_lconst (v := 0) dX4_eliminate_33 (by decide) ?_
    refine wx_lcmp dX4_eliminate_34 ?_
    refine wx_if_ne (tgt := 44) dX4_eliminate_35 (by decide) (fun c_35 => ?_) (fun c_35 => ?_)
    · replace h := it_f h c_35
      obtain rfl := Option.some.inj h
      replace g := sE_r g
      exact wx_sub g (px_s rfl (px_s rfl (px_s rfl px_0)))
    · replace h := it_t h c_35
      refine wx_iinc (lv' := [(2, _), (0, _), (1, _)]) dX4_eliminate_38 rfl (i_1 _) (by decide) rfl ?_
      refine wx_goto (tgt := 17) dX4_eliminate_41 (by decide) ?_
      obtain rfl := Option.some.inj h
      replace g := sE_l g
      exact wx_sub g (px_s rfl (px_s rfl (px_s rfl px_0)))
theorem s_X4_eliminate_17 {x1 : Int32} {x2 : Int32} {M : px_M} {L : px_L} {R : px_R} {e : (Int32)} (hS : SR sh R) (hd : 1 ≤ d) (hcu : cu ≤ mc) (hsu : su ≤ ms) (h : lpf (fun a : Int32 => f_X4_eliminate_17 sh M L R x1 a) x2 = some e) (g : WX RX4 cX4_eliminate 5 (some .boolean) ("eliminate", []) d mc ms X (px_QF Post mc ms) 44 [(0, .ref 40), (1, .int x1), (2, .int e)] [] sh M L R n cu su) : WX RX4 cX4_eliminate 5 (some .boolean) ("eliminate", []) d mc ms X (px_QF Post mc ms) 17 [(0, .ref 40), (1, .int x1), (2, .int x2)] [] sh M L R n cu su := by
  have key := lpf_wp (P := (fun a => WX RX4 cX4_eliminate 5 (some .boolean) ("eliminate", []) d mc ms X (px_QF Post mc ms) 17 [(0, .ref 40), (1, .int x1), (2, .int a)] [] sh M L R n cu su)) (G := (fun t => WX RX4 cX4_eliminate 5 (some .boolean) ("eliminate", []) d mc ms X (px_QF Post mc ms) 44 [(0, .ref 40), (1, .int x1), (2, .int t)] [] sh M L R n cu su)) (fun a r h g => s_X4_eliminate_17b (x1 := x1) (x2 := a) (M := M) (L := L) (R := R) hS hd hcu hsu h g) (a := x2) h g
  exact key
noncomputable def f_X4_eliminate_7 (sh : px_Sh) (M : px_M) (L : px_L) (R : px_R) (x1 : Int32) : Option ((Int32 × px_L × px_R) ⊕ ((px_L × px_R) ⊕ (px_L × px_R))) :=
  if (M 40 17) ≤ x1 then
    some (.inr (.inr (L, R)))
  else
    bd1 (lpf (fun a : Int32 => f_X4_eliminate_17 sh M L R x1 a) x1) fun e_17 =>
    if e_17 < (M 40 16) then
      ok (ix e_17 12) <|
      bd1 (R 48 e_17.toNatClampNeg) fun b_59 =>
      ok (ix x1 12) <|
      bd1 (R 48 x1.toNatClampNeg) fun b_71 =>
      ok (ix e_17 12) <|
      ok (hk sh b_71 14) <|
      nm (px_u R 48 e_17.toNatClampNeg (some b_71)) fun R_72 =>
      ok (ix x1 12) <|
      ok (hk sh b_59 14) <|
      nm (px_u R_72 48 x1.toNatClampNeg (some b_59)) fun R_79 =>
      bd1 (lpf (fun a : Int32 × px_L => f_X4_eliminate_83 sh M a.2 R_79 x1 a.1) (0, L)) fun e_83 =>
      ok (ix x1 12) <|
      bd1 (R_79 48 x1.toNatClampNeg) fun b_117 =>
      ok (xk sh b_117 14 x1) <|
      nm (e_83 b_117 x1.toNatClampNeg) fun v_120 =>
      nm (px_u e_83 40 18 v_120) fun L_120 =>
      some (.inl ((x1 + 1), L_120, R_79))
    else
      some (.inr (.inl (L, R)))
theorem s_X4_eliminate_7b {x1 : Int32} {M : px_M} {L : px_L} {R : px_R} {e : ((Int32 × px_L × px_R) ⊕ ((px_L × px_R) ⊕ (px_L × px_R)))} (hS : SR sh R) (hd : 1 ≤ d) (hcu : cu ≤ mc) (hsu : su ≤ ms) (h : f_X4_eliminate_7 sh M L R x1 = some e) (g : (sE (fun a => SR sh (a.2.2) → WX RX4 cX4_eliminate 5 (some .boolean) ("eliminate", []) d mc ms X (px_QF Post mc ms) 7 [(0, .ref 40), (1, .int a.1)] [] sh M (a.2.1) (a.2.2) n cu su) (sE (fun t => SR sh (t.2) → WX RX4 cX4_eliminate 5 (some .boolean) ("eliminate", []) d mc ms X (px_QF Post mc ms) 52 [] [] sh M (t.1) (t.2) n cu su) (fun t => SR sh (t.2) → WX RX4 cX4_eliminate 5 (some .boolean) ("eliminate", []) d mc ms X (px_QF Post mc ms) 129 [] [] sh M (t.1) (t.2) n cu su))) e) : WX RX4 cX4_eliminate 5 (some .boolean) ("eliminate", []) d mc ms X (px_QF Post mc ms) 7 [(0, .ref 40), (1, .int x1)] [] sh M L R n cu su := by
  unfold f_X4_eliminate_7 at h
  refine wx_iload_n dX4_eliminate_7 rfl ?_
  refine wx_aload_n dX4_eliminate_8 rfl ?_
  refine wx_getI dX4_eliminate_9 fl_X4_101 (sc_40 hS) rfl ?_
  refine wx_icmp_ge (tgt := 129) dX4_eliminate_12 (by decide) (fun c_12 => ?_) (fun c_12 => ?_)
  · replace h := it_t h c_12
    obtain rfl := Option.some.inj h
    replace g := sE_r (sE_r g)
    exact wx_sub (g hS) px_0
  · replace h := it_f h c_12
    refine wx_iload_n dX4_eliminate_15 rfl ?_
    refine wx_istore_n (lv' := [(2, _), (0, _), (1, _)]) dX4_eliminate_16 (by decide) rfl ?_
    obtain ⟨e_17, k_17, h⟩ := bd1_some h
    refine wx_sub (s_X4_eliminate_17 hS hd hcu hsu k_17 ?_) (px_s rfl (px_s rfl (px_s rfl px_0)))
    refine wx_iload_n dX4_eliminate_44 rfl ?_
    refine wx_aload_n dX4_eliminate_45 rfl ?_
    refine wx_getI dX4_eliminate_46 fl_X4_92 (sc_40 hS) rfl ?_
    refine wx_icmp_lt (tgt := 54) dX4_eliminate_49 (by decide) (fun c_49 => ?_) (fun c_49 => ?_)
    · replace h := it_t h c_49
      refine wx_aload_n dX4_eliminate_54 rfl ?_
      refine wx_getR dX4_eliminate_55 fl_X4_36 (sc_40 hS) rfl (rr_40_15 hS) ?_
      refine wx_iload_n dX4_eliminate_58 rfl ?_
      obtain ⟨w_59, h⟩ := ok_some h
      obtain ⟨b_59, wr_59, h⟩ := bd1_some h
      refine wx_aald dX4_eliminate_59 (sc_48 hS) (by decide) (by decide) (ix_in w_59) wr_59 ?_
      refine wx_astore_n (lv' := [(3, _), (0, _), (1, _), (2, _)]) dX4_eliminate_60 (by decide) rfl ?_
      refine wx_aload_n dX4_eliminate_61 rfl ?_
      refine wx_getR dX4_eliminate_62 fl_X4_36 (sc_40 hS) rfl (rr_40_15 hS) ?_
      refine wx_iload_n dX4_eliminate_65 rfl ?_
      refine wx_aload_n dX4_eliminate_66 rfl ?_
      refine wx_getR dX4_eliminate_67 fl_X4_36 (sc_40 hS) rfl (rr_40_15 hS) ?_
      refine wx_iload_n dX4_eliminate_70 rfl ?_
      obtain ⟨w_71, h⟩ := ok_some h
      obtain ⟨b_71, wr_71, h⟩ := bd1_some h
      refine wx_aald dX4_eliminate_71 (sc_48 hS) (by decide) (by decide) (ix_in w_71) wr_71 ?_
      obtain ⟨w_72, h⟩ := ok_some h
      obtain ⟨ws_72v, h⟩ := ok_some h
      obtain ⟨ln_72v, wt_72v⟩ := hk_some ws_72v
      refine wx_aast dX4_eliminate_72 (sc_48 hS) (by decide) (by decide) wt_72v (Or.inr ⟨rfl, rfl⟩) (ix_in w_72) ?_
      refine wx_namR (fun R_72 q_72 => ?_)
      replace h := nm_at h q_72
      replace hS : SR sh R_72 := by rw [q_72]; exact SR.put hS (rlay_48 _)
      refine wx_aload_n dX4_eliminate_73 rfl ?_
      refine wx_getR dX4_eliminate_74 fl_X4_36 (sc_40 hS) rfl (rr_40_15 hS) ?_
      refine wx_iload_n dX4_eliminate_77 rfl ?_
      refine wx_aload_n dX4_eliminate_78 rfl ?_
      obtain ⟨w_79, h⟩ := ok_some h
      obtain ⟨ws_79v, h⟩ := ok_some h
      obtain ⟨ln_79v, wt_79v⟩ := hk_some ws_79v
      refine wx_aast dX4_eliminate_79 (sc_48 hS) (by decide) (by decide) wt_79v (Or.inr ⟨rfl, rfl⟩) (ix_in w_79) ?_
      refine wx_namR (fun R_79 q_79 => ?_)
      replace h := nm_at h q_79
      replace hS : SR sh R_79 := by rw [q_79]; exact SR.put hS (rlay_48 _)
      refine wx_iconst (v := 0) dX4_eliminate_80 (by decide) ?_
      refine wx_istore (lv' := [(4, _), (3, _), (0, _), (1, _), (2, _)]) dX4_eliminate_81 (by decide) rfl ?_
      obtain ⟨e_83, k_83, h⟩ := bd1_some h
      refine wx_sub (s_X4_eliminate_83 hS hd hcu hsu k_83 ?_) (px_s rfl (px_s rfl (px_s rfl px_0)))
      refine wx_aload_n dX4_eliminate_111 rfl ?_
      refine wx_aload_n dX4_eliminate_112 rfl ?_
      refine wx_getR dX4_eliminate_113 fl_X4_36 (sc_40 hS) rfl (rr_40_15 hS) ?_
      refine wx_iload_n dX4_eliminate_116 rfl ?_
      obtain ⟨w_117, h⟩ := ok_some h
      obtain ⟨b_117, wr_117, h⟩ := bd1_some h
      refine wx_aald dX4_eliminate_117 (sc_48 hS) (by decide) (by decide) (ix_in w_117) wr_117 ?_
      refine wx_iload_n dX4_eliminate_118 rfl ?_
      obtain ⟨w_119, h⟩ := ok_some h
      obtain ⟨ln_119, wt_119, wi_119⟩ := xk_some w_119
      refine wx_lald dX4_eliminate_119 wt_119 wi_119 ?_
      refine wx_naml (fun v_120 q_120 => ?_)
      replace h := nm_at h q_120
      refine wx_putL dX4_eliminate_120 fl_X4_112 (sc_40 hS) (Or.inl rfl) rfl ⟨rfl, rfl⟩ ?_
      refine wx_namL (fun L_120 q_120 => ?_)
      replace h := nm_at h q_120
      refine wx_iinc (lv' := [(1, _), (0, _)]) dX4_eliminate_123 rfl (i_1 _) (by decide) rfl ?_
      refine wx_goto (tgt := 7) dX4_eliminate_126 (by decide) ?_
      obtain rfl := Option.some.inj h
      replace g := sE_l g
      exact wx_sub (g hS) (px_s rfl (px_s rfl px_0))
    · replace h := it_f h c_49
      obtain rfl := Option.some.inj h
      replace g := sE_l (sE_r g)
      exact wx_sub (g hS) px_0
theorem s_X4_eliminate_7 {x1 : Int32} {M : px_M} {L : px_L} {R : px_R} {e : ((px_L × px_R) ⊕ (px_L × px_R))} (hS : SR sh R) (hd : 1 ≤ d) (hcu : cu ≤ mc) (hsu : su ≤ ms) (h : lpf (fun a : Int32 × px_L × px_R => f_X4_eliminate_7 sh M a.2.1 a.2.2 a.1) (x1, L, R) = some e) (g : (sE (fun t => SR sh (t.2) → WX RX4 cX4_eliminate 5 (some .boolean) ("eliminate", []) d mc ms X (px_QF Post mc ms) 52 [] [] sh M (t.1) (t.2) n cu su) (fun t => SR sh (t.2) → WX RX4 cX4_eliminate 5 (some .boolean) ("eliminate", []) d mc ms X (px_QF Post mc ms) 129 [] [] sh M (t.1) (t.2) n cu su)) e) : WX RX4 cX4_eliminate 5 (some .boolean) ("eliminate", []) d mc ms X (px_QF Post mc ms) 7 [(0, .ref 40), (1, .int x1)] [] sh M L R n cu su := by
  have key := lpf_wp (P := (fun a => SR sh (a.2.2) → WX RX4 cX4_eliminate 5 (some .boolean) ("eliminate", []) d mc ms X (px_QF Post mc ms) 7 [(0, .ref 40), (1, .int a.1)] [] sh M (a.2.1) (a.2.2) n cu su)) (G := (sE (fun t => SR sh (t.2) → WX RX4 cX4_eliminate 5 (some .boolean) ("eliminate", []) d mc ms X (px_QF Post mc ms) 52 [] [] sh M (t.1) (t.2) n cu su) (fun t => SR sh (t.2) → WX RX4 cX4_eliminate 5 (some .boolean) ("eliminate", []) d mc ms X (px_QF Post mc ms) 129 [] [] sh M (t.1) (t.2) n cu su))) (fun a r h g => fun hS => s_X4_eliminate_7b (x1 := a.1) (M := M) (L := a.2.1) (R := a.2.2) hS hd hcu hsu h g) (a := (x1, L, R)) h g
  exact key hS
noncomputable def f_X4_eliminate (sh : px_Sh) (M : px_M) (L : px_L) (R : px_R) : Option (Int32 × px_L × px_R) :=
  nm (px_u L 40 18 1) fun L_2 =>
  bdS (lpf (fun a : Int32 × px_L × px_R => f_X4_eliminate_7 sh M a.2.1 a.2.2 a.1) (0, L_2, R)) (fun t_7_0 =>
  some (0, t_7_0.1, t_7_0.2)) (fun u_7_0 =>
  some (1, u_7_0.1, u_7_0.2))
theorem s_X4_eliminate {d : Nat} {X : Nat × (Nat → Int32)} {sh : px_Sh} {M : px_M} {L : px_L} {R : px_R} {n : Nat} {e : Int32 × px_L × px_R} (hS : SR sh R) (hd : 1 ≤ d) (h : f_X4_eliminate sh M L R = some e) : MX yX4_eliminate cX4_eliminate 5 (some .boolean) d 0 0 X [.ref 40] sh M L R n (px_ps (some (.int e.1)) sh M e.2.1 e.2.2 n) := by
  refine MX.of (by decide +kernel) (by exact Nat.le_of_ble_eq_true rfl) ?_
  have hcu : 0 ≤ 0 := Nat.zero_le _
  have hsu : 0 ≤ 0 := Nat.zero_le _
  have g : SR sh e.2.2 → px_ps (some (.int e.1)) sh M e.2.1 e.2.2 n (some (.int e.1)) sh M e.2.1 e.2.2 n := fun q => ⟨⟨rfl, rfl, rfl, rfl, rfl, rfl⟩, q⟩
  unfold f_X4_eliminate at h
  refine wx_aload_n dX4_eliminate_0 rfl ?_
  refine wx_lconst (v := 1) dX4_eliminate_1 (by decide) ?_
  refine wx_putL dX4_eliminate_2 fl_X4_112 (sc_40 hS) (Or.inl rfl) rfl ⟨rfl, rfl⟩ ?_
  refine wx_namL (fun L_2 q_2 => ?_)
  replace h := nm_at h q_2
  refine wx_iconst (v := 0) dX4_eliminate_5 (by decide) ?_
  refine wx_istore_n (lv' := [(1, _), (0, _)]) dX4_eliminate_6 (by decide) rfl ?_
  rcases bdS_some h with ⟨t_7_0, k_7_0, h⟩ | ⟨u_7_0, k_7_0, h⟩
  · refine wx_sub (s_X4_eliminate_7 hS hd hcu hsu k_7_0 (sE_li (fun hS => ?_))) (px_s rfl (px_s rfl px_0))
    refine wx_iconst (v := 0) dX4_eliminate_52 (by decide) ?_
    refine wx_zret dX4_eliminate_53 rfl hcu hsu ?_
    obtain rfl := Option.some.inj h
    exact g hS
  · refine wx_sub (s_X4_eliminate_7 hS hd hcu hsu k_7_0 (sE_ri (fun hS => ?_))) (px_s rfl (px_s rfl px_0))
    refine wx_iconst (v := 1) dX4_eliminate_129 (by decide) ?_
    refine wx_zret dX4_eliminate_130 rfl hcu hsu ?_
    obtain rfl := Option.some.inj h
    exact g hS
noncomputable def f_X4_pullsOnly_83 (sh : px_Sh) (M : px_M) (L : px_L) (R : px_R) (x1 : Int32) (z0 : Int32) : Option ((Int32) ⊕ ((Unit) ⊕ (Unit))) :=
  if z0 = 0 then
    some (.inr (.inl ()))
  else
    some (.inl (x1 + 1))
theorem s_X4_pullsOnly_83 {x1 : Int32} {z0 : Int32} {M : px_M} {L : px_L} {R : px_R} {e : ((Int32) ⊕ ((Unit) ⊕ (Unit)))} (hS : SR sh R) (hd : 0 ≤ d) (hcu : cu ≤ mc) (hsu : su ≤ ms) (h : f_X4_pullsOnly_83 sh M L R x1 z0 = some e) (g : (sE (fun a => WX RX4 cX4_pullsOnly 5 (some .boolean) ("pullsOnly", []) d mc ms X (px_QF Post mc ms) 2 [(0, .ref 40), (1, .int a)] [] sh M L R n cu su) (sE (fun t => WX RX4 cX4_pullsOnly 5 (some .boolean) ("pullsOnly", []) d mc ms X (px_QF Post mc ms) 90 [] [] sh M L R n cu su) (fun t => WX RX4 cX4_pullsOnly 5 (some .boolean) ("pullsOnly", []) d mc ms X (px_QF Post mc ms) 98 [] [] sh M L R n cu su))) e) : WX RX4 cX4_pullsOnly 5 (some .boolean) ("pullsOnly", []) d mc ms X (px_QF Post mc ms) 83 [(0, .ref 40), (1, .int x1)] [.int z0] sh M L R n cu su := by
  unfold f_X4_pullsOnly_83 at h
  refine wx_istore (lv' := [(4, _), (0, _), (1, _)]) dX4_pullsOnly_83 (by decide) rfl ?_
  refine wx_iload dX4_pullsOnly_85 rfl ?_
  refine wx_if_ne (tgt := 92) dX4_pullsOnly_87 (by decide) (fun c_87 => ?_) (fun c_87 => ?_)
  · replace h := it_f h c_87
    refine wx_iinc (lv' := [(1, _), (4, _), (0, _)]) dX4_pullsOnly_92 rfl (i_1 _) (by decide) rfl ?_
    refine wx_goto (tgt := 2) dX4_pullsOnly_95 (by decide) ?_
    obtain rfl := Option.some.inj h
    replace g := sE_l g
    exact wx_sub g (px_s rfl (px_s rfl px_0))
  · replace h := it_t h c_87
    obtain rfl := Option.some.inj h
    replace g := sE_l (sE_r g)
    exact wx_sub g px_0
noncomputable def f_X4_pullsOnly_78 (sh : px_Sh) (M : px_M) (L : px_L) (R : px_R) (x1 : Int32) : Option ((Int32) ⊕ ((Unit) ⊕ (Unit))) :=
  f_X4_pullsOnly_83 sh M L R x1 1
theorem s_X4_pullsOnly_78 {x1 : Int32} {M : px_M} {L : px_L} {R : px_R} {e : ((Int32) ⊕ ((Unit) ⊕ (Unit)))} (hS : SR sh R) (hd : 0 ≤ d) (hcu : cu ≤ mc) (hsu : su ≤ ms) (h : f_X4_pullsOnly_78 sh M L R x1 = some e) (g : (sE (fun a => WX RX4 cX4_pullsOnly 5 (some .boolean) ("pullsOnly", []) d mc ms X (px_QF Post mc ms) 2 [(0, .ref 40), (1, .int a)] [] sh M L R n cu su) (sE (fun t => WX RX4 cX4_pullsOnly 5 (some .boolean) ("pullsOnly", []) d mc ms X (px_QF Post mc ms) 90 [] [] sh M L R n cu su) (fun t => WX RX4 cX4_pullsOnly 5 (some .boolean) ("pullsOnly", []) d mc ms X (px_QF Post mc ms) 98 [] [] sh M L R n cu su))) e) : WX RX4 cX4_pullsOnly 5 (some .boolean) ("pullsOnly", []) d mc ms X (px_QF Post mc ms) 78 [(0, .ref 40), (1, .int x1)] [] sh M L R n cu su := by
  unfold f_X4_pullsOnly_78 at h
  refine wx_iconst (v := 1) dX4_pullsOnly_78 (by decide) ?_
  refine wx_goto (tgt := 83) dX4_pullsOnly_79 (by decide) ?_
  exact wx_sub (s_X4_pullsOnly_83 hS hd hcu hsu h g) (px_s rfl (px_s rfl px_0))
noncomputable def f_X4_pullsOnly_75 (sh : px_Sh) (M : px_M) (L : px_L) (R : px_R) (x1 : Int32) (z0 : Int32) (z1 : Int32) : Option ((Int32) ⊕ ((Unit) ⊕ (Unit))) :=
  if z1 = z0 then
    f_X4_pullsOnly_78 sh M L R x1
  else
    f_X4_pullsOnly_83 sh M L R x1 0
theorem s_X4_pullsOnly_75 {x1 : Int32} {z0 : Int32} {z1 : Int32} {M : px_M} {L : px_L} {R : px_R} {e : ((Int32) ⊕ ((Unit) ⊕ (Unit)))} (hS : SR sh R) (hd : 0 ≤ d) (hcu : cu ≤ mc) (hsu : su ≤ ms) (h : f_X4_pullsOnly_75 sh M L R x1 z0 z1 = some e) (g : (sE (fun a => WX RX4 cX4_pullsOnly 5 (some .boolean) ("pullsOnly", []) d mc ms X (px_QF Post mc ms) 2 [(0, .ref 40), (1, .int a)] [] sh M L R n cu su) (sE (fun t => WX RX4 cX4_pullsOnly 5 (some .boolean) ("pullsOnly", []) d mc ms X (px_QF Post mc ms) 90 [] [] sh M L R n cu su) (fun t => WX RX4 cX4_pullsOnly 5 (some .boolean) ("pullsOnly", []) d mc ms X (px_QF Post mc ms) 98 [] [] sh M L R n cu su))) e) : WX RX4 cX4_pullsOnly 5 (some .boolean) ("pullsOnly", []) d mc ms X (px_QF Post mc ms) 75 [(0, .ref 40), (1, .int x1)] [.int z0, .int z1] sh M L R n cu su := by
  unfold f_X4_pullsOnly_75 at h
  refine wx_icmp_ne (tgt := 82) dX4_pullsOnly_75 (by decide) (fun c_75 => ?_) (fun c_75 => ?_)
  · replace h := it_f h c_75
    refine wx_iconst (v := 0) dX4_pullsOnly_82 (by decide) ?_
    exact wx_sub (s_X4_pullsOnly_83 hS hd hcu hsu h g) (px_s rfl (px_s rfl px_0))
  · replace h := it_t h c_75
    exact wx_sub (s_X4_pullsOnly_78 hS hd hcu hsu h g) (px_s rfl (px_s rfl px_0))
noncomputable def f_X4_pullsOnly_61 (sh : px_Sh) (M : px_M) (L : px_L) (R : px_R) (x1 : Int32) (z0 : Int32) : Option ((Int32) ⊕ ((Unit) ⊕ (Unit))) :=
  if (lg_cmp (L 40 18) 0) ≤ 0 then
    f_X4_pullsOnly_75 sh M L R x1 0 z0
  else
    f_X4_pullsOnly_75 sh M L R x1 1 z0
theorem s_X4_pullsOnly_61 {x1 : Int32} {z0 : Int32} {M : px_M} {L : px_L} {R : px_R} {e : ((Int32) ⊕ ((Unit) ⊕ (Unit)))} (hS : SR sh R) (hd : 0 ≤ d) (hcu : cu ≤ mc) (hsu : su ≤ ms) (h : f_X4_pullsOnly_61 sh M L R x1 z0 = some e) (g : (sE (fun a => WX RX4 cX4_pullsOnly 5 (some .boolean) ("pullsOnly", []) d mc ms X (px_QF Post mc ms) 2 [(0, .ref 40), (1, .int a)] [] sh M L R n cu su) (sE (fun t => WX RX4 cX4_pullsOnly 5 (some .boolean) ("pullsOnly", []) d mc ms X (px_QF Post mc ms) 90 [] [] sh M L R n cu su) (fun t => WX RX4 cX4_pullsOnly 5 (some .boolean) ("pullsOnly", []) d mc ms X (px_QF Post mc ms) 98 [] [] sh M L R n cu su))) e) : WX RX4 cX4_pullsOnly 5 (some .boolean) ("pullsOnly", []) d mc ms X (px_QF Post mc ms) 61 [(0, .ref 40), (1, .int x1)] [.int z0] sh M L R n cu su := by
  unfold f_X4_pullsOnly_61 at h
  refine wx_aload_n dX4_pullsOnly_61 rfl ?_
  refine wx_getL dX4_pullsOnly_62 fl_X4_112 (sc_40 hS) rfl ?_
  refine wx_lconst (v := 0) dX4_pullsOnly_65 (by decide) ?_
  refine wx_lcmp dX4_pullsOnly_66 ?_
  refine wx_if_le (tgt := 74) dX4_pullsOnly_67 (by decide) (fun c_67 => ?_) (fun c_67 => ?_)
  · replace h := it_t h c_67
    refine wx_iconst (v := 0) dX4_pullsOnly_74 (by decide) ?_
    exact wx_sub (s_X4_pullsOnly_75 hS hd hcu hsu h g) (px_s rfl (px_s rfl px_0))
  · replace h := it_f h c_67
    refine wx_iconst (v := 1) dX4_pullsOnly_70 (by decide) ?_
    refine wx_goto (tgt := 75) dX4_pullsOnly_71 (by decide) ?_
    exact wx_sub (s_X4_pullsOnly_75 hS hd hcu hsu h g) (px_s rfl (px_s rfl px_0))
noncomputable def f_X4_pullsOnly_2 (sh : px_Sh) (M : px_M) (L : px_L) (R : px_R) (x1 : Int32) : Option ((Int32) ⊕ ((Unit) ⊕ (Unit))) :=
  if (M 40 16) ≤ x1 then
    some (.inr (.inr ()))
  else
    ok (ix x1 12) <|
    bd1 (R 48 x1.toNatClampNeg) fun b_15 =>
    nm (M 40 17) fun v_20 =>
    ok (xk sh b_15 14 v_20) <|
    nm (L b_15 v_20.toNatClampNeg) fun v_21 =>
    if x1 < (M 40 17) then
      if (lg_cmp v_21 0) = 0 then
        f_X4_pullsOnly_78 sh M L R x1
      else
        if (lg_cmp v_21 0) ≤ 0 then
          f_X4_pullsOnly_61 sh M L R x1 0
        else
          f_X4_pullsOnly_61 sh M L R x1 1
    else
      if (lg_cmp v_21 0) = 0 then
        f_X4_pullsOnly_83 sh M L R x1 1
      else
        f_X4_pullsOnly_83 sh M L R x1 0
theorem s_X4_pullsOnly_2b {x1 : Int32} {M : px_M} {L : px_L} {R : px_R} {e : ((Int32) ⊕ ((Unit) ⊕ (Unit)))} (hS : SR sh R) (hd : 0 ≤ d) (hcu : cu ≤ mc) (hsu : su ≤ ms) (h : f_X4_pullsOnly_2 sh M L R x1 = some e) (g : (sE (fun a => WX RX4 cX4_pullsOnly 5 (some .boolean) ("pullsOnly", []) d mc ms X (px_QF Post mc ms) 2 [(0, .ref 40), (1, .int a)] [] sh M L R n cu su) (sE (fun t => WX RX4 cX4_pullsOnly 5 (some .boolean) ("pullsOnly", []) d mc ms X (px_QF Post mc ms) 90 [] [] sh M L R n cu su) (fun t => WX RX4 cX4_pullsOnly 5 (some .boolean) ("pullsOnly", []) d mc ms X (px_QF Post mc ms) 98 [] [] sh M L R n cu su))) e) : WX RX4 cX4_pullsOnly 5 (some .boolean) ("pullsOnly", []) d mc ms X (px_QF Post mc ms) 2 [(0, .ref 40), (1, .int x1)] [] sh M L R n cu su := by
  unfold f_X4_pullsOnly_2 at h
  refine wx_iload_n dX4_pullsOnly_2 rfl ?_
  refine wx_aload_n dX4_pullsOnly_3 rfl ?_
  refine wx_getI dX4_pullsOnly_4 fl_X4_92 (sc_40 hS) rfl ?_
  refine wx_icmp_ge (tgt := 98) dX4_pullsOnly_7 (by decide) (fun c_7 => ?_) (fun c_7 => ?_)
  · replace h := it_t h c_7
    obtain rfl := Option.some.inj h
    replace g := sE_r (sE_r g)
    exact wx_sub g px_0
  · replace h := it_f h c_7
    refine wx_aload_n dX4_pullsOnly_10 rfl ?_
    refine wx_getR dX4_pullsOnly_11 fl_X4_36 (sc_40 hS) rfl (rr_40_15 hS) ?_
    refine wx_iload_n dX4_pullsOnly_14 rfl ?_
    obtain ⟨w_15, h⟩ := ok_some h
    obtain ⟨b_15, wr_15, h⟩ := bd1_some h
    refine wx_aald dX4_pullsOnly_15 (sc_48 hS) (by decide) (by decide) (ix_in w_15) wr_15 ?_
    refine wx_aload_n dX4_pullsOnly_16 rfl ?_
    refine wx_getI dX4_pullsOnly_17 fl_X4_101 (sc_40 hS) rfl ?_
    refine wx_nami (fun v_20 q_20 => ?_)
    replace h := nm_at h q_20
    obtain ⟨w_20, h⟩ := ok_some h
    obtain ⟨ln_20, wt_20, wi_20⟩ := xk_some w_20
    refine wx_lald dX4_pullsOnly_20 wt_20 wi_20 ?_
    refine wx_naml (fun v_21 q_21 => ?_)
    replace h := nm_at h q_21
    refine wx_lstore_n (lv' := [(2, _), (0, _), (1, _)]) dX4_pullsOnly_21 (by decide) rfl ?_
    refine wx_iload_n dX4_pullsOnly_22 rfl ?_
    refine wx_aload_n dX4_pullsOnly_23 rfl ?_
    refine wx_getI dX4_pullsOnly_24 fl_X4_101 (sc_40 hS) rfl ?_
    refine wx_icmp_lt (tgt := 44) dX4_pullsOnly_27 (by decide) (fun c_27 => ?_) (fun c_27 => ?_)
    · replace h := it_t h c_27
      refine wx_lload_n dX4_pullsOnly_44 rfl ?_
      refine wx_lconst (v := 0) dX4_pullsOnly_45 (by decide) ?_
      refine wx_lcmp dX4_pullsOnly_46 ?_
      refine wx_if_eq (tgt := 78) dX4_pullsOnly_47 (by decide) (fun c_47 => ?_) (fun c_47 => ?_)
      · replace h := it_t h c_47
        exact wx_sub (s_X4_pullsOnly_78 hS hd hcu hsu h g) (px_s rfl (px_s rfl px_0))
      · replace h := it_f h c_47
        refine wx_lload_n dX4_pullsOnly_50 rfl ?_
        refine wx_lconst (v := 0) dX4_pullsOnly_51 (by decide) ?_
        refine wx_lcmp dX4_pullsOnly_52 ?_
        refine wx_if_le (tgt := 60) dX4_pullsOnly_53 (by decide) (fun c_53 => ?_) (fun c_53 => ?_)
        · replace h := it_t h c_53
          refine wx_iconst (v := 0) dX4_pullsOnly_60 (by decide) ?_
          exact wx_sub (s_X4_pullsOnly_61 hS hd hcu hsu h g) (px_s rfl (px_s rfl px_0))
        · replace h := it_f h c_53
          refine wx_iconst (v := 1) dX4_pullsOnly_56 (by decide) ?_
          refine wx_goto (tgt := 61) dX4_pullsOnly_57 (by decide) ?_
          exact wx_sub (s_X4_pullsOnly_61 hS hd hcu hsu h g) (px_s rfl (px_s rfl px_0))
    · replace h := it_f h c_27
      refine wx_lload_n dX4_pullsOnly_30 rfl ?_
      refine wx_lconst (v := 0) dX4_pullsOnly_31 (by decide) ?_
      refine wx_lcmp dX4_pullsOnly_32 ?_
      refine wx_if_ne (tgt := 40) dX4_pullsOnly_33 (by decide) (fun c_33 => ?_) (fun c_33 => ?_)
      · replace h := it_f h c_33
        refine wx_iconst (v := 0) dX4_pullsOnly_40 (by decide) ?_
        refine wx_goto (tgt := 83) dX4_pullsOnly_41 (by decide) ?_
        exact wx_sub (s_X4_pullsOnly_83 hS hd hcu hsu h g) (px_s rfl (px_s rfl px_0))
      · replace h := it_t h c_33
        refine wx_iconst (v := 1) dX4_pullsOnly_36 (by decide) ?_
        refine wx_goto (tgt := 83) dX4_pullsOnly_37 (by decide) ?_
        exact wx_sub (s_X4_pullsOnly_83 hS hd hcu hsu h g) (px_s rfl (px_s rfl px_0))
theorem s_X4_pullsOnly_2 {x1 : Int32} {M : px_M} {L : px_L} {R : px_R} {e : ((Unit) ⊕ (Unit))} (hS : SR sh R) (hd : 0 ≤ d) (hcu : cu ≤ mc) (hsu : su ≤ ms) (h : lpf (fun a : Int32 => f_X4_pullsOnly_2 sh M L R a) x1 = some e) (g : (sE (fun t => WX RX4 cX4_pullsOnly 5 (some .boolean) ("pullsOnly", []) d mc ms X (px_QF Post mc ms) 90 [] [] sh M L R n cu su) (fun t => WX RX4 cX4_pullsOnly 5 (some .boolean) ("pullsOnly", []) d mc ms X (px_QF Post mc ms) 98 [] [] sh M L R n cu su)) e) : WX RX4 cX4_pullsOnly 5 (some .boolean) ("pullsOnly", []) d mc ms X (px_QF Post mc ms) 2 [(0, .ref 40), (1, .int x1)] [] sh M L R n cu su := by
  have key := lpf_wp (P := (fun a => WX RX4 cX4_pullsOnly 5 (some .boolean) ("pullsOnly", []) d mc ms X (px_QF Post mc ms) 2 [(0, .ref 40), (1, .int a)] [] sh M L R n cu su)) (G := (sE (fun t => WX RX4 cX4_pullsOnly 5 (some .boolean) ("pullsOnly", []) d mc ms X (px_QF Post mc ms) 90 [] [] sh M L R n cu su) (fun t => WX RX4 cX4_pullsOnly 5 (some .boolean) ("pullsOnly", []) d mc ms X (px_QF Post mc ms) 98 [] [] sh M L R n cu su))) (fun a r h g => s_X4_pullsOnly_2b (x1 := a) (M := M) (L := L) (R := R) hS hd hcu hsu h g) (a := x1) h g
  exact key
noncomputable def f_X4_pullsOnly (sh : px_Sh) (M : px_M) (L : px_L) (R : px_R) : Option (Int32) :=
  bdS (lpf (fun a : Int32 => f_X4_pullsOnly_2 sh M L R a) 0) (fun t_2_0 =>
  some 0) (fun u_2_0 =>
  some 1)
theorem s_X4_pullsOnly {d : Nat} {X : Nat × (Nat → Int32)} {sh : px_Sh} {M : px_M} {L : px_L} {R : px_R} {n : Nat} {e : Int32} (hS : SR sh R) (hd : 0 ≤ d) (h : f_X4_pullsOnly sh M L R = some e) : MX yX4_pullsOnly cX4_pullsOnly 5 (some .boolean) d 0 0 X [.ref 40] sh M L R n (px_pu (some (.int e)) sh M L R n) := by
  refine MX.of (by decide +kernel) (by exact Nat.le_of_ble_eq_true rfl) ?_
  have hcu : 0 ≤ 0 := Nat.zero_le _
  have hsu : 0 ≤ 0 := Nat.zero_le _
  have g : px_pu (some (.int e)) sh M L R n (some (.int e)) sh M L R n := ⟨rfl, rfl, rfl, rfl, rfl, rfl⟩
  unfold f_X4_pullsOnly at h
  refine wx_iconst (v := 0) dX4_pullsOnly_0 (by decide) ?_
  refine wx_istore_n (lv' := [(1, _), (0, _)]) dX4_pullsOnly_1 (by decide) rfl ?_
  rcases bdS_some h with ⟨t_2_0, k_2_0, h⟩ | ⟨u_2_0, k_2_0, h⟩
  · refine wx_sub (s_X4_pullsOnly_2 hS hd hcu hsu k_2_0 (sE_li ?_)) (px_s rfl (px_s rfl px_0))
    refine wx_iconst (v := 0) dX4_pullsOnly_90 (by decide) ?_
    refine wx_zret dX4_pullsOnly_91 rfl hcu hsu ?_
    obtain rfl := Option.some.inj h
    exact g
  · refine wx_sub (s_X4_pullsOnly_2 hS hd hcu hsu k_2_0 (sE_ri ?_)) (px_s rfl (px_s rfl px_0))
    refine wx_iconst (v := 1) dX4_pullsOnly_98 (by decide) ?_
    refine wx_zret dX4_pullsOnly_99 rfl hcu hsu ?_
    obtain rfl := Option.some.inj h
    exact g
noncomputable def f_X4_balances_25 (sh : px_Sh) (M : px_M) (L : px_L) (R : px_R) (z0 : Int32) : Option (Int32 × px_M × px_L × px_R) :=
  ok (zb z0) <|
  some (z0, M, L, R)
theorem s_X4_balances_25 {z0 : Int32} {M : px_M} {L : px_L} {R : px_R} {e : (Int32 × px_M × px_L × px_R)} (hS : SR sh R) (hd : 3 ≤ d) (hcu : cu ≤ mc) (hsu : su ≤ ms) (h : f_X4_balances_25 sh M L R z0 = some e) (g : SR sh (e.2.2.2) → Post (some (.int (e.1))) sh (e.2.1) (e.2.2.1) (e.2.2.2) n) : WX RX4 cX4_balances 3 (some .boolean) ("balances", []) d mc ms X (px_QF Post mc ms) 25 [] [.int z0] sh M L R n cu su := by
  unfold f_X4_balances_25 at h
  obtain ⟨w_25, h⟩ := ok_some h
  refine wx_zret dX4_balances_25 (zb_n w_25) hcu hsu ?_
  obtain rfl := Option.some.inj h
  exact g hS
noncomputable def f_X4_balances_24 (sh : px_Sh) (M : px_M) (L : px_L) (R : px_R) : Option (Int32 × px_M × px_L × px_R) :=
  f_X4_balances_25 sh M L R 0
theorem s_X4_balances_24 {M : px_M} {L : px_L} {R : px_R} {e : (Int32 × px_M × px_L × px_R)} (hS : SR sh R) (hd : 3 ≤ d) (hcu : cu ≤ mc) (hsu : su ≤ ms) (h : f_X4_balances_24 sh M L R = some e) (g : SR sh (e.2.2.2) → Post (some (.int (e.1))) sh (e.2.1) (e.2.2.1) (e.2.2.2) n) : WX RX4 cX4_balances 3 (some .boolean) ("balances", []) d mc ms X (px_QF Post mc ms) 24 [] [] sh M L R n cu su := by
  unfold f_X4_balances_24 at h
  refine wx_iconst (v := 0) dX4_balances_24 (by decide) ?_
  exact wx_sub (s_X4_balances_25 hS hd hcu hsu h g) px_0
noncomputable def f_X4_balances (sh : px_Sh) (M : px_M) (L : px_L) (R : px_R) (p1 : Int32) (p2 : Int32) : Option (Int32 × px_M × px_L × px_R) :=
  bd1 (f_X4_fillTable sh M L R p1 p2) fun e_3 =>
  bd1 (f_X4_eliminate sh e_3.1 e_3.2 R) fun e_7 =>
  if e_7.1 = 0 then
    f_X4_balances_24 sh e_3.1 e_7.2.1 e_7.2.2
  else
    bd1 (f_X4_pullsOnly sh e_3.1 e_7.2.1 e_7.2.2) fun e_14 =>
    if e_14 = 0 then
      f_X4_balances_24 sh e_3.1 e_7.2.1 e_7.2.2
    else
      f_X4_balances_25 sh e_3.1 e_7.2.1 e_7.2.2 1
theorem s_X4_balances {d : Nat} {X : Nat × (Nat → Int32)} {sh : px_Sh} {M : px_M} {L : px_L} {R : px_R} {n : Nat} {p1 : Int32} {p2 : Int32} {e : Int32 × px_M × px_L × px_R} (hS : SR sh R) (hd : 3 ≤ d) (h : f_X4_balances sh M L R p1 p2 = some e) : MX yX4_balances cX4_balances 3 (some .boolean) d 0 0 X [.ref 40, .int p1, .int p2] sh M L R n (px_ps (some (.int e.1)) sh e.2.1 e.2.2.1 e.2.2.2 n) := by
  refine MX.of (by decide +kernel) (by exact Nat.le_of_ble_eq_true rfl) ?_
  have hcu : 0 ≤ 0 := Nat.zero_le _
  have hsu : 0 ≤ 0 := Nat.zero_le _
  have g : SR sh e.2.2.2 → px_ps (some (.int e.1)) sh e.2.1 e.2.2.1 e.2.2.2 n (some (.int e.1)) sh e.2.1 e.2.2.1 e.2.2.2 n := fun q => ⟨⟨rfl, rfl, rfl, rfl, rfl, rfl⟩, q⟩
  unfold f_X4_balances at h
  refine wx_aload_n dX4_balances_0 rfl ?_
  refine wx_iload_n dX4_balances_1 rfl ?_
  refine wx_iload_n dX4_balances_2 rfl ?_
  obtain ⟨e_3, k_3, h⟩ := bd1_some h
  refine wx_cVv dX4_balances_3 ml_X4_81 my_X4_fillTable iv_X4_fillTable (sc_40 hS) (by decide) (s_X4_fillTable (d := d - 1) hS (by omega) k_3) rfl (by omega) (by exact Nat.le_of_ble_eq_true rfl) hcu hsu ?_
  refine wx_aload_n dX4_balances_6 rfl ?_
  obtain ⟨e_7, k_7, h⟩ := bd1_some h
  refine wx_cViS dX4_balances_7 ml_X4_85 my_X4_eliminate iv_X4_eliminate (sc_40 hS) (by decide) (s_X4_eliminate (d := d - 1) hS (by omega) k_7) rfl (by omega) (by exact Nat.le_of_ble_eq_true rfl) hcu hsu (fun hS => ?_)
  refine wx_if_eq (tgt := 24) dX4_balances_10 (by decide) (fun c_10 => ?_) (fun c_10 => ?_)
  · replace h := it_t h c_10
    exact wx_sub (s_X4_balances_24 hS hd hcu hsu h g) px_0
  · replace h := it_f h c_10
    refine wx_aload_n dX4_balances_13 rfl ?_
    obtain ⟨e_14, k_14, h⟩ := bd1_some h
    refine wx_cVi dX4_balances_14 ml_X4_89 my_X4_pullsOnly iv_X4_pullsOnly (sc_40 hS) (by decide) (s_X4_pullsOnly (d := d - 1) hS (by omega) k_14) rfl (by omega) (by exact Nat.le_of_ble_eq_true rfl) hcu hsu ?_
    refine wx_if_eq (tgt := 24) dX4_balances_17 (by decide) (fun c_17 => ?_) (fun c_17 => ?_)
    · replace h := it_t h c_17
      exact wx_sub (s_X4_balances_24 hS hd hcu hsu h g) px_0
    · replace h := it_f h c_17
      refine wx_iconst (v := 1) dX4_balances_20 (by decide) ?_
      refine wx_goto (tgt := 25) dX4_balances_21 (by decide) ?_
      exact wx_sub (s_X4_balances_25 hS hd hcu hsu h g) px_0
noncomputable def f_X4_takeStand_75 (sh : px_Sh) (M : px_M) (L : px_L) (R : px_R) (x1 : Int32) (y2 : Int64) (x4 : Int32) (x5 : Int32) (x6 : Int32) : Option ((Int64 × Int32 × Int32 × Int32) ⊕ (Int64 × Int32)) :=
  some (.inl (y2, x4, x5, (x6 + 1)))
theorem s_X4_takeStand_75 {x1 : Int32} {y2 : Int64} {x4 : Int32} {x5 : Int32} {x6 : Int32} {M : px_M} {L : px_L} {R : px_R} {e : ((Int64 × Int32 × Int32 × Int32) ⊕ (Int64 × Int32))} (hS : SR sh R) (hd : 1 ≤ d) (hcu : cu ≤ mc) (hsu : su ≤ ms) (h : f_X4_takeStand_75 sh M L R x1 y2 x4 x5 x6 = some e) (g : (sE (fun a => WX RX4 cX4_takeStand 9 none ("takeStand", []) d mc ms X (px_QF Post mc ms) 11 [(0, .ref 40), (1, .int x1), (2, .long a.1), (4, .int a.2.1), (5, .int a.2.2.1), (6, .int a.2.2.2)] [] sh M L R n cu su) (fun t => WX RX4 cX4_takeStand 9 none ("takeStand", []) d mc ms X (px_QF Post mc ms) 81 [(0, .ref 40), (2, .long t.1), (5, .int t.2)] [] sh M L R n cu su)) e) : WX RX4 cX4_takeStand 9 none ("takeStand", []) d mc ms X (px_QF Post mc ms) 75 [(0, .ref 40), (1, .int x1), (2, .long y2), (4, .int x4), (5, .int x5), (6, .int x6)] [] sh M L R n cu su := by
  unfold f_X4_takeStand_75 at h
  refine wx_iinc (lv' := [(6, _), (0, _), (1, _), (2, _), (4, _), (5, _)]) dX4_takeStand_75 rfl (i_1 _) (by decide) rfl ?_
  refine wx_goto (tgt := 11) dX4_takeStand_78 (by decide) ?_
  obtain rfl := Option.some.inj h
  replace g := sE_l g
  exact wx_sub g (px_s rfl (px_s rfl (px_s rfl (px_s rfl (px_s rfl (px_s rfl px_0))))))
noncomputable def f_X4_takeStand_69 (sh : px_Sh) (M : px_M) (L : px_L) (R : px_R) (x1 : Int32) (y2 : Int64) (x4 : Int32) (x6 : Int32) (z0 : Int32) (z1 : Int32) : Option ((Int64 × Int32 × Int32 × Int32) ⊕ (Int64 × Int32)) :=
  nm (z1 ||| z0) fun v_70 =>
  f_X4_takeStand_75 sh M L R x1 y2 (x4 + 1) v_70 x6
theorem s_X4_takeStand_69 {x1 : Int32} {y2 : Int64} {x4 : Int32} {x6 : Int32} {z0 : Int32} {z1 : Int32} {M : px_M} {L : px_L} {R : px_R} {e : ((Int64 × Int32 × Int32 × Int32) ⊕ (Int64 × Int32))} (hS : SR sh R) (hd : 1 ≤ d) (hcu : cu ≤ mc) (hsu : su ≤ ms) (h : f_X4_takeStand_69 sh M L R x1 y2 x4 x6 z0 z1 = some e) (g : (sE (fun a => WX RX4 cX4_takeStand 9 none ("takeStand", []) d mc ms X (px_QF Post mc ms) 11 [(0, .ref 40), (1, .int x1), (2, .long a.1), (4, .int a.2.1), (5, .int a.2.2.1), (6, .int a.2.2.2)] [] sh M L R n cu su) (fun t => WX RX4 cX4_takeStand 9 none ("takeStand", []) d mc ms X (px_QF Post mc ms) 81 [(0, .ref 40), (2, .long t.1), (5, .int t.2)] [] sh M L R n cu su)) e) : WX RX4 cX4_takeStand 9 none ("takeStand", []) d mc ms X (px_QF Post mc ms) 69 [(0, .ref 40), (1, .int x1), (2, .long y2), (4, .int x4), (6, .int x6)] [.int z0, .int z1] sh M L R n cu su := by
  unfold f_X4_takeStand_69 at h
  refine wx_ior dX4_takeStand_69 ?_
  refine wx_nami (fun v_70 q_70 => ?_)
  replace h := nm_at h q_70
  refine wx_istore (lv' := [(5, _), (0, _), (1, _), (2, _), (4, _), (6, _)]) dX4_takeStand_70 (by decide) rfl ?_
  refine wx_iinc (lv' := [(4, _), (5, _), (0, _), (1, _), (2, _), (6, _)]) dX4_takeStand_72 rfl (i_1 _) (by decide) rfl ?_
  exact wx_sub (s_X4_takeStand_75 hS hd hcu hsu h g) (px_s rfl (px_s rfl (px_s rfl (px_s rfl (px_s rfl (px_s rfl px_0))))))
noncomputable def f_X4_takeStand_11 (sh : px_Sh) (M : px_M) (L : px_L) (R : px_R) (x1 : Int32) (y2 : Int64) (x4 : Int32) (x5 : Int32) (x6 : Int32) : Option ((Int64 × Int32 × Int32 × Int32) ⊕ (Int64 × Int32)) :=
  if (M 40 8) ≤ x6 then
    some (.inr (y2, x5))
  else
    if ((x1 >>> (x6 &&& 31)) &&& 1) = 1 then
      ok (ix x4 12) <|
      bd1 (R 48 x4.toNatClampNeg) fun b_36 =>
      nm (M 40 17) fun v_41 =>
      ok (xk sh b_36 14 v_41) <|
      bd1 (f_J9_abs_067f4 (L b_36 v_41.toNatClampNeg)) fun e_42 =>
      nm (y2 + e_42) fun v_51 =>
      if (lg_cmp e_42 0) ≤ 0 then
        f_X4_takeStand_69 sh M L R x1 v_51 x4 x6 0 x5
      else
        f_X4_takeStand_69 sh M L R x1 v_51 x4 x6 (1 <<< (x6 &&& 31)) x5
    else
      f_X4_takeStand_75 sh M L R x1 y2 x4 x5 x6
theorem s_X4_takeStand_11b {x1 : Int32} {y2 : Int64} {x4 : Int32} {x5 : Int32} {x6 : Int32} {M : px_M} {L : px_L} {R : px_R} {e : ((Int64 × Int32 × Int32 × Int32) ⊕ (Int64 × Int32))} (hS : SR sh R) (hd : 1 ≤ d) (hcu : cu ≤ mc) (hsu : su ≤ ms) (h : f_X4_takeStand_11 sh M L R x1 y2 x4 x5 x6 = some e) (g : (sE (fun a => WX RX4 cX4_takeStand 9 none ("takeStand", []) d mc ms X (px_QF Post mc ms) 11 [(0, .ref 40), (1, .int x1), (2, .long a.1), (4, .int a.2.1), (5, .int a.2.2.1), (6, .int a.2.2.2)] [] sh M L R n cu su) (fun t => WX RX4 cX4_takeStand 9 none ("takeStand", []) d mc ms X (px_QF Post mc ms) 81 [(0, .ref 40), (2, .long t.1), (5, .int t.2)] [] sh M L R n cu su)) e) : WX RX4 cX4_takeStand 9 none ("takeStand", []) d mc ms X (px_QF Post mc ms) 11 [(0, .ref 40), (1, .int x1), (2, .long y2), (4, .int x4), (5, .int x5), (6, .int x6)] [] sh M L R n cu su := by
  unfold f_X4_takeStand_11 at h
  refine wx_iload dX4_takeStand_11 rfl ?_
  refine wx_aload_n dX4_takeStand_13 rfl ?_
  refine wx_getI dX4_takeStand_14 fl_X4_47 (sc_40 hS) rfl ?_
  refine wx_icmp_ge (tgt := 81) dX4_takeStand_17 (by decide) (fun c_17 => ?_) (fun c_17 => ?_)
  · replace h := it_t h c_17
    obtain rfl := Option.some.inj h
    replace g := sE_r g
    exact wx_sub g (px_s rfl (px_s rfl (px_s rfl px_0)))
  · replace h := it_f h c_17
    refine wx_iload_n dX4_takeStand_20 rfl ?_
    refine wx_iload dX4_takeStand_21 rfl ?_
    refine wx_ishr dX4_takeStand_23 ?_
    refine wx_iconst (v := 1) dX4_takeStand_24 (by decide) ?_
    refine wx_iand dX4_takeStand_25 ?_
    refine wx_iconst (v := 1) dX4_takeStand_26 (by decide) ?_
    refine wx_icmp_ne (tgt := 75) dX4_takeStand_27 (by decide) (fun c_27 => ?_) (fun c_27 => ?_)
    · replace h := it_f h c_27
      exact wx_sub (s_X4_takeStand_75 hS hd hcu hsu h g) (px_s rfl (px_s rfl (px_s rfl (px_s rfl (px_s rfl (px_s rfl px_0))))))
    · replace h := it_t h c_27
      refine wx_aload_n dX4_takeStand_30 rfl ?_
      refine wx_getR dX4_takeStand_31 fl_X4_36 (sc_40 hS) rfl (rr_40_15 hS) ?_
      refine wx_iload dX4_takeStand_34 rfl ?_
      obtain ⟨w_36, h⟩ := ok_some h
      obtain ⟨b_36, wr_36, h⟩ := bd1_some h
      refine wx_aald dX4_takeStand_36 (sc_48 hS) (by decide) (by decide) (ix_in w_36) wr_36 ?_
      refine wx_aload_n dX4_takeStand_37 rfl ?_
      refine wx_getI dX4_takeStand_38 fl_X4_101 (sc_40 hS) rfl ?_
      refine wx_nami (fun v_41 q_41 => ?_)
      replace h := nm_at h q_41
      obtain ⟨w_41, h⟩ := ok_some h
      obtain ⟨ln_41, wt_41, wi_41⟩ := xk_some w_41
      refine wx_lald dX4_takeStand_41 wt_41 wi_41 ?_
      obtain ⟨e_42, k_42, h⟩ := bd1_some h
      refine wx_cSl dX4_takeStand_42 ml_X4_119 my_J9_abs_067f4 sv_J9_abs_067f4 (s_J9_abs_067f4 (d := d - 1) hS (by omega) k_42) rfl (by omega) (by exact Nat.le_of_ble_eq_true rfl) hcu hsu ?_
      refine wx_lstore (lv' := [(7, _), (0, _), (1, _), (2, _), (4, _), (5, _), (6, _)]) dX4_takeStand_45 (by decide) rfl ?_
      refine wx_lload_n dX4_takeStand_47 rfl ?_
      refine wx_lload dX4_takeStand_48 rfl ?_
      refine wx_ladd dX4_takeStand_50 ?_
      refine wx_naml (fun v_51 q_51 => ?_)
      replace h := nm_at h q_51
      refine wx_lstore_n (lv' := [(2, _), (7, _), (0, _), (1, _), (4, _), (5, _), (6, _)]) dX4_takeStand_51 (by decide) rfl ?_
      refine wx_iload dX4_takeStand_52 rfl ?_
      refine wx_lload dX4_takeStand_54 rfl ?_
      refine wx_lconst (v := 0) dX4_takeStand_56 (by decide) ?_
      refine wx_lcmp dX4_takeStand_57 ?_
      refine wx_if_le (tgt := 68) dX4_takeStand_58 (by decide) (fun c_58 => ?_) (fun c_58 => ?_)
      · replace h := it_t h c_58
        refine wx_iconst (v := 0) dX4_takeStand_68 (by decide) ?_
        exact wx_sub (s_X4_takeStand_69 hS hd hcu hsu h g) (px_s rfl (px_s rfl (px_s rfl (px_s rfl (px_s rfl px_0)))))
      · replace h := it_f h c_58
        refine wx_iconst (v := 1) dX4_takeStand_61 (by decide) ?_
        refine wx_iload dX4_takeStand_62 rfl ?_
        refine wx_ishl dX4_takeStand_64 ?_
        refine wx_goto (tgt := 69) dX4_takeStand_65 (by decide) ?_
        exact wx_sub (s_X4_takeStand_69 hS hd hcu hsu h g) (px_s rfl (px_s rfl (px_s rfl (px_s rfl (px_s rfl px_0)))))
theorem s_X4_takeStand_11 {x1 : Int32} {y2 : Int64} {x4 : Int32} {x5 : Int32} {x6 : Int32} {M : px_M} {L : px_L} {R : px_R} {e : (Int64 × Int32)} (hS : SR sh R) (hd : 1 ≤ d) (hcu : cu ≤ mc) (hsu : su ≤ ms) (h : lpf (fun a : Int64 × Int32 × Int32 × Int32 => f_X4_takeStand_11 sh M L R x1 a.1 a.2.1 a.2.2.1 a.2.2.2) (y2, x4, x5, x6) = some e) (g : WX RX4 cX4_takeStand 9 none ("takeStand", []) d mc ms X (px_QF Post mc ms) 81 [(0, .ref 40), (2, .long e.1), (5, .int e.2)] [] sh M L R n cu su) : WX RX4 cX4_takeStand 9 none ("takeStand", []) d mc ms X (px_QF Post mc ms) 11 [(0, .ref 40), (1, .int x1), (2, .long y2), (4, .int x4), (5, .int x5), (6, .int x6)] [] sh M L R n cu su := by
  have key := lpf_wp (P := (fun a => WX RX4 cX4_takeStand 9 none ("takeStand", []) d mc ms X (px_QF Post mc ms) 11 [(0, .ref 40), (1, .int x1), (2, .long a.1), (4, .int a.2.1), (5, .int a.2.2.1), (6, .int a.2.2.2)] [] sh M L R n cu su)) (G := (fun t => WX RX4 cX4_takeStand 9 none ("takeStand", []) d mc ms X (px_QF Post mc ms) 81 [(0, .ref 40), (2, .long t.1), (5, .int t.2)] [] sh M L R n cu su)) (fun a r h g => s_X4_takeStand_11b (x1 := x1) (y2 := a.1) (x4 := a.2.1) (x5 := a.2.2.1) (x6 := a.2.2.2) (M := M) (L := L) (R := R) hS hd hcu hsu h g) (a := (y2, x4, x5, x6)) h g
  exact key
noncomputable def f_X4_takeStand_149 (sh : px_Sh) (M : px_M) (L : px_L) (R : px_R) : Option (px_M × px_L) :=
  nm (px_u M 40 10 1) fun M_151 =>
  some (M_151, L)
theorem s_X4_takeStand_149 {M : px_M} {L : px_L} {R : px_R} {e : (px_M × px_L)} (hS : SR sh R) (hd : 1 ≤ d) (hcu : cu ≤ mc) (hsu : su ≤ ms) (h : f_X4_takeStand_149 sh M L R = some e) (g : Post none sh (e.1) (e.2) R n) : WX RX4 cX4_takeStand 9 none ("takeStand", []) d mc ms X (px_QF Post mc ms) 149 [(0, .ref 40)] [] sh M L R n cu su := by
  unfold f_X4_takeStand_149 at h
  refine wx_aload_n dX4_takeStand_149 rfl ?_
  refine wx_iconst (v := 1) dX4_takeStand_150 (by decide) ?_
  refine wx_putI dX4_takeStand_151 fl_X4_58 (sc_40 hS) (Or.inl rfl) rfl ⟨rfl, rfl⟩ ?_
  refine wx_namM (fun M_151 q_151 => ?_)
  replace h := nm_at h q_151
  refine wx_vret dX4_takeStand_154 hcu hsu ?_
  obtain rfl := Option.some.inj h
  exact g
noncomputable def f_X4_takeStand_138 (sh : px_Sh) (M : px_M) (L : px_L) (R : px_R) (y2 : Int64) (y6 : Int64) : Option (px_M × px_L) :=
  nm (px_u L 40 13 y2) fun L_140 =>
  nm (px_u L_140 40 14 y6) fun L_146 =>
  f_X4_takeStand_149 sh M L_146 R
theorem s_X4_takeStand_138 {y2 : Int64} {y6 : Int64} {M : px_M} {L : px_L} {R : px_R} {e : (px_M × px_L)} (hS : SR sh R) (hd : 1 ≤ d) (hcu : cu ≤ mc) (hsu : su ≤ ms) (h : f_X4_takeStand_138 sh M L R y2 y6 = some e) (g : Post none sh (e.1) (e.2) R n) : WX RX4 cX4_takeStand 9 none ("takeStand", []) d mc ms X (px_QF Post mc ms) 138 [(0, .ref 40), (2, .long y2), (6, .long y6)] [] sh M L R n cu su := by
  unfold f_X4_takeStand_138 at h
  refine wx_aload_n dX4_takeStand_138 rfl ?_
  refine wx_lload_n dX4_takeStand_139 rfl ?_
  refine wx_putL dX4_takeStand_140 fl_X4_128 (sc_40 hS) (Or.inl rfl) rfl ⟨rfl, rfl⟩ ?_
  refine wx_namL (fun L_140 q_140 => ?_)
  replace h := nm_at h q_140
  refine wx_aload_n dX4_takeStand_143 rfl ?_
  refine wx_lload dX4_takeStand_144 rfl ?_
  refine wx_putL dX4_takeStand_146 fl_X4_125 (sc_40 hS) (Or.inl rfl) rfl ⟨rfl, rfl⟩ ?_
  refine wx_namL (fun L_146 q_146 => ?_)
  replace h := nm_at h q_146
  exact wx_sub (s_X4_takeStand_149 hS hd hcu hsu h g) (px_s rfl px_0)
noncomputable def f_X4_takeStand (sh : px_Sh) (M : px_M) (L : px_L) (R : px_R) (p1 : Int32) : Option (px_M × px_L) :=
  bd1 (lpf (fun a : Int64 × Int32 × Int32 × Int32 => f_X4_takeStand_11 sh M L R p1 a.1 a.2.1 a.2.2.1 a.2.2.2) (0, 0, 0, 0)) fun e_11 =>
  nm ((M 40 12) ||| e_11.2) fun v_89 =>
  nm (px_u M 40 12 v_89) fun M_89 =>
  nm ((M_89 40 11) ||| (e_11.2 ^^^ (-1))) fun v_102 =>
  nm (px_u M_89 40 11 v_102) fun M_102 =>
  bd1 (f_J9_abs_067f4 (L 40 18)) fun e_109 =>
  if (M_102 40 10) = 0 then
    f_X4_takeStand_138 sh M_102 L R e_11.1 e_109
  else
    if 0 ≤ (lg_cmp (e_11.1 * (L 40 14)) ((L 40 13) * e_109)) then
      f_X4_takeStand_149 sh M_102 L R
    else
      f_X4_takeStand_138 sh M_102 L R e_11.1 e_109
theorem s_X4_takeStand {d : Nat} {X : Nat × (Nat → Int32)} {sh : px_Sh} {M : px_M} {L : px_L} {R : px_R} {n : Nat} {p1 : Int32} {e : px_M × px_L} (hS : SR sh R) (hd : 1 ≤ d) (h : f_X4_takeStand sh M L R p1 = some e) : MX yX4_takeStand cX4_takeStand 9 none d 0 0 X [.ref 40, .int p1] sh M L R n (px_pu none sh e.1 e.2 R n) := by
  refine MX.of (by decide +kernel) (by exact Nat.le_of_ble_eq_true rfl) ?_
  have hcu : 0 ≤ 0 := Nat.zero_le _
  have hsu : 0 ≤ 0 := Nat.zero_le _
  have g : px_pu none sh e.1 e.2 R n none sh e.1 e.2 R n := ⟨rfl, rfl, rfl, rfl, rfl, rfl⟩
  unfold f_X4_takeStand at h
  refine wx_lconst (v := 0) dX4_takeStand_0 (by decide) ?_
  refine wx_lstore_n (lv' := [(2, _), (0, _), (1, _)]) dX4_takeStand_1 (by decide) rfl ?_
  refine wx_iconst (v := 0) dX4_takeStand_2 (by decide) ?_
  refine wx_istore (lv' := [(4, _), (2, _), (0, _), (1, _)]) dX4_takeStand_3 (by decide) rfl ?_
  refine wx_iconst (v := 0) dX4_takeStand_5 (by decide) ?_
  refine wx_istore (lv' := [(5, _), (4, _), (2, _), (0, _), (1, _)]) dX4_takeStand_6 (by decide) rfl ?_
  refine wx_iconst (v := 0) dX4_takeStand_8 (by decide) ?_
  refine wx_istore (lv' := [(6, _), (5, _), (4, _), (2, _), (0, _), (1, _)]) dX4_takeStand_9 (by decide) rfl ?_
  obtain ⟨e_11, k_11, h⟩ := bd1_some h
  refine wx_sub (s_X4_takeStand_11 hS hd hcu hsu k_11 ?_) (px_s rfl (px_s rfl (px_s rfl (px_s rfl (px_s rfl (px_s rfl px_0))))))
  refine wx_aload_n dX4_takeStand_81 rfl ?_
  refine wx_dup dX4_takeStand_82 rfl ?_
  refine wx_getI dX4_takeStand_83 fl_X4_64 (sc_40 hS) rfl ?_
  refine wx_iload dX4_takeStand_86 rfl ?_
  refine wx_ior dX4_takeStand_88 ?_
  refine wx_nami (fun v_89 q_89 => ?_)
  replace h := nm_at h q_89
  refine wx_putI dX4_takeStand_89 fl_X4_64 (sc_40 hS) (Or.inl rfl) rfl ⟨rfl, rfl⟩ ?_
  refine wx_namM (fun M_89 q_89 => ?_)
  replace h := nm_at h q_89
  refine wx_aload_n dX4_takeStand_92 rfl ?_
  refine wx_dup dX4_takeStand_93 rfl ?_
  refine wx_getI dX4_takeStand_94 fl_X4_61 (sc_40 hS) rfl ?_
  refine wx_iload dX4_takeStand_97 rfl ?_
  refine wx_iconst (v := (-1)) dX4_takeStand_99 (by decide) ?_
  refine wx_ixor dX4_takeStand_100 ?_
  refine wx_ior dX4_takeStand_101 ?_
  refine wx_nami (fun v_102 q_102 => ?_)
  replace h := nm_at h q_102
  refine wx_putI dX4_takeStand_102 fl_X4_61 (sc_40 hS) (Or.inl rfl) rfl ⟨rfl, rfl⟩ ?_
  refine wx_namM (fun M_102 q_102 => ?_)
  replace h := nm_at h q_102
  refine wx_aload_n dX4_takeStand_105 rfl ?_
  refine wx_getL dX4_takeStand_106 fl_X4_112 (sc_40 hS) rfl ?_
  obtain ⟨e_109, k_109, h⟩ := bd1_some h
  refine wx_cSl dX4_takeStand_109 ml_X4_119 my_J9_abs_067f4 sv_J9_abs_067f4 (s_J9_abs_067f4 (d := d - 1) hS (by omega) k_109) rfl (by omega) (by exact Nat.le_of_ble_eq_true rfl) hcu hsu ?_
  refine wx_lstore (lv' := [(6, _), (0, _), (2, _), (5, _)]) dX4_takeStand_112 (by decide) rfl ?_
  refine wx_aload_n dX4_takeStand_114 rfl ?_
  refine wx_getI dX4_takeStand_115 fl_X4_58 (sc_40 hS) rfl ?_
  refine wx_if_eq (tgt := 138) dX4_takeStand_118 (by decide) (fun c_118 => ?_) (fun c_118 => ?_)
  · replace h := it_t h c_118
    exact wx_sub (s_X4_takeStand_138 hS hd hcu hsu h g) (px_s rfl (px_s rfl (px_s rfl px_0)))
  · replace h := it_f h c_118
    refine wx_lload_n dX4_takeStand_121 rfl ?_
    refine wx_aload_n dX4_takeStand_122 rfl ?_
    refine wx_getL dX4_takeStand_123 fl_X4_125 (sc_40 hS) rfl ?_
    refine wx_lmul dX4_takeStand_126 ?_
    refine wx_aload_n dX4_takeStand_127 rfl ?_
    refine wx_getL dX4_takeStand_128 fl_X4_128 (sc_40 hS) rfl ?_
    refine wx_lload dX4_takeStand_131 rfl ?_
    refine wx_lmul dX4_takeStand_133 ?_
    refine wx_lcmp dX4_takeStand_134 ?_
    refine wx_if_ge (tgt := 149) dX4_takeStand_135 (by decide) (fun c_135 => ?_) (fun c_135 => ?_)
    · replace h := it_t h c_135
      exact wx_sub (s_X4_takeStand_149 hS hd hcu hsu h g) (px_s rfl px_0)
    · replace h := it_f h c_135
      exact wx_sub (s_X4_takeStand_138 hS hd hcu hsu h g) (px_s rfl (px_s rfl (px_s rfl px_0)))
noncomputable def f_X4_canGrow_31 (sh : px_Sh) (M : px_M) (L : px_L) (R : px_R) (x1 : Int32) (x2 : Int32) : Option ((Int32 × px_M × px_L × px_R) ⊕ ((px_M × px_L × px_R) ⊕ (px_M × px_L × px_R))) :=
  some (.inl ((x2 + 1), M, L, R))
theorem s_X4_canGrow_31 {x1 : Int32} {x2 : Int32} {M : px_M} {L : px_L} {R : px_R} {e : ((Int32 × px_M × px_L × px_R) ⊕ ((px_M × px_L × px_R) ⊕ (px_M × px_L × px_R)))} (hS : SR sh R) (hd : 4 ≤ d) (hcu : cu ≤ mc) (hsu : su ≤ ms) (h : f_X4_canGrow_31 sh M L R x1 x2 = some e) (g : (sE (fun a => SR sh (a.2.2.2) → WX RX4 cX4_canGrow 3 (some .boolean) ("canGrow", []) d mc ms X (px_QF Post mc ms) 2 [(0, .ref 40), (1, .int x1), (2, .int a.1)] [] sh (a.2.1) (a.2.2.1) (a.2.2.2) n cu su) (sE (fun t => SR sh (t.2.2) → WX RX4 cX4_canGrow 3 (some .boolean) ("canGrow", []) d mc ms X (px_QF Post mc ms) 29 [] [] sh (t.1) (t.2.1) (t.2.2) n cu su) (fun t => SR sh (t.2.2) → WX RX4 cX4_canGrow 3 (some .boolean) ("canGrow", []) d mc ms X (px_QF Post mc ms) 37 [] [] sh (t.1) (t.2.1) (t.2.2) n cu su))) e) : WX RX4 cX4_canGrow 3 (some .boolean) ("canGrow", []) d mc ms X (px_QF Post mc ms) 31 [(0, .ref 40), (1, .int x1), (2, .int x2)] [] sh M L R n cu su := by
  unfold f_X4_canGrow_31 at h
  refine wx_iinc (lv' := [(2, _), (0, _), (1, _)]) dX4_canGrow_31 rfl (i_1 _) (by decide) rfl ?_
  refine wx_goto (tgt := 2) dX4_canGrow_34 (by decide) ?_
  obtain rfl := Option.some.inj h
  replace g := sE_l g
  exact wx_sub (g hS) (px_s rfl (px_s rfl (px_s rfl px_0)))
noncomputable def f_X4_canGrow_2 (sh : px_Sh) (M : px_M) (L : px_L) (R : px_R) (x1 : Int32) (x2 : Int32) : Option ((Int32 × px_M × px_L × px_R) ⊕ ((px_M × px_L × px_R) ⊕ (px_M × px_L × px_R))) :=
  if (1 <<< ((M 40 8) &&& 31)) ≤ x2 then
    some (.inr (.inr (M, L, R)))
  else
    if ((x2 >>> (x1 &&& 31)) &&& 1) = 0 then
      bd1 (f_X4_balances sh M L R x2 x1) fun e_23 =>
      if e_23.1 = 0 then
        f_X4_canGrow_31 sh e_23.2.1 e_23.2.2.1 e_23.2.2.2 x1 x2
      else
        some (.inr (.inl (e_23.2.1, e_23.2.2.1, e_23.2.2.2)))
    else
      f_X4_canGrow_31 sh M L R x1 x2
theorem s_X4_canGrow_2b {x1 : Int32} {x2 : Int32} {M : px_M} {L : px_L} {R : px_R} {e : ((Int32 × px_M × px_L × px_R) ⊕ ((px_M × px_L × px_R) ⊕ (px_M × px_L × px_R)))} (hS : SR sh R) (hd : 4 ≤ d) (hcu : cu ≤ mc) (hsu : su ≤ ms) (h : f_X4_canGrow_2 sh M L R x1 x2 = some e) (g : (sE (fun a => SR sh (a.2.2.2) → WX RX4 cX4_canGrow 3 (some .boolean) ("canGrow", []) d mc ms X (px_QF Post mc ms) 2 [(0, .ref 40), (1, .int x1), (2, .int a.1)] [] sh (a.2.1) (a.2.2.1) (a.2.2.2) n cu su) (sE (fun t => SR sh (t.2.2) → WX RX4 cX4_canGrow 3 (some .boolean) ("canGrow", []) d mc ms X (px_QF Post mc ms) 29 [] [] sh (t.1) (t.2.1) (t.2.2) n cu su) (fun t => SR sh (t.2.2) → WX RX4 cX4_canGrow 3 (some .boolean) ("canGrow", []) d mc ms X (px_QF Post mc ms) 37 [] [] sh (t.1) (t.2.1) (t.2.2) n cu su))) e) : WX RX4 cX4_canGrow 3 (some .boolean) ("canGrow", []) d mc ms X (px_QF Post mc ms) 2 [(0, .ref 40), (1, .int x1), (2, .int x2)] [] sh M L R n cu su := by
  unfold f_X4_canGrow_2 at h
  refine wx_iload_n dX4_canGrow_2 rfl ?_
  refine wx_iconst (v := 1) dX4_canGrow_3 (by decide) ?_
  refine wx_aload_n dX4_canGrow_4 rfl ?_
  refine wx_getI dX4_canGrow_5 fl_X4_47 (sc_40 hS) rfl ?_
  refine wx_ishl dX4_canGrow_8 ?_
  refine wx_icmp_ge (tgt := 37) dX4_canGrow_9 (by decide) (fun c_9 => ?_) (fun c_9 => ?_)
  · replace h := it_t h c_9
    obtain rfl := Option.some.inj h
    replace g := sE_r (sE_r g)
    exact wx_sub (g hS) px_0
  · replace h := it_f h c_9
    refine wx_iload_n dX4_canGrow_12 rfl ?_
    refine wx_iload_n dX4_canGrow_13 rfl ?_
    refine wx_ishr dX4_canGrow_14 ?_
    refine wx_iconst (v := 1) dX4_canGrow_15 (by decide) ?_
    refine wx_iand dX4_canGrow_16 ?_
    refine wx_if_ne (tgt := 31) dX4_canGrow_17 (by decide) (fun c_17 => ?_) (fun c_17 => ?_)
    · replace h := it_f h c_17
      exact wx_sub (s_X4_canGrow_31 hS hd hcu hsu h g) (px_s rfl (px_s rfl (px_s rfl px_0)))
    · replace h := it_t h c_17
      refine wx_aload_n dX4_canGrow_20 rfl ?_
      refine wx_iload_n dX4_canGrow_21 rfl ?_
      refine wx_iload_n dX4_canGrow_22 rfl ?_
      obtain ⟨e_23, k_23, h⟩ := bd1_some h
      refine wx_cViS dX4_canGrow_23 ml_X4_67 my_X4_balances iv_X4_balances (sc_40 hS) (by decide) (s_X4_balances (d := d - 1) hS (by omega) k_23) rfl (by omega) (by exact Nat.le_of_ble_eq_true rfl) hcu hsu (fun hS => ?_)
      refine wx_if_eq (tgt := 31) dX4_canGrow_26 (by decide) (fun c_26 => ?_) (fun c_26 => ?_)
      · replace h := it_t h c_26
        exact wx_sub (s_X4_canGrow_31 hS hd hcu hsu h g) (px_s rfl (px_s rfl (px_s rfl px_0)))
      · replace h := it_f h c_26
        obtain rfl := Option.some.inj h
        replace g := sE_l (sE_r g)
        exact wx_sub (g hS) px_0
theorem s_X4_canGrow_2 {x1 : Int32} {x2 : Int32} {M : px_M} {L : px_L} {R : px_R} {e : ((px_M × px_L × px_R) ⊕ (px_M × px_L × px_R))} (hS : SR sh R) (hd : 4 ≤ d) (hcu : cu ≤ mc) (hsu : su ≤ ms) (h : lpf (fun a : Int32 × px_M × px_L × px_R => f_X4_canGrow_2 sh a.2.1 a.2.2.1 a.2.2.2 x1 a.1) (x2, M, L, R) = some e) (g : (sE (fun t => SR sh (t.2.2) → WX RX4 cX4_canGrow 3 (some .boolean) ("canGrow", []) d mc ms X (px_QF Post mc ms) 29 [] [] sh (t.1) (t.2.1) (t.2.2) n cu su) (fun t => SR sh (t.2.2) → WX RX4 cX4_canGrow 3 (some .boolean) ("canGrow", []) d mc ms X (px_QF Post mc ms) 37 [] [] sh (t.1) (t.2.1) (t.2.2) n cu su)) e) : WX RX4 cX4_canGrow 3 (some .boolean) ("canGrow", []) d mc ms X (px_QF Post mc ms) 2 [(0, .ref 40), (1, .int x1), (2, .int x2)] [] sh M L R n cu su := by
  have key := lpf_wp (P := (fun a => SR sh (a.2.2.2) → WX RX4 cX4_canGrow 3 (some .boolean) ("canGrow", []) d mc ms X (px_QF Post mc ms) 2 [(0, .ref 40), (1, .int x1), (2, .int a.1)] [] sh (a.2.1) (a.2.2.1) (a.2.2.2) n cu su)) (G := (sE (fun t => SR sh (t.2.2) → WX RX4 cX4_canGrow 3 (some .boolean) ("canGrow", []) d mc ms X (px_QF Post mc ms) 29 [] [] sh (t.1) (t.2.1) (t.2.2) n cu su) (fun t => SR sh (t.2.2) → WX RX4 cX4_canGrow 3 (some .boolean) ("canGrow", []) d mc ms X (px_QF Post mc ms) 37 [] [] sh (t.1) (t.2.1) (t.2.2) n cu su))) (fun a r h g => fun hS => s_X4_canGrow_2b (x1 := x1) (x2 := a.1) (M := a.2.1) (L := a.2.2.1) (R := a.2.2.2) hS hd hcu hsu h g) (a := (x2, M, L, R)) h g
  exact key hS
noncomputable def f_X4_canGrow (sh : px_Sh) (M : px_M) (L : px_L) (R : px_R) (p1 : Int32) : Option (Int32 × px_M × px_L × px_R) :=
  bdS (lpf (fun a : Int32 × px_M × px_L × px_R => f_X4_canGrow_2 sh a.2.1 a.2.2.1 a.2.2.2 p1 a.1) (0, M, L, R)) (fun t_2_0 =>
  some (1, t_2_0.1, t_2_0.2.1, t_2_0.2.2)) (fun u_2_0 =>
  some (0, u_2_0.1, u_2_0.2.1, u_2_0.2.2))
theorem s_X4_canGrow {d : Nat} {X : Nat × (Nat → Int32)} {sh : px_Sh} {M : px_M} {L : px_L} {R : px_R} {n : Nat} {p1 : Int32} {e : Int32 × px_M × px_L × px_R} (hS : SR sh R) (hd : 4 ≤ d) (h : f_X4_canGrow sh M L R p1 = some e) : MX yX4_canGrow cX4_canGrow 3 (some .boolean) d 0 0 X [.ref 40, .int p1] sh M L R n (px_ps (some (.int e.1)) sh e.2.1 e.2.2.1 e.2.2.2 n) := by
  refine MX.of (by decide +kernel) (by exact Nat.le_of_ble_eq_true rfl) ?_
  have hcu : 0 ≤ 0 := Nat.zero_le _
  have hsu : 0 ≤ 0 := Nat.zero_le _
  have g : SR sh e.2.2.2 → px_ps (some (.int e.1)) sh e.2.1 e.2.2.1 e.2.2.2 n (some (.int e.1)) sh e.2.1 e.2.2.1 e.2.2.2 n := fun q => ⟨⟨rfl, rfl, rfl, rfl, rfl, rfl⟩, q⟩
  unfold f_X4_canGrow at h
  refine wx_iconst (v := 0) dX4_canGrow_0 (by decide) ?_
  refine wx_istore_n (lv' := [(2, _), (0, _), (1, _)]) dX4_canGrow_1 (by decide) rfl ?_
  rcases bdS_some h with ⟨t_2_0, k_2_0, h⟩ | ⟨u_2_0, k_2_0, h⟩
  · refine wx_sub (s_X4_canGrow_2 hS hd hcu hsu k_2_0 (sE_li (fun hS => ?_))) (px_s rfl (px_s rfl (px_s rfl px_0)))
    refine wx_iconst (v := 1) dX4_canGrow_29 (by decide) ?_
    refine wx_zret dX4_canGrow_30 rfl hcu hsu ?_
    obtain rfl := Option.some.inj h
    exact g hS
  · refine wx_sub (s_X4_canGrow_2 hS hd hcu hsu k_2_0 (sE_ri (fun hS => ?_))) (px_s rfl (px_s rfl (px_s rfl px_0)))
    refine wx_iconst (v := 0) dX4_canGrow_37 (by decide) ?_
    refine wx_zret dX4_canGrow_38 rfl hcu hsu ?_
    obtain rfl := Option.some.inj h
    exact g hS
noncomputable def f_X4_reduceEase_13 (M : px_M) (L : px_L) (y1 : Int64) (y3 : Int64) (x5 : Int32) : Option ((Int64 × Int64 × Int32) ⊕ (Int64)) :=
  if 100 ≤ x5 then
    some (.inr y1)
  else
    if (lg_cmp y3 0) = 0 then
      some (.inr y1)
    else
      ok (nz y3 0) <|
      nm (y1 - y1 / y3 * y3) fun v_29 =>
      some (.inl (y3, v_29, (x5 + 1)))
theorem s_X4_reduceEase_13b {y1 : Int64} {y3 : Int64} {x5 : Int32} {M : px_M} {L : px_L} {R : px_R} {e : ((Int64 × Int64 × Int32) ⊕ (Int64))} (hS : SR sh R) (hd : 0 ≤ d) (hcu : cu ≤ mc) (hsu : su ≤ ms) (h : f_X4_reduceEase_13 M L y1 y3 x5 = some e) (g : (sE (fun a => WX RX4 cX4_reduceEase 8 none ("reduceEase", []) d mc ms X (px_QF Post mc ms) 13 [(0, .ref 40), (1, .long a.1), (3, .long a.2.1), (5, .int a.2.2)] [] sh M L R n cu su) (fun t => WX RX4 cX4_reduceEase 8 none ("reduceEase", []) d mc ms X (px_QF Post mc ms) 42 [(0, .ref 40), (1, .long t)] [] sh M L R n cu su)) e) : WX RX4 cX4_reduceEase 8 none ("reduceEase", []) d mc ms X (px_QF Post mc ms) 13 [(0, .ref 40), (1, .long y1), (3, .long y3), (5, .int x5)] [] sh M L R n cu su := by
  unfold f_X4_reduceEase_13 at h
  refine wx_iload dX4_reduceEase_13 rfl ?_
  refine wx_bipush (v := 100) dX4_reduceEase_15 (by decide) ?_
  refine wx_icmp_ge (tgt := 42) dX4_reduceEase_17 (by decide) (fun c_17 => ?_) (fun c_17 => ?_)
  · replace h := it_t h c_17
    obtain rfl := Option.some.inj h
    replace g := sE_r g
    exact wx_sub g (px_s rfl (px_s rfl px_0))
  · replace h := it_f h c_17
    refine wx_lload_n dX4_reduceEase_20 rfl ?_
    refine wx_lconst (v := 0) dX4_reduceEase_21 (by decide) ?_
    refine wx_lcmp dX4_reduceEase_22 ?_
    refine wx_if_eq (tgt := 42) dX4_reduceEase_23 (by decide) (fun c_23 => ?_) (fun c_23 => ?_)
    · replace h := it_t h c_23
      obtain rfl := Option.some.inj h
      replace g := sE_r g
      exact wx_sub g (px_s rfl (px_s rfl px_0))
    · replace h := it_f h c_23
      refine wx_lload_n dX4_reduceEase_26 rfl ?_
      refine wx_lload_n dX4_reduceEase_27 rfl ?_
      obtain ⟨w_28, h⟩ := ok_some h
      refine wx_lrem dX4_reduceEase_28 (nz_n w_28) ?_
      refine wx_naml (fun v_29 q_29 => ?_)
      replace h := nm_at h q_29
      refine wx_lstore (lv' := [(6, _), (0, _), (1, _), (3, _), (5, _)]) dX4_reduceEase_29 (by decide) rfl ?_
      refine wx_lload_n dX4_reduceEase_31 rfl ?_
      refine wx_lstore_n (lv' := [(1, _), (6, _), (0, _), (3, _), (5, _)]) dX4_reduceEase_32 (by decide) rfl ?_
      refine wx_lload dX4_reduceEase_33 rfl ?_
      refine wx_lstore_n (lv' := [(3, _), (1, _), (6, _), (0, _), (5, _)]) dX4_reduceEase_35 (by decide) rfl ?_
      refine wx_iinc (lv' := [(5, _), (3, _), (1, _), (6, _), (0, _)]) dX4_reduceEase_36 rfl (i_1 _) (by decide) rfl ?_
      refine wx_goto (tgt := 13) dX4_reduceEase_39 (by decide) ?_
      obtain rfl := Option.some.inj h
      replace g := sE_l g
      exact wx_sub g (px_s rfl (px_s rfl (px_s rfl (px_s rfl px_0))))
theorem s_X4_reduceEase_13 {y1 : Int64} {y3 : Int64} {x5 : Int32} {M : px_M} {L : px_L} {R : px_R} {e : (Int64)} (hS : SR sh R) (hd : 0 ≤ d) (hcu : cu ≤ mc) (hsu : su ≤ ms) (h : lpf (fun a : Int64 × Int64 × Int32 => f_X4_reduceEase_13 M L a.1 a.2.1 a.2.2) (y1, y3, x5) = some e) (g : WX RX4 cX4_reduceEase 8 none ("reduceEase", []) d mc ms X (px_QF Post mc ms) 42 [(0, .ref 40), (1, .long e)] [] sh M L R n cu su) : WX RX4 cX4_reduceEase 8 none ("reduceEase", []) d mc ms X (px_QF Post mc ms) 13 [(0, .ref 40), (1, .long y1), (3, .long y3), (5, .int x5)] [] sh M L R n cu su := by
  have key := lpf_wp (P := (fun a => WX RX4 cX4_reduceEase 8 none ("reduceEase", []) d mc ms X (px_QF Post mc ms) 13 [(0, .ref 40), (1, .long a.1), (3, .long a.2.1), (5, .int a.2.2)] [] sh M L R n cu su)) (G := (fun t => WX RX4 cX4_reduceEase 8 none ("reduceEase", []) d mc ms X (px_QF Post mc ms) 42 [(0, .ref 40), (1, .long t)] [] sh M L R n cu su)) (fun a r h g => s_X4_reduceEase_13b (y1 := a.1) (y3 := a.2.1) (x5 := a.2.2) (M := M) (L := L) (R := R) hS hd hcu hsu h g) (a := (y1, y3, x5)) h g
  exact key
noncomputable def f_X4_reduceEase_75 (M : px_M) (L : px_L) : Option (px_L) :=
  some L
theorem s_X4_reduceEase_75 {M : px_M} {L : px_L} {R : px_R} {e : (px_L)} (hS : SR sh R) (hd : 0 ≤ d) (hcu : cu ≤ mc) (hsu : su ≤ ms) (h : f_X4_reduceEase_75 M L = some e) (g : Post none sh M e R n) : WX RX4 cX4_reduceEase 8 none ("reduceEase", []) d mc ms X (px_QF Post mc ms) 75 [] [] sh M L R n cu su := by
  unfold f_X4_reduceEase_75 at h
  refine wx_vret dX4_reduceEase_75 hcu hsu ?_
  obtain rfl := Option.some.inj h
  exact g
noncomputable def f_X4_reduceEase (M : px_M) (L : px_L) : Option (px_L) :=
  nm (L 40 13) fun v_4 =>
  nm (L 40 14) fun v_9 =>
  bd1 (lpf (fun a : Int64 × Int64 × Int32 => f_X4_reduceEase_13 M L a.1 a.2.1 a.2.2) (v_4, v_9, 0)) fun e_13 =>
  if (M 40 10) = 0 then
    f_X4_reduceEase_75 M L
  else
    if (lg_cmp e_13 0) = 0 then
      f_X4_reduceEase_75 M L
    else
      ok (nz e_13 0) <|
      nm ((L 40 13) / e_13) fun v_62 =>
      nm (px_u L 40 13 v_62) fun L_62 =>
      ok (nz e_13 0) <|
      nm ((L_62 40 14) / e_13) fun v_72 =>
      nm (px_u L_62 40 14 v_72) fun L_72 =>
      f_X4_reduceEase_75 M L_72
theorem s_X4_reduceEase {d : Nat} {X : Nat × (Nat → Int32)} {sh : px_Sh} {M : px_M} {L : px_L} {R : px_R} {n : Nat} {e : px_L} (hS : SR sh R) (hd : 0 ≤ d) (h : f_X4_reduceEase M L = some e) : MX yX4_reduceEase cX4_reduceEase 8 none d 0 0 X [.ref 40] sh M L R n (px_pu none sh M e R n) := by
  refine MX.of (by decide +kernel) (by exact Nat.le_of_ble_eq_true rfl) ?_
  have hcu : 0 ≤ 0 := Nat.zero_le _
  have hsu : 0 ≤ 0 := Nat.zero_le _
  have g : px_pu none sh M e R n none sh M e R n := ⟨rfl, rfl, rfl, rfl, rfl, rfl⟩
  unfold f_X4_reduceEase at h
  refine wx_aload_n dX4_reduceEase_0 rfl ?_
  refine wx_getL dX4_reduceEase_1 fl_X4_128 (sc_40 hS) rfl ?_
  refine wx_naml (fun v_4 q_4 => ?_)
  replace h := nm_at h q_4
  refine wx_lstore_n (lv' := [(1, _), (0, _)]) dX4_reduceEase_4 (by decide) rfl ?_
  refine wx_aload_n dX4_reduceEase_5 rfl ?_
  refine wx_getL dX4_reduceEase_6 fl_X4_125 (sc_40 hS) rfl ?_
  refine wx_naml (fun v_9 q_9 => ?_)
  replace h := nm_at h q_9
  refine wx_lstore_n (lv' := [(3, _), (1, _), (0, _)]) dX4_reduceEase_9 (by decide) rfl ?_
  refine wx_iconst (v := 0) dX4_reduceEase_10 (by decide) ?_
  refine wx_istore (lv' := [(5, _), (3, _), (1, _), (0, _)]) dX4_reduceEase_11 (by decide) rfl ?_
  obtain ⟨e_13, k_13, h⟩ := bd1_some h
  refine wx_sub (s_X4_reduceEase_13 hS hd hcu hsu k_13 ?_) (px_s rfl (px_s rfl (px_s rfl (px_s rfl px_0))))
  refine wx_aload_n dX4_reduceEase_42 rfl ?_
  refine wx_getI dX4_reduceEase_43 fl_X4_58 (sc_40 hS) rfl ?_
  refine wx_if_eq (tgt := 75) dX4_reduceEase_46 (by decide) (fun c_46 => ?_) (fun c_46 => ?_)
  · replace h := it_t h c_46
    exact wx_sub (s_X4_reduceEase_75 hS hd hcu hsu h g) px_0
  · replace h := it_f h c_46
    refine wx_lload_n dX4_reduceEase_49 rfl ?_
    refine wx_lconst (v := 0) dX4_reduceEase_50 (by decide) ?_
    refine wx_lcmp dX4_reduceEase_51 ?_
    refine wx_if_eq (tgt := 75) dX4_reduceEase_52 (by decide) (fun c_52 => ?_) (fun c_52 => ?_)
    · replace h := it_t h c_52
      exact wx_sub (s_X4_reduceEase_75 hS hd hcu hsu h g) px_0
    · replace h := it_f h c_52
      refine wx_aload_n dX4_reduceEase_55 rfl ?_
      refine wx_dup dX4_reduceEase_56 rfl ?_
      refine wx_getL dX4_reduceEase_57 fl_X4_128 (sc_40 hS) rfl ?_
      refine wx_lload_n dX4_reduceEase_60 rfl ?_
      obtain ⟨w_61, h⟩ := ok_some h
      refine wx_ldiv dX4_reduceEase_61 (nz_n w_61) ?_
      refine wx_naml (fun v_62 q_62 => ?_)
      replace h := nm_at h q_62
      refine wx_putL dX4_reduceEase_62 fl_X4_128 (sc_40 hS) (Or.inl rfl) rfl ⟨rfl, rfl⟩ ?_
      refine wx_namL (fun L_62 q_62 => ?_)
      replace h := nm_at h q_62
      refine wx_aload_n dX4_reduceEase_65 rfl ?_
      refine wx_dup dX4_reduceEase_66 rfl ?_
      refine wx_getL dX4_reduceEase_67 fl_X4_125 (sc_40 hS) rfl ?_
      refine wx_lload_n dX4_reduceEase_70 rfl ?_
      obtain ⟨w_71, h⟩ := ok_some h
      refine wx_ldiv dX4_reduceEase_71 (nz_n w_71) ?_
      refine wx_naml (fun v_72 q_72 => ?_)
      replace h := nm_at h q_72
      refine wx_putL dX4_reduceEase_72 fl_X4_125 (sc_40 hS) (Or.inl rfl) rfl ⟨rfl, rfl⟩ ?_
      refine wx_namL (fun L_72 q_72 => ?_)
      replace h := nm_at h q_72
      exact wx_sub (s_X4_reduceEase_75 hS hd hcu hsu h g) px_0
noncomputable def f_X4_settle_108 (sh : px_Sh) (M : px_M) (L : px_L) (R : px_R) (x1 : Int32) : Option ((Int32 × px_M × px_L × px_R) ⊕ (px_M × px_L × px_R)) :=
  some (.inl ((x1 + 1), M, L, R))
theorem s_X4_settle_108 {x1 : Int32} {M : px_M} {L : px_L} {R : px_R} {e : ((Int32 × px_M × px_L × px_R) ⊕ (px_M × px_L × px_R))} (hS : SR sh R) (hd : 5 ≤ d) (hcu : cu ≤ mc) (hsu : su ≤ ms) (h : f_X4_settle_108 sh M L R x1 = some e) (g : (sE (fun a => SR sh (a.2.2.2) → WX RX4 cX4_settle 2 none ("settle", []) d mc ms X (px_QF Post mc ms) 62 [(0, .ref 40), (1, .int a.1)] [] sh (a.2.1) (a.2.2.1) (a.2.2.2) n cu su) (fun t => SR sh (t.2.2) → WX RX4 cX4_settle 2 none ("settle", []) d mc ms X (px_QF Post mc ms) 114 [(0, .ref 40)] [] sh (t.1) (t.2.1) (t.2.2) n cu su)) e) : WX RX4 cX4_settle 2 none ("settle", []) d mc ms X (px_QF Post mc ms) 108 [(0, .ref 40), (1, .int x1)] [] sh M L R n cu su := by
  unfold f_X4_settle_108 at h
  refine wx_iinc (lv' := [(1, _), (0, _)]) dX4_settle_108 rfl (i_1 _) (by decide) rfl ?_
  refine wx_goto (tgt := 62) dX4_settle_111 (by decide) ?_
  obtain rfl := Option.some.inj h
  replace g := sE_l g
  exact wx_sub (g hS) (px_s rfl (px_s rfl px_0))
noncomputable def f_X4_settle_62 (sh : px_Sh) (M : px_M) (L : px_L) (R : px_R) (x1 : Int32) : Option ((Int32 × px_M × px_L × px_R) ⊕ (px_M × px_L × px_R)) :=
  if (M 40 10) = 0 then
    some (.inr (M, L, R))
  else
    if (M 40 8) ≤ x1 then
      some (.inr (M, L, R))
    else
      if (((M 40 12) >>> (x1 &&& 31)) &&& 1) = 0 then
        bd1 (f_X4_canGrow sh M L R x1) fun e_90 =>
        if e_90.1 = 0 then
          f_X4_settle_108 sh e_90.2.1 e_90.2.2.1 e_90.2.2.2 x1
        else
          nm ((e_90.2.1 40 12) ||| (1 <<< (x1 &&& 31))) fun v_105 =>
          nm (px_u e_90.2.1 40 12 v_105) fun M_105 =>
          f_X4_settle_108 sh M_105 e_90.2.2.1 e_90.2.2.2 x1
      else
        f_X4_settle_108 sh M L R x1
theorem s_X4_settle_62b {x1 : Int32} {M : px_M} {L : px_L} {R : px_R} {e : ((Int32 × px_M × px_L × px_R) ⊕ (px_M × px_L × px_R))} (hS : SR sh R) (hd : 5 ≤ d) (hcu : cu ≤ mc) (hsu : su ≤ ms) (h : f_X4_settle_62 sh M L R x1 = some e) (g : (sE (fun a => SR sh (a.2.2.2) → WX RX4 cX4_settle 2 none ("settle", []) d mc ms X (px_QF Post mc ms) 62 [(0, .ref 40), (1, .int a.1)] [] sh (a.2.1) (a.2.2.1) (a.2.2.2) n cu su) (fun t => SR sh (t.2.2) → WX RX4 cX4_settle 2 none ("settle", []) d mc ms X (px_QF Post mc ms) 114 [(0, .ref 40)] [] sh (t.1) (t.2.1) (t.2.2) n cu su)) e) : WX RX4 cX4_settle 2 none ("settle", []) d mc ms X (px_QF Post mc ms) 62 [(0, .ref 40), (1, .int x1)] [] sh M L R n cu su := by
  unfold f_X4_settle_62 at h
  refine wx_aload_n dX4_settle_62 rfl ?_
  refine wx_getI dX4_settle_63 fl_X4_58 (sc_40 hS) rfl ?_
  refine wx_if_eq (tgt := 114) dX4_settle_66 (by decide) (fun c_66 => ?_) (fun c_66 => ?_)
  · replace h := it_t h c_66
    obtain rfl := Option.some.inj h
    replace g := sE_r g
    exact wx_sub (g hS) (px_s rfl px_0)
  · replace h := it_f h c_66
    refine wx_iload_n dX4_settle_69 rfl ?_
    refine wx_aload_n dX4_settle_70 rfl ?_
    refine wx_getI dX4_settle_71 fl_X4_47 (sc_40 hS) rfl ?_
    refine wx_icmp_ge (tgt := 114) dX4_settle_74 (by decide) (fun c_74 => ?_) (fun c_74 => ?_)
    · replace h := it_t h c_74
      obtain rfl := Option.some.inj h
      replace g := sE_r g
      exact wx_sub (g hS) (px_s rfl px_0)
    · replace h := it_f h c_74
      refine wx_aload_n dX4_settle_77 rfl ?_
      refine wx_getI dX4_settle_78 fl_X4_64 (sc_40 hS) rfl ?_
      refine wx_iload_n dX4_settle_81 rfl ?_
      refine wx_ishr dX4_settle_82 ?_
      refine wx_iconst (v := 1) dX4_settle_83 (by decide) ?_
      refine wx_iand dX4_settle_84 ?_
      refine wx_if_ne (tgt := 108) dX4_settle_85 (by decide) (fun c_85 => ?_) (fun c_85 => ?_)
      · replace h := it_f h c_85
        exact wx_sub (s_X4_settle_108 hS hd hcu hsu h g) (px_s rfl (px_s rfl px_0))
      · replace h := it_t h c_85
        refine wx_aload_n dX4_settle_88 rfl ?_
        refine wx_iload_n dX4_settle_89 rfl ?_
        obtain ⟨e_90, k_90, h⟩ := bd1_some h
        refine wx_cViS dX4_settle_90 ml_X4_74 my_X4_canGrow iv_X4_canGrow (sc_40 hS) (by decide) (s_X4_canGrow (d := d - 1) hS (by omega) k_90) rfl (by omega) (by exact Nat.le_of_ble_eq_true rfl) hcu hsu (fun hS => ?_)
        refine wx_if_eq (tgt := 108) dX4_settle_93 (by decide) (fun c_93 => ?_) (fun c_93 => ?_)
        · replace h := it_t h c_93
          exact wx_sub (s_X4_settle_108 hS hd hcu hsu h g) (px_s rfl (px_s rfl px_0))
        · replace h := it_f h c_93
          refine wx_aload_n dX4_settle_96 rfl ?_
          refine wx_dup dX4_settle_97 rfl ?_
          refine wx_getI dX4_settle_98 fl_X4_64 (sc_40 hS) rfl ?_
          refine wx_iconst (v := 1) dX4_settle_101 (by decide) ?_
          refine wx_iload_n dX4_settle_102 rfl ?_
          refine wx_ishl dX4_settle_103 ?_
          refine wx_ior dX4_settle_104 ?_
          refine wx_nami (fun v_105 q_105 => ?_)
          replace h := nm_at h q_105
          refine wx_putI dX4_settle_105 fl_X4_64 (sc_40 hS) (Or.inl rfl) rfl ⟨rfl, rfl⟩ ?_
          refine wx_namM (fun M_105 q_105 => ?_)
          replace h := nm_at h q_105
          exact wx_sub (s_X4_settle_108 hS hd hcu hsu h g) (px_s rfl (px_s rfl px_0))
theorem s_X4_settle_62 {x1 : Int32} {M : px_M} {L : px_L} {R : px_R} {e : (px_M × px_L × px_R)} (hS : SR sh R) (hd : 5 ≤ d) (hcu : cu ≤ mc) (hsu : su ≤ ms) (h : lpf (fun a : Int32 × px_M × px_L × px_R => f_X4_settle_62 sh a.2.1 a.2.2.1 a.2.2.2 a.1) (x1, M, L, R) = some e) (g : SR sh (e.2.2) → WX RX4 cX4_settle 2 none ("settle", []) d mc ms X (px_QF Post mc ms) 114 [(0, .ref 40)] [] sh (e.1) (e.2.1) (e.2.2) n cu su) : WX RX4 cX4_settle 2 none ("settle", []) d mc ms X (px_QF Post mc ms) 62 [(0, .ref 40), (1, .int x1)] [] sh M L R n cu su := by
  have key := lpf_wp (P := (fun a => SR sh (a.2.2.2) → WX RX4 cX4_settle 2 none ("settle", []) d mc ms X (px_QF Post mc ms) 62 [(0, .ref 40), (1, .int a.1)] [] sh (a.2.1) (a.2.2.1) (a.2.2.2) n cu su)) (G := (fun t => SR sh (t.2.2) → WX RX4 cX4_settle 2 none ("settle", []) d mc ms X (px_QF Post mc ms) 114 [(0, .ref 40)] [] sh (t.1) (t.2.1) (t.2.2) n cu su)) (fun a r h g => fun hS => s_X4_settle_62b (x1 := a.1) (M := a.2.1) (L := a.2.2.1) (R := a.2.2.2) hS hd hcu hsu h g) (a := (x1, M, L, R)) h g
  exact key hS
noncomputable def f_X4_settle_54 (sh : px_Sh) (M : px_M) (L : px_L) (R : px_R) (x1 : Int32) : Option ((Int32 × px_M × px_L × px_R) ⊕ (px_M × px_L × px_R)) :=
  some (.inl ((x1 + 1), M, L, R))
theorem s_X4_settle_54 {x1 : Int32} {M : px_M} {L : px_L} {R : px_R} {e : ((Int32 × px_M × px_L × px_R) ⊕ (px_M × px_L × px_R))} (hS : SR sh R) (hd : 5 ≤ d) (hcu : cu ≤ mc) (hsu : su ≤ ms) (h : f_X4_settle_54 sh M L R x1 = some e) (g : (sE (fun a => SR sh (a.2.2.2) → WX RX4 cX4_settle 2 none ("settle", []) d mc ms X (px_QF Post mc ms) 30 [(0, .ref 40), (1, .int a.1)] [] sh (a.2.1) (a.2.2.1) (a.2.2.2) n cu su) (fun t => SR sh (t.2.2) → WX RX4 cX4_settle 2 none ("settle", []) d mc ms X (px_QF Post mc ms) 60 [(0, .ref 40)] [] sh (t.1) (t.2.1) (t.2.2) n cu su)) e) : WX RX4 cX4_settle 2 none ("settle", []) d mc ms X (px_QF Post mc ms) 54 [(0, .ref 40), (1, .int x1)] [] sh M L R n cu su := by
  unfold f_X4_settle_54 at h
  refine wx_iinc (lv' := [(1, _), (0, _)]) dX4_settle_54 rfl (i_1 _) (by decide) rfl ?_
  refine wx_goto (tgt := 30) dX4_settle_57 (by decide) ?_
  obtain rfl := Option.some.inj h
  replace g := sE_l g
  exact wx_sub (g hS) (px_s rfl (px_s rfl px_0))
noncomputable def f_X4_settle_30 (sh : px_Sh) (M : px_M) (L : px_L) (R : px_R) (x1 : Int32) : Option ((Int32 × px_M × px_L × px_R) ⊕ (px_M × px_L × px_R)) :=
  if (1 <<< ((M 40 8) &&& 31)) ≤ x1 then
    some (.inr (M, L, R))
  else
    bd1 (f_X4_balances sh M L R x1 (-1)) fun e_43 =>
    if e_43.1 = 0 then
      f_X4_settle_54 sh e_43.2.1 e_43.2.2.1 e_43.2.2.2 x1
    else
      bd1 (f_X4_takeStand sh e_43.2.1 e_43.2.2.1 e_43.2.2.2 x1) fun e_51 =>
      f_X4_settle_54 sh e_51.1 e_51.2 e_43.2.2.2 x1
theorem s_X4_settle_30b {x1 : Int32} {M : px_M} {L : px_L} {R : px_R} {e : ((Int32 × px_M × px_L × px_R) ⊕ (px_M × px_L × px_R))} (hS : SR sh R) (hd : 5 ≤ d) (hcu : cu ≤ mc) (hsu : su ≤ ms) (h : f_X4_settle_30 sh M L R x1 = some e) (g : (sE (fun a => SR sh (a.2.2.2) → WX RX4 cX4_settle 2 none ("settle", []) d mc ms X (px_QF Post mc ms) 30 [(0, .ref 40), (1, .int a.1)] [] sh (a.2.1) (a.2.2.1) (a.2.2.2) n cu su) (fun t => SR sh (t.2.2) → WX RX4 cX4_settle 2 none ("settle", []) d mc ms X (px_QF Post mc ms) 60 [(0, .ref 40)] [] sh (t.1) (t.2.1) (t.2.2) n cu su)) e) : WX RX4 cX4_settle 2 none ("settle", []) d mc ms X (px_QF Post mc ms) 30 [(0, .ref 40), (1, .int x1)] [] sh M L R n cu su := by
  unfold f_X4_settle_30 at h
  refine wx_iload_n dX4_settle_30 rfl ?_
  refine wx_iconst (v := 1) dX4_settle_31 (by decide) ?_
  refine wx_aload_n dX4_settle_32 rfl ?_
  refine wx_getI dX4_settle_33 fl_X4_47 (sc_40 hS) rfl ?_
  refine wx_ishl dX4_settle_36 ?_
  refine wx_icmp_ge (tgt := 60) dX4_settle_37 (by decide) (fun c_37 => ?_) (fun c_37 => ?_)
  · replace h := it_t h c_37
    obtain rfl := Option.some.inj h
    replace g := sE_r g
    exact wx_sub (g hS) (px_s rfl px_0)
  · replace h := it_f h c_37
    refine wx_aload_n dX4_settle_40 rfl ?_
    refine wx_iload_n dX4_settle_41 rfl ?_
    refine wx_iconst (v := (-1)) dX4_settle_42 (by decide) ?_
    obtain ⟨e_43, k_43, h⟩ := bd1_some h
    refine wx_cViS dX4_settle_43 ml_X4_67 my_X4_balances iv_X4_balances (sc_40 hS) (by decide) (s_X4_balances (d := d - 1) hS (by omega) k_43) rfl (by omega) (by exact Nat.le_of_ble_eq_true rfl) hcu hsu (fun hS => ?_)
    refine wx_if_eq (tgt := 54) dX4_settle_46 (by decide) (fun c_46 => ?_) (fun c_46 => ?_)
    · replace h := it_t h c_46
      exact wx_sub (s_X4_settle_54 hS hd hcu hsu h g) (px_s rfl (px_s rfl px_0))
    · replace h := it_f h c_46
      refine wx_aload_n dX4_settle_49 rfl ?_
      refine wx_iload_n dX4_settle_50 rfl ?_
      obtain ⟨e_51, k_51, h⟩ := bd1_some h
      refine wx_cVv dX4_settle_51 ml_X4_70 my_X4_takeStand iv_X4_takeStand (sc_40 hS) (by decide) (s_X4_takeStand (d := d - 1) hS (by omega) k_51) rfl (by omega) (by exact Nat.le_of_ble_eq_true rfl) hcu hsu ?_
      exact wx_sub (s_X4_settle_54 hS hd hcu hsu h g) (px_s rfl (px_s rfl px_0))
theorem s_X4_settle_30 {x1 : Int32} {M : px_M} {L : px_L} {R : px_R} {e : (px_M × px_L × px_R)} (hS : SR sh R) (hd : 5 ≤ d) (hcu : cu ≤ mc) (hsu : su ≤ ms) (h : lpf (fun a : Int32 × px_M × px_L × px_R => f_X4_settle_30 sh a.2.1 a.2.2.1 a.2.2.2 a.1) (x1, M, L, R) = some e) (g : SR sh (e.2.2) → WX RX4 cX4_settle 2 none ("settle", []) d mc ms X (px_QF Post mc ms) 60 [(0, .ref 40)] [] sh (e.1) (e.2.1) (e.2.2) n cu su) : WX RX4 cX4_settle 2 none ("settle", []) d mc ms X (px_QF Post mc ms) 30 [(0, .ref 40), (1, .int x1)] [] sh M L R n cu su := by
  have key := lpf_wp (P := (fun a => SR sh (a.2.2.2) → WX RX4 cX4_settle 2 none ("settle", []) d mc ms X (px_QF Post mc ms) 30 [(0, .ref 40), (1, .int a.1)] [] sh (a.2.1) (a.2.2.1) (a.2.2.2) n cu su)) (G := (fun t => SR sh (t.2.2) → WX RX4 cX4_settle 2 none ("settle", []) d mc ms X (px_QF Post mc ms) 60 [(0, .ref 40)] [] sh (t.1) (t.2.1) (t.2.2) n cu su)) (fun a r h g => fun hS => s_X4_settle_30b (x1 := a.1) (M := a.2.1) (L := a.2.2.1) (R := a.2.2.2) hS hd hcu hsu h g) (a := (x1, M, L, R)) h g
  exact key hS
noncomputable def f_X4_settle (sh : px_Sh) (M : px_M) (L : px_L) (R : px_R) : Option (px_M × px_L × px_R) :=
  if (M 40 9) = 0 then
    nm (px_u M 40 9 1) fun M_10 =>
    nm (px_u M_10 40 10 0) fun M_15 =>
    nm (px_u M_15 40 11 0) fun M_20 =>
    nm (px_u M_20 40 12 0) fun M_25 =>
    bd1 (lpf (fun a : Int32 × px_M × px_L × px_R => f_X4_settle_30 sh a.2.1 a.2.2.1 a.2.2.2 a.1) (0, M_25, L, R)) fun e_30 =>
    bd1 (lpf (fun a : Int32 × px_M × px_L × px_R => f_X4_settle_62 sh a.2.1 a.2.2.1 a.2.2.2 a.1) (0, e_30.1, e_30.2.1, e_30.2.2)) fun e_62 =>
    bd1 (f_X4_reduceEase e_62.1 e_62.2.1) fun e_115 =>
    some (e_62.1, e_115, e_62.2.2)
  else
    some (M, L, R)
theorem s_X4_settle {d : Nat} {X : Nat × (Nat → Int32)} {sh : px_Sh} {M : px_M} {L : px_L} {R : px_R} {n : Nat} {e : px_M × px_L × px_R} (hS : SR sh R) (hd : 5 ≤ d) (h : f_X4_settle sh M L R = some e) : MX yX4_settle cX4_settle 2 none d 0 0 X [.ref 40] sh M L R n (px_ps none sh e.1 e.2.1 e.2.2 n) := by
  refine MX.of (by decide +kernel) (by exact Nat.le_of_ble_eq_true rfl) ?_
  have hcu : 0 ≤ 0 := Nat.zero_le _
  have hsu : 0 ≤ 0 := Nat.zero_le _
  have g : SR sh e.2.2 → px_ps none sh e.1 e.2.1 e.2.2 n none sh e.1 e.2.1 e.2.2 n := fun q => ⟨⟨rfl, rfl, rfl, rfl, rfl, rfl⟩, q⟩
  unfold f_X4_settle at h
  refine wx_aload_n dX4_settle_0 rfl ?_
  refine wx_getI dX4_settle_1 fl_X4_50 (sc_40 hS) rfl ?_
  refine wx_if_eq (tgt := 8) dX4_settle_4 (by decide) (fun c_4 => ?_) (fun c_4 => ?_)
  · replace h := it_t h c_4
    refine wx_aload_n dX4_settle_8 rfl ?_
    refine wx_iconst (v := 1) dX4_settle_9 (by decide) ?_
    refine wx_putI dX4_settle_10 fl_X4_50 (sc_40 hS) (Or.inl rfl) rfl ⟨rfl, rfl⟩ ?_
    refine wx_namM (fun M_10 q_10 => ?_)
    replace h := nm_at h q_10
    refine wx_aload_n dX4_settle_13 rfl ?_
    refine wx_iconst (v := 0) dX4_settle_14 (by decide) ?_
    refine wx_putI dX4_settle_15 fl_X4_58 (sc_40 hS) (Or.inl rfl) rfl ⟨rfl, rfl⟩ ?_
    refine wx_namM (fun M_15 q_15 => ?_)
    replace h := nm_at h q_15
    refine wx_aload_n dX4_settle_18 rfl ?_
    refine wx_iconst (v := 0) dX4_settle_19 (by decide) ?_
    refine wx_putI dX4_settle_20 fl_X4_61 (sc_40 hS) (Or.inl rfl) rfl ⟨rfl, rfl⟩ ?_
    refine wx_namM (fun M_20 q_20 => ?_)
    replace h := nm_at h q_20
    refine wx_aload_n dX4_settle_23 rfl ?_
    refine wx_iconst (v := 0) dX4_settle_24 (by decide) ?_
    refine wx_putI dX4_settle_25 fl_X4_64 (sc_40 hS) (Or.inl rfl) rfl ⟨rfl, rfl⟩ ?_
    refine wx_namM (fun M_25 q_25 => ?_)
    replace h := nm_at h q_25
    refine wx_iconst (v := 0) dX4_settle_28 (by decide) ?_
    refine wx_istore_n (lv' := [(1, _), (0, _)]) dX4_settle_29 (by decide) rfl ?_
    obtain ⟨e_30, k_30, h⟩ := bd1_some h
    refine wx_sub (s_X4_settle_30 hS hd hcu hsu k_30 (fun hS => ?_)) (px_s rfl (px_s rfl px_0))
    refine wx_iconst (v := 0) dX4_settle_60 (by decide) ?_
    refine wx_istore_n (lv' := [(1, _), (0, _)]) dX4_settle_61 (by decide) rfl ?_
    obtain ⟨e_62, k_62, h⟩ := bd1_some h
    refine wx_sub (s_X4_settle_62 hS hd hcu hsu k_62 (fun hS => ?_)) (px_s rfl (px_s rfl px_0))
    refine wx_aload_n dX4_settle_114 rfl ?_
    obtain ⟨e_115, k_115, h⟩ := bd1_some h
    refine wx_cVv dX4_settle_115 ml_X4_78 my_X4_reduceEase iv_X4_reduceEase (sc_40 hS) (by decide) (s_X4_reduceEase (d := d - 1) hS (by omega) k_115) rfl (by omega) (by exact Nat.le_of_ble_eq_true rfl) hcu hsu ?_
    refine wx_vret dX4_settle_118 hcu hsu ?_
    obtain rfl := Option.some.inj h
    exact g hS
  · replace h := it_f h c_4
    refine wx_vret dX4_settle_7 hcu hsu ?_
    obtain rfl := Option.some.inj h
    exact g hS
noncomputable def f_X4_cutAll (M : px_M) : Option (Int32 × px_M) :=
  nm (M 40 8) fun v_4 =>
  nm (px_u M 40 9 0) fun M_7 =>
  nm (px_u M_7 40 5 0) fun M_12 =>
  nm (px_u M_12 40 8 0) fun M_17 =>
  some (v_4, M_17)
theorem s_X4_cutAll {d : Nat} {X : Nat × (Nat → Int32)} {sh : px_Sh} {M : px_M} {L : px_L} {R : px_R} {n : Nat} {e : Int32 × px_M} (hS : SR sh R) (hd : 0 ≤ d) (h : f_X4_cutAll M = some e) : MX yX4_cutAll cX4_cutAll 2 (some .int) d 0 0 X [.ref 40] sh M L R n (px_pu (some (.int e.1)) sh e.2 L R n) := by
  refine MX.of (by decide +kernel) (by exact Nat.le_of_ble_eq_true rfl) ?_
  have hcu : 0 ≤ 0 := Nat.zero_le _
  have hsu : 0 ≤ 0 := Nat.zero_le _
  have g : px_pu (some (.int e.1)) sh e.2 L R n (some (.int e.1)) sh e.2 L R n := ⟨rfl, rfl, rfl, rfl, rfl, rfl⟩
  unfold f_X4_cutAll at h
  refine wx_aload_n dX4_cutAll_0 rfl ?_
  refine wx_getI dX4_cutAll_1 fl_X4_47 (sc_40 hS) rfl ?_
  refine wx_nami (fun v_4 q_4 => ?_)
  replace h := nm_at h q_4
  refine wx_istore_n (lv' := [(1, _), (0, _)]) dX4_cutAll_4 (by decide) rfl ?_
  refine wx_aload_n dX4_cutAll_5 rfl ?_
  refine wx_iconst (v := 0) dX4_cutAll_6 (by decide) ?_
  refine wx_putI dX4_cutAll_7 fl_X4_50 (sc_40 hS) (Or.inl rfl) rfl ⟨rfl, rfl⟩ ?_
  refine wx_namM (fun M_7 q_7 => ?_)
  replace h := nm_at h q_7
  refine wx_aload_n dX4_cutAll_10 rfl ?_
  refine wx_iconst (v := 0) dX4_cutAll_11 (by decide) ?_
  refine wx_putI dX4_cutAll_12 fl_X4_39 (sc_40 hS) (Or.inl rfl) rfl ⟨rfl, rfl⟩ ?_
  refine wx_namM (fun M_12 q_12 => ?_)
  replace h := nm_at h q_12
  refine wx_aload_n dX4_cutAll_15 rfl ?_
  refine wx_iconst (v := 0) dX4_cutAll_16 (by decide) ?_
  refine wx_putI dX4_cutAll_17 fl_X4_47 (sc_40 hS) (Or.inl rfl) rfl ⟨rfl, rfl⟩ ?_
  refine wx_namM (fun M_17 q_17 => ?_)
  replace h := nm_at h q_17
  refine wx_iload_n dX4_cutAll_20 rfl ?_
  refine wx_iret dX4_cutAll_21 hcu hsu ?_
  obtain rfl := Option.some.inj h
  exact g
noncomputable def f_X4_addKnot (M : px_M) (p1 : Int32) (p2 : Int32) (p3 : Int32) : Option (Int32 × px_M) :=
  if (M 40 5) = 6 then
    some ((-1), M)
  else
    nm (px_u M 40 9 0) fun M_13 =>
    ok (ix (M_13 40 5) 6) <|
    nm (px_u M_13 41 (M_13 40 5).toNatClampNeg p1) fun M_25 =>
    ok (ix (M_25 40 5) 6) <|
    nm (px_u M_25 42 (M_25 40 5).toNatClampNeg p2) fun M_35 =>
    ok (ix (M_35 40 5) 6) <|
    ok (zb p3) <|
    nm (px_u M_35 45 (M_35 40 5).toNatClampNeg p3) fun M_45 =>
    ok (ix (M_45 40 5) 6) <|
    nm (px_u M_45 43 (M_45 40 5).toNatClampNeg 0) fun M_55 =>
    ok (ix (M_55 40 5) 6) <|
    nm (px_u M_55 44 (M_55 40 5).toNatClampNeg 0) fun M_65 =>
    nm (M_65 40 5) fun v_71 =>
    nm (v_71 + 1) fun v_74 =>
    nm (px_u M_65 40 5 v_74) fun M_74 =>
    some (v_71, M_74)
theorem s_X4_addKnot {d : Nat} {X : Nat × (Nat → Int32)} {sh : px_Sh} {M : px_M} {L : px_L} {R : px_R} {n : Nat} {p1 : Int32} {p2 : Int32} {p3 : Int32} {e : Int32 × px_M} (hS : SR sh R) (hd : 0 ≤ d) (h : f_X4_addKnot M p1 p2 p3 = some e) : MX yX4_addKnot cX4_addKnot 4 (some .int) d 0 0 X [.ref 40, .int p1, .int p2, .int p3] sh M L R n (px_pu (some (.int e.1)) sh e.2 L R n) := by
  refine MX.of (by decide +kernel) (by exact Nat.le_of_ble_eq_true rfl) ?_
  have hcu : 0 ≤ 0 := Nat.zero_le _
  have hsu : 0 ≤ 0 := Nat.zero_le _
  have g : px_pu (some (.int e.1)) sh e.2 L R n (some (.int e.1)) sh e.2 L R n := ⟨rfl, rfl, rfl, rfl, rfl, rfl⟩
  unfold f_X4_addKnot at h
  refine wx_aload_n dX4_addKnot_0 rfl ?_
  refine wx_getI dX4_addKnot_1 fl_X4_39 (sc_40 hS) rfl ?_
  refine wx_bipush (v := 6) dX4_addKnot_4 (by decide) ?_
  refine wx_icmp_ne (tgt := 11) dX4_addKnot_6 (by decide) (fun c_6 => ?_) (fun c_6 => ?_)
  · replace h := it_f h c_6
    refine wx_aload_n dX4_addKnot_11 rfl ?_
    refine wx_iconst (v := 0) dX4_addKnot_12 (by decide) ?_
    refine wx_putI dX4_addKnot_13 fl_X4_50 (sc_40 hS) (Or.inl rfl) rfl ⟨rfl, rfl⟩ ?_
    refine wx_namM (fun M_13 q_13 => ?_)
    replace h := nm_at h q_13
    refine wx_aload_n dX4_addKnot_16 rfl ?_
    refine wx_getR dX4_addKnot_17 fl_X4_11 (sc_40 hS) rfl (rr_40_0 hS) ?_
    refine wx_aload_n dX4_addKnot_20 rfl ?_
    refine wx_getI dX4_addKnot_21 fl_X4_39 (sc_40 hS) rfl ?_
    refine wx_iload_n dX4_addKnot_24 rfl ?_
    obtain ⟨w_25, h⟩ := ok_some h
    refine wx_iast dX4_addKnot_25 (sc_41 hS) (ix_in w_25) ?_
    refine wx_namM (fun M_25 q_25 => ?_)
    replace h := nm_at h q_25
    refine wx_aload_n dX4_addKnot_26 rfl ?_
    refine wx_getR dX4_addKnot_27 fl_X4_15 (sc_40 hS) rfl (rr_40_1 hS) ?_
    refine wx_aload_n dX4_addKnot_30 rfl ?_
    refine wx_getI dX4_addKnot_31 fl_X4_39 (sc_40 hS) rfl ?_
    refine wx_iload_n dX4_addKnot_34 rfl ?_
    obtain ⟨w_35, h⟩ := ok_some h
    refine wx_iast dX4_addKnot_35 (sc_42 hS) (ix_in w_35) ?_
    refine wx_namM (fun M_35 q_35 => ?_)
    replace h := nm_at h q_35
    refine wx_aload_n dX4_addKnot_36 rfl ?_
    refine wx_getR dX4_addKnot_37 fl_X4_24 (sc_40 hS) rfl (rr_40_4 hS) ?_
    refine wx_aload_n dX4_addKnot_40 rfl ?_
    refine wx_getI dX4_addKnot_41 fl_X4_39 (sc_40 hS) rfl ?_
    refine wx_iload_n dX4_addKnot_44 rfl ?_
    obtain ⟨w_45, h⟩ := ok_some h
    obtain ⟨wz_45, h⟩ := ok_some h
    refine wx_bast dX4_addKnot_45 (sc_45 hS) (ix_in w_45) (zb_n wz_45) ?_
    refine wx_namM (fun M_45 q_45 => ?_)
    replace h := nm_at h q_45
    refine wx_aload_n dX4_addKnot_46 rfl ?_
    refine wx_getR dX4_addKnot_47 fl_X4_18 (sc_40 hS) rfl (rr_40_2 hS) ?_
    refine wx_aload_n dX4_addKnot_50 rfl ?_
    refine wx_getI dX4_addKnot_51 fl_X4_39 (sc_40 hS) rfl ?_
    refine wx_iconst (v := 0) dX4_addKnot_54 (by decide) ?_
    obtain ⟨w_55, h⟩ := ok_some h
    refine wx_iast dX4_addKnot_55 (sc_43 hS) (ix_in w_55) ?_
    refine wx_namM (fun M_55 q_55 => ?_)
    replace h := nm_at h q_55
    refine wx_aload_n dX4_addKnot_56 rfl ?_
    refine wx_getR dX4_addKnot_57 fl_X4_21 (sc_40 hS) rfl (rr_40_3 hS) ?_
    refine wx_aload_n dX4_addKnot_60 rfl ?_
    refine wx_getI dX4_addKnot_61 fl_X4_39 (sc_40 hS) rfl ?_
    refine wx_iconst (v := 0) dX4_addKnot_64 (by decide) ?_
    obtain ⟨w_65, h⟩ := ok_some h
    refine wx_iast dX4_addKnot_65 (sc_44 hS) (ix_in w_65) ?_
    refine wx_namM (fun M_65 q_65 => ?_)
    replace h := nm_at h q_65
    refine wx_aload_n dX4_addKnot_66 rfl ?_
    refine wx_dup dX4_addKnot_67 rfl ?_
    refine wx_getI dX4_addKnot_68 fl_X4_39 (sc_40 hS) rfl ?_
    refine wx_nami (fun v_71 q_71 => ?_)
    replace h := nm_at h q_71
    refine wx_dup_x1 dX4_addKnot_71 rfl rfl ?_
    refine wx_iconst (v := 1) dX4_addKnot_72 (by decide) ?_
    refine wx_iadd dX4_addKnot_73 ?_
    refine wx_nami (fun v_74 q_74 => ?_)
    replace h := nm_at h q_74
    refine wx_putI dX4_addKnot_74 fl_X4_39 (sc_40 hS) (Or.inl rfl) rfl ⟨rfl, rfl⟩ ?_
    refine wx_namM (fun M_74 q_74 => ?_)
    replace h := nm_at h q_74
    refine wx_iret dX4_addKnot_77 hcu hsu ?_
    obtain rfl := Option.some.inj h
    exact g
  · replace h := it_t h c_6
    refine wx_iconst (v := (-1)) dX4_addKnot_9 (by decide) ?_
    refine wx_iret dX4_addKnot_10 hcu hsu ?_
    obtain rfl := Option.some.inj h
    exact g
noncomputable def f_X4_hasKnot (M : px_M) (p1 : Int32) : Option (Int32) :=
  bd1 (f_X11_within p1 0 ((M 40 5) - 1)) fun e_8 =>
  ok (zb e_8) <|
  some e_8
theorem s_X4_hasKnot {d : Nat} {X : Nat × (Nat → Int32)} {sh : px_Sh} {M : px_M} {L : px_L} {R : px_R} {n : Nat} {p1 : Int32} {e : Int32} (hS : SR sh R) (hd : 1 ≤ d) (h : f_X4_hasKnot M p1 = some e) : MX yX4_hasKnot cX4_hasKnot 2 (some .boolean) d 0 0 X [.ref 40, .int p1] sh M L R n (px_pu (some (.int e)) sh M L R n) := by
  refine MX.of (by decide +kernel) (by exact Nat.le_of_ble_eq_true rfl) ?_
  have hcu : 0 ≤ 0 := Nat.zero_le _
  have hsu : 0 ≤ 0 := Nat.zero_le _
  have g : px_pu (some (.int e)) sh M L R n (some (.int e)) sh M L R n := ⟨rfl, rfl, rfl, rfl, rfl, rfl⟩
  unfold f_X4_hasKnot at h
  refine wx_iload_n dX4_hasKnot_0 rfl ?_
  refine wx_iconst (v := 0) dX4_hasKnot_1 (by decide) ?_
  refine wx_aload_n dX4_hasKnot_2 rfl ?_
  refine wx_getI dX4_hasKnot_3 fl_X4_39 (sc_40 hS) rfl ?_
  refine wx_iconst (v := 1) dX4_hasKnot_6 (by decide) ?_
  refine wx_isub dX4_hasKnot_7 ?_
  obtain ⟨e_8, k_8, h⟩ := bd1_some h
  refine wx_cSi dX4_hasKnot_8 ml_X4_43 my_X11_within sv_X11_within (s_X11_within (d := d - 1) hS (by omega) k_8) rfl (by omega) (by exact Nat.le_of_ble_eq_true rfl) hcu hsu ?_
  obtain ⟨w_11, h⟩ := ok_some h
  refine wx_zret dX4_hasKnot_11 (zb_n w_11) hcu hsu ?_
  obtain rfl := Option.some.inj h
  exact g
noncomputable def f_X4_setPull (M : px_M) (p1 : Int32) (p2 : Int32) (p3 : Int32) : Option (px_M) :=
  nm (px_u M 40 9 0) fun M_2 =>
  ok (ix p1 6) <|
  nm (px_u M_2 43 p1.toNatClampNeg p2) fun M_11 =>
  ok (ix p1 6) <|
  nm (px_u M_11 44 p1.toNatClampNeg p3) fun M_18 =>
  some M_18
theorem s_X4_setPull {d : Nat} {X : Nat × (Nat → Int32)} {sh : px_Sh} {M : px_M} {L : px_L} {R : px_R} {n : Nat} {p1 : Int32} {p2 : Int32} {p3 : Int32} {e : px_M} (hS : SR sh R) (hd : 0 ≤ d) (h : f_X4_setPull M p1 p2 p3 = some e) : MX yX4_setPull cX4_setPull 4 none d 0 0 X [.ref 40, .int p1, .int p2, .int p3] sh M L R n (px_pu none sh e L R n) := by
  refine MX.of (by decide +kernel) (by exact Nat.le_of_ble_eq_true rfl) ?_
  have hcu : 0 ≤ 0 := Nat.zero_le _
  have hsu : 0 ≤ 0 := Nat.zero_le _
  have g : px_pu none sh e L R n none sh e L R n := ⟨rfl, rfl, rfl, rfl, rfl, rfl⟩
  unfold f_X4_setPull at h
  refine wx_aload_n dX4_setPull_0 rfl ?_
  refine wx_iconst (v := 0) dX4_setPull_1 (by decide) ?_
  refine wx_putI dX4_setPull_2 fl_X4_50 (sc_40 hS) (Or.inl rfl) rfl ⟨rfl, rfl⟩ ?_
  refine wx_namM (fun M_2 q_2 => ?_)
  replace h := nm_at h q_2
  refine wx_aload_n dX4_setPull_5 rfl ?_
  refine wx_getR dX4_setPull_6 fl_X4_18 (sc_40 hS) rfl (rr_40_2 hS) ?_
  refine wx_iload_n dX4_setPull_9 rfl ?_
  refine wx_iload_n dX4_setPull_10 rfl ?_
  obtain ⟨w_11, h⟩ := ok_some h
  refine wx_iast dX4_setPull_11 (sc_43 hS) (ix_in w_11) ?_
  refine wx_namM (fun M_11 q_11 => ?_)
  replace h := nm_at h q_11
  refine wx_aload_n dX4_setPull_12 rfl ?_
  refine wx_getR dX4_setPull_13 fl_X4_21 (sc_40 hS) rfl (rr_40_3 hS) ?_
  refine wx_iload_n dX4_setPull_16 rfl ?_
  refine wx_iload_n dX4_setPull_17 rfl ?_
  obtain ⟨w_18, h⟩ := ok_some h
  refine wx_iast dX4_setPull_18 (sc_44 hS) (ix_in w_18) ?_
  refine wx_namM (fun M_18 q_18 => ?_)
  replace h := nm_at h q_18
  refine wx_vret dX4_setPull_19 hcu hsu ?_
  obtain rfl := Option.some.inj h
  exact g
end LIFT
