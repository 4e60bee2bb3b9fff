/-! Net -/
section LIFT
variable {d mc ms : Nat} {X : Nat × (Nat → Int32)} {Post : px_Post} {sh : px_Sh} {n cu su : Nat}
noncomputable def f_X4_isTied_64 (M : px_M) (x1 : Int32) (x2 : Int32) (x3 : Int32) : Option ((Int32) ⊕ ((Unit) ⊕ (Unit))) :=
  some (.inl (x3 + 1))
theorem s_X4_isTied_64 {x1 : Int32} {x2 : Int32} {x3 : Int32} {M : px_M} {L : px_L} {R : px_R} {e : ((Int32) ⊕ ((Unit) ⊕ (Unit)))} (hS : SR sh R) (hd : 0 ≤ d) (hcu : cu ≤ mc) (hsu : su ≤ ms) (h : f_X4_isTied_64 M x1 x2 x3 = some e) (g : (sE (fun a => WX RX4 cX4_isTied 5 (some .boolean) ("isTied", []) d mc ms X (px_QF Post mc ms) 2 [(0, .ref 40), (1, .int x1), (2, .int x2), (3, .int a)] [] sh M L R n cu su) (sE (fun t => WX RX4 cX4_isTied 5 (some .boolean) ("isTied", []) d mc ms X (px_QF Post mc ms) 62 [] [] sh M L R n cu su) (fun t => WX RX4 cX4_isTied 5 (some .boolean) ("isTied", []) d mc ms X (px_QF Post mc ms) 70 [] [] sh M L R n cu su))) e) : WX RX4 cX4_isTied 5 (some .boolean) ("isTied", []) d mc ms X (px_QF Post mc ms) 64 [(0, .ref 40), (1, .int x1), (2, .int x2), (3, .int x3)] [] sh M L R n cu su := by
  unfold f_X4_isTied_64 at h
  refine wx_iinc (lv' := [(3, _), (0, _), (1, _), (2, _)]) dX4_isTied_64 rfl (i_1 _) (by decide) rfl ?_
  refine wx_goto (tgt := 2) dX4_isTied_67 (by decide) ?_
  obtain rfl := Option.some.inj h
  replace g := sE_l g
  exact wx_sub g (px_s rfl (px_s rfl (px_s rfl (px_s rfl px_0))))
noncomputable def f_X4_isTied_35 (M : px_M) (x1 : Int32) (x2 : Int32) (x3 : Int32) (z0 : Int32) : Option ((Int32) ⊕ ((Unit) ⊕ (Unit))) :=
  if z0 = 0 then
    ok (ix x3 6) <|
    if (M 46 x3.toNatClampNeg) = x2 then
      ok (ix x3 6) <|
      if (M 47 x3.toNatClampNeg) = x1 then
        some (.inr (.inl ()))
      else
        f_X4_isTied_64 M x1 x2 x3
    else
      f_X4_isTied_64 M x1 x2 x3
  else
    some (.inr (.inl ()))
theorem s_X4_isTied_35 {x1 : Int32} {x2 : Int32} {x3 : Int32} {z0 : Int32} {M : px_M} {L : px_L} {R : px_R} {e : ((Int32) ⊕ ((Unit) ⊕ (Unit)))} (hS : SR sh R) (hd : 0 ≤ d) (hcu : cu ≤ mc) (hsu : su ≤ ms) (h : f_X4_isTied_35 M x1 x2 x3 z0 = some e) (g : (sE (fun a => WX RX4 cX4_isTied 5 (some .boolean) ("isTied", []) d mc ms X (px_QF Post mc ms) 2 [(0, .ref 40), (1, .int x1), (2, .int x2), (3, .int a)] [] sh M L R n cu su) (sE (fun t => WX RX4 cX4_isTied 5 (some .boolean) ("isTied", []) d mc ms X (px_QF Post mc ms) 62 [] [] sh M L R n cu su) (fun t => WX RX4 cX4_isTied 5 (some .boolean) ("isTied", []) d mc ms X (px_QF Post mc ms) 70 [] [] sh M L R n cu su))) e) : WX RX4 cX4_isTied 5 (some .boolean) ("isTied", []) d mc ms X (px_QF Post mc ms) 35 [(0, .ref 40), (1, .int x1), (2, .int x2), (3, .int x3)] [.int z0] sh M L R n cu su := by
  unfold f_X4_isTied_35 at h
  refine wx_istore (lv' := [(4, _), (0, _), (1, _), (2, _), (3, _)]) dX4_isTied_35 (by decide) rfl ?_
  refine wx_iload dX4_isTied_37 rfl ?_
  refine wx_if_ne (tgt := 62) dX4_isTied_39 (by decide) (fun c_39 => ?_) (fun c_39 => ?_)
  · replace h := it_f h c_39
    obtain rfl := Option.some.inj h
    replace g := sE_l (sE_r g)
    exact wx_sub g px_0
  · replace h := it_t h c_39
    refine wx_aload_n dX4_isTied_42 rfl ?_
    refine wx_getR dX4_isTied_43 fl_X4_28 (sc_40 hS) rfl (rr_40_6 hS) ?_
    refine wx_iload_n dX4_isTied_46 rfl ?_
    obtain ⟨w_47, h⟩ := ok_some h
    refine wx_iald dX4_isTied_47 (sc_46 hS) (ix_in w_47) ?_
    refine wx_iload_n dX4_isTied_48 rfl ?_
    refine wx_icmp_ne (tgt := 64) dX4_isTied_49 (by decide) (fun c_49 => ?_) (fun c_49 => ?_)
    · replace h := it_f h c_49
      exact wx_sub (s_X4_isTied_64 hS hd hcu hsu h g) (px_s rfl (px_s rfl (px_s rfl (px_s rfl px_0))))
    · replace h := it_t h c_49
      refine wx_aload_n dX4_isTied_52 rfl ?_
      refine wx_getR dX4_isTied_53 fl_X4_31 (sc_40 hS) rfl (rr_40_7 hS) ?_
      refine wx_iload_n dX4_isTied_56 rfl ?_
      obtain ⟨w_57, h⟩ := ok_some h
      refine wx_iald dX4_isTied_57 (sc_47 hS) (ix_in w_57) ?_
      refine wx_iload_n dX4_isTied_58 rfl ?_
      refine wx_icmp_ne (tgt := 64) dX4_isTied_59 (by decide) (fun c_59 => ?_) (fun c_59 => ?_)
      · replace h := it_f h c_59
        exact wx_sub (s_X4_isTied_64 hS hd hcu hsu h g) (px_s rfl (px_s rfl (px_s rfl (px_s rfl px_0))))
      · replace h := it_t h c_59
        obtain rfl := Option.some.inj h
        replace g := sE_l (sE_r g)
        exact wx_sub g px_0
noncomputable def f_X4_isTied_34 (M : px_M) (x1 : Int32) (x2 : Int32) (x3 : Int32) : Option ((Int32) ⊕ ((Unit) ⊕ (Unit))) :=
  f_X4_isTied_35 M x1 x2 x3 0
theorem s_X4_isTied_34 {x1 : Int32} {x2 : Int32} {x3 : Int32} {M : px_M} {L : px_L} {R : px_R} {e : ((Int32) ⊕ ((Unit) ⊕ (Unit)))} (hS : SR sh R) (hd : 0 ≤ d) (hcu : cu ≤ mc) (hsu : su ≤ ms) (h : f_X4_isTied_34 M x1 x2 x3 = some e) (g : (sE (fun a => WX RX4 cX4_isTied 5 (some .boolean) ("isTied", []) d mc ms X (px_QF Post mc ms) 2 [(0, .ref 40), (1, .int x1), (2, .int x2), (3, .int a)] [] sh M L R n cu su) (sE (fun t => WX RX4 cX4_isTied 5 (some .boolean) ("isTied", []) d mc ms X (px_QF Post mc ms) 62 [] [] sh M L R n cu su) (fun t => WX RX4 cX4_isTied 5 (some .boolean) ("isTied", []) d mc ms X (px_QF Post mc ms) 70 [] [] sh M L R n cu su))) e) : WX RX4 cX4_isTied 5 (some .boolean) ("isTied", []) d mc ms X (px_QF Post mc ms) 34 [(0, .ref 40), (1, .int x1), (2, .int x2), (3, .int x3)] [] sh M L R n cu su := by
  unfold f_X4_isTied_34 at h
  refine wx_iconst (v := 0) dX4_isTied_34 (by decide) ?_
  exact wx_sub (s_X4_isTied_35 hS hd hcu hsu h g) (px_s rfl (px_s rfl (px_s rfl (px_s rfl px_0))))
noncomputable def f_X4_isTied_2 (M : px_M) (x1 : Int32) (x2 : Int32) (x3 : Int32) : Option ((Int32) ⊕ ((Unit) ⊕ (Unit))) :=
  if (M 40 8) ≤ x3 then
    some (.inr (.inr ()))
  else
    ok (ix x3 6) <|
    if (M 46 x3.toNatClampNeg) = x1 then
      ok (ix x3 6) <|
      if (M 47 x3.toNatClampNeg) = x2 then
        f_X4_isTied_35 M x1 x2 x3 1
      else
        f_X4_isTied_34 M x1 x2 x3
    else
      f_X4_isTied_34 M x1 x2 x3
theorem s_X4_isTied_2b {x1 : Int32} {x2 : Int32} {x3 : Int32} {M : px_M} {L : px_L} {R : px_R} {e : ((Int32) ⊕ ((Unit) ⊕ (Unit)))} (hS : SR sh R) (hd : 0 ≤ d) (hcu : cu ≤ mc) (hsu : su ≤ ms) (h : f_X4_isTied_2 M x1 x2 x3 = some e) (g : (sE (fun a => WX RX4 cX4_isTied 5 (some .boolean) ("isTied", []) d mc ms X (px_QF Post mc ms) 2 [(0, .ref 40), (1, .int x1), (2, .int x2), (3, .int a)] [] sh M L R n cu su) (sE (fun t => WX RX4 cX4_isTied 5 (some .boolean) ("isTied", []) d mc ms X (px_QF Post mc ms) 62 [] [] sh M L R n cu su) (fun t => WX RX4 cX4_isTied 5 (some .boolean) ("isTied", []) d mc ms X (px_QF Post mc ms) 70 [] [] sh M L R n cu su))) e) : WX RX4 cX4_isTied 5 (some .boolean) ("isTied", []) d mc ms X (px_QF Post mc ms) 2 [(0, .ref 40), (1, .int x1), (2, .int x2), (3, .int x3)] [] sh M L R n cu su := by
  unfold f_X4_isTied_2 at h
  refine wx_iload_n dX4_isTied_2 rfl ?_
  refine wx_aload_n dX4_isTied_3 rfl ?_
  refine wx_getI dX4_isTied_4 fl_X4_47 (sc_40 hS) rfl ?_
  refine wx_icmp_ge (tgt := 70) dX4_isTied_7 (by decide) (fun c_7 => ?_) (fun c_7 => ?_)
  · replace h := it_t h c_7
    obtain rfl := Option.some.inj h
    replace g := sE_r (sE_r g)
    exact wx_sub g px_0
  · replace h := it_f h c_7
    refine wx_aload_n dX4_isTied_10 rfl ?_
    refine wx_getR dX4_isTied_11 fl_X4_28 (sc_40 hS) rfl (rr_40_6 hS) ?_
    refine wx_iload_n dX4_isTied_14 rfl ?_
    obtain ⟨w_15, h⟩ := ok_some h
    refine wx_iald dX4_isTied_15 (sc_46 hS) (ix_in w_15) ?_
    refine wx_iload_n dX4_isTied_16 rfl ?_
    refine wx_icmp_ne (tgt := 34) dX4_isTied_17 (by decide) (fun c_17 => ?_) (fun c_17 => ?_)
    · replace h := it_f h c_17
      exact wx_sub (s_X4_isTied_34 hS hd hcu hsu h g) (px_s rfl (px_s rfl (px_s rfl (px_s rfl px_0))))
    · replace h := it_t h c_17
      refine wx_aload_n dX4_isTied_20 rfl ?_
      refine wx_getR dX4_isTied_21 fl_X4_31 (sc_40 hS) rfl (rr_40_7 hS) ?_
      refine wx_iload_n dX4_isTied_24 rfl ?_
      obtain ⟨w_25, h⟩ := ok_some h
      refine wx_iald dX4_isTied_25 (sc_47 hS) (ix_in w_25) ?_
      refine wx_iload_n dX4_isTied_26 rfl ?_
      refine wx_icmp_ne (tgt := 34) dX4_isTied_27 (by decide) (fun c_27 => ?_) (fun c_27 => ?_)
      · replace h := it_f h c_27
        exact wx_sub (s_X4_isTied_34 hS hd hcu hsu h g) (px_s rfl (px_s rfl (px_s rfl (px_s rfl px_0))))
      · replace h := it_t h c_27
        refine wx_iconst (v := 1) dX4_isTied_30 (by decide) ?_
        refine wx_goto (tgt := 35) dX4_isTied_31 (by decide) ?_
        exact wx_sub (s_X4_isTied_35 hS hd hcu hsu h g) (px_s rfl (px_s rfl (px_s rfl (px_s rfl px_0))))
theorem s_X4_isTied_2 {x1 : Int32} {x2 : Int32} {x3 : Int32} {M : px_M} {L : px_L} {R : px_R} {e : ((Unit) ⊕ (Unit))} (hS : SR sh R) (hd : 0 ≤ d) (hcu : cu ≤ mc) (hsu : su ≤ ms) (h : lpf (fun a : Int32 => f_X4_isTied_2 M x1 x2 a) x3 = some e) (g : (sE (fun t => WX RX4 cX4_isTied 5 (some .boolean) ("isTied", []) d mc ms X (px_QF Post mc ms) 62 [] [] sh M L R n cu su) (fun t => WX RX4 cX4_isTied 5 (some .boolean) ("isTied", []) d mc ms X (px_QF Post mc ms) 70 [] [] sh M L R n cu su)) e) : WX RX4 cX4_isTied 5 (some .boolean) ("isTied", []) d mc ms X (px_QF Post mc ms) 2 [(0, .ref 40), (1, .int x1), (2, .int x2), (3, .int x3)] [] sh M L R n cu su := by
  have key := lpf_wp (P := (fun a => WX RX4 cX4_isTied 5 (some .boolean) ("isTied", []) d mc ms X (px_QF Post mc ms) 2 [(0, .ref 40), (1, .int x1), (2, .int x2), (3, .int a)] [] sh M L R n cu su)) (G := (sE (fun t => WX RX4 cX4_isTied 5 (some .boolean) ("isTied", []) d mc ms X (px_QF Post mc ms) 62 [] [] sh M L R n cu su) (fun t => WX RX4 cX4_isTied 5 (some .boolean) ("isTied", []) d mc ms X (px_QF Post mc ms) 70 [] [] sh M L R n cu su))) (fun a r h g => s_X4_isTied_2b (x1 := x1) (x2 := x2) (x3 := a) (M := M) (L := L) (R := R) hS hd hcu hsu h g) (a := x3) h g
  exact key
noncomputable def f_X4_isTied (M : px_M) (p1 : Int32) (p2 : Int32) : Option (Int32) :=
  bdS (lpf (fun a : Int32 => f_X4_isTied_2 M p1 p2 a) 0) (fun t_2_0 =>
  some 1) (fun u_2_0 =>
  some 0)
theorem s_X4_isTied {d : Nat} {X : Nat × (Nat → Int32)} {sh : px_Sh} {M : px_M} {L : px_L} {R : px_R} {n : Nat} {p1 : Int32} {p2 : Int32} {e : Int32} (hS : SR sh R) (hd : 0 ≤ d) (h : f_X4_isTied M p1 p2 = some e) : MX yX4_isTied cX4_isTied 5 (some .boolean) d 0 0 X [.ref 40, .int p1, .int p2] sh M L R n (px_pu (some (.int e)) sh M L R n) := by
  refine MX.of (by decide +kernel) (by exact Nat.le_of_ble_eq_true rfl) ?_
  have hcu : 0 ≤ 0 := Nat.zero_le _
  have hsu : 0 ≤ 0 := Nat.zero_le _
  have g : px_pu (some (.int e)) sh M L R n (some (.int e)) sh M L R n := ⟨rfl, rfl, rfl, rfl, rfl, rfl⟩
  unfold f_X4_isTied at h
  refine wx_iconst (v := 0) dX4_isTied_0 (by decide) ?_
  refine wx_istore_n (lv' := [(3, _), (0, _), (1, _), (2, _)]) dX4_isTied_1 (by decide) rfl ?_
  rcases bdS_some h with ⟨t_2_0, k_2_0, h⟩ | ⟨u_2_0, k_2_0, h⟩
  · refine wx_sub (s_X4_isTied_2 hS hd hcu hsu k_2_0 (sE_li ?_)) (px_s rfl (px_s rfl (px_s rfl (px_s rfl px_0))))
    refine wx_iconst (v := 1) dX4_isTied_62 (by decide) ?_
    refine wx_zret dX4_isTied_63 rfl hcu hsu ?_
    obtain rfl := Option.some.inj h
    exact g
  · refine wx_sub (s_X4_isTied_2 hS hd hcu hsu k_2_0 (sE_ri ?_)) (px_s rfl (px_s rfl (px_s rfl (px_s rfl px_0))))
    refine wx_iconst (v := 0) dX4_isTied_70 (by decide) ?_
    refine wx_zret dX4_isTied_71 rfl hcu hsu ?_
    obtain rfl := Option.some.inj h
    exact g
noncomputable def f_X4_addString_44 (M : px_M) (x1 : Int32) (x2 : Int32) : Option (Int32 × px_M) :=
  bd1 (f_X4_isTied M x1 x2) fun e_47 =>
  if e_47 = 0 then
    nm (px_u M 40 9 0) fun M_58 =>
    ok (ix (M_58 40 8) 6) <|
    nm (px_u M_58 46 (M_58 40 8).toNatClampNeg x1) fun M_70 =>
    ok (ix (M_70 40 8) 6) <|
    nm (px_u M_70 47 (M_70 40 8).toNatClampNeg x2) fun M_80 =>
    nm (M_80 40 8) fun v_86 =>
    nm (v_86 + 1) fun v_89 =>
    nm (px_u M_80 40 8 v_89) fun M_89 =>
    some (v_86, M_89)
  else
    some ((-3), M)
theorem s_X4_addString_44 {x1 : Int32} {x2 : Int32} {M : px_M} {L : px_L} {R : px_R} {e : (Int32 × px_M)} (hS : SR sh R) (hd : 1 ≤ d) (hcu : cu ≤ mc) (hsu : su ≤ ms) (h : f_X4_addString_44 M x1 x2 = some e) (g : Post (some (.int (e.1))) sh (e.2) L R n) : WX RX4 cX4_addString 3 (some .int) ("addString", []) d mc ms X (px_QF Post mc ms) 44 [(0, .ref 40), (1, .int x1), (2, .int x2)] [] sh M L R n cu su := by
  unfold f_X4_addString_44 at h
  refine wx_aload_n dX4_addString_44 rfl ?_
  refine wx_iload_n dX4_addString_45 rfl ?_
  refine wx_iload_n dX4_addString_46 rfl ?_
  obtain ⟨e_47, k_47, h⟩ := bd1_some h
  refine wx_cVi dX4_addString_47 ml_X4_54 my_X4_isTied iv_X4_isTied (sc_40 hS) (by decide) (s_X4_isTied (d := d - 1) hS (by omega) k_47) rfl (by omega) (by exact Nat.le_of_ble_eq_true rfl) hcu hsu ?_
  refine wx_if_eq (tgt := 56) dX4_addString_50 (by decide) (fun c_50 => ?_) (fun c_50 => ?_)
  · replace h := it_t h c_50
    refine wx_aload_n dX4_addString_56 rfl ?_
    refine wx_iconst (v := 0) dX4_addString_57 (by decide) ?_
    refine wx_putI dX4_addString_58 fl_X4_50 (sc_40 hS) (Or.inl rfl) rfl ⟨rfl, rfl⟩ ?_
    refine wx_namM (fun M_58 q_58 => ?_)
    replace h := nm_at h q_58
    refine wx_aload_n dX4_addString_61 rfl ?_
    refine wx_getR dX4_addString_62 fl_X4_28 (sc_40 hS) rfl (rr_40_6 hS) ?_
    refine wx_aload_n dX4_addString_65 rfl ?_
    refine wx_getI dX4_addString_66 fl_X4_47 (sc_40 hS) rfl ?_
    refine wx_iload_n dX4_addString_69 rfl ?_
    obtain ⟨w_70, h⟩ := ok_some h
    refine wx_iast dX4_addString_70 (sc_46 hS) (ix_in w_70) ?_
    refine wx_namM (fun M_70 q_70 => ?_)
    replace h := nm_at h q_70
    refine wx_aload_n dX4_addString_71 rfl ?_
    refine wx_getR dX4_addString_72 fl_X4_31 (sc_40 hS) rfl (rr_40_7 hS) ?_
    refine wx_aload_n dX4_addString_75 rfl ?_
    refine wx_getI dX4_addString_76 fl_X4_47 (sc_40 hS) rfl ?_
    refine wx_iload_n dX4_addString_79 rfl ?_
    obtain ⟨w_80, h⟩ := ok_some h
    refine wx_iast dX4_addString_80 (sc_47 hS) (ix_in w_80) ?_
    refine wx_namM (fun M_80 q_80 => ?_)
    replace h := nm_at h q_80
    refine wx_aload_n dX4_addString_81 rfl ?_
    refine wx_dup dX4_addString_82 rfl ?_
    refine wx_getI dX4_addString_83 fl_X4_47 (sc_40 hS) rfl ?_
    refine wx_nami (fun v_86 q_86 => ?_)
    replace h := nm_at h q_86
    refine wx_dup_x1 dX4_addString_86 rfl rfl ?_
    refine wx_iconst (v := 1) dX4_addString_87 (by decide) ?_
    refine wx_iadd dX4_addString_88 ?_
    refine wx_nami (fun v_89 q_89 => ?_)
    replace h := nm_at h q_89
    refine wx_putI dX4_addString_89 fl_X4_47 (sc_40 hS) (Or.inl rfl) rfl ⟨rfl, rfl⟩ ?_
    refine wx_namM (fun M_89 q_89 => ?_)
    replace h := nm_at h q_89
    refine wx_iret dX4_addString_92 hcu hsu ?_
    obtain rfl := Option.some.inj h
    exact g
  · replace h := it_f h c_50
    refine wx_bipush (v := (-3)) dX4_addString_53 (by decide) ?_
    refine wx_iret dX4_addString_55 hcu hsu ?_
    obtain rfl := Option.some.inj h
    exact g
noncomputable def f_X4_addString (M : px_M) (p1 : Int32) (p2 : Int32) : Option (Int32 × px_M) :=
  if (M 40 8) = 6 then
    some ((-1), M)
  else
    ok (ix p1 6) <|
    ok (ix p2 6) <|
    if (M 41 p1.toNatClampNeg) = (M 41 p2.toNatClampNeg) then
      ok (ix p1 6) <|
      ok (ix p2 6) <|
      if (M 42 p1.toNatClampNeg) = (M 42 p2.toNatClampNeg) then
        some ((-2), M)
      else
        f_X4_addString_44 M p1 p2
    else
      f_X4_addString_44 M p1 p2
theorem s_X4_addString {d : Nat} {X : Nat × (Nat → Int32)} {sh : px_Sh} {M : px_M} {L : px_L} {R : px_R} {n : Nat} {p1 : Int32} {p2 : Int32} {e : Int32 × px_M} (hS : SR sh R) (hd : 1 ≤ d) (h : f_X4_addString M p1 p2 = some e) : MX yX4_addString cX4_addString 3 (some .int) d 0 0 X [.ref 40, .int p1, .int p2] sh M L R n (px_pu (some (.int e.1)) sh e.2 L R n) := by
  refine MX.of (by decide +kernel) (by exact Nat.le_of_ble_eq_true rfl) ?_
  have hcu : 0 ≤ 0 := Nat.zero_le _
  have hsu : 0 ≤ 0 := Nat.zero_le _
  have g : px_pu (some (.int e.1)) sh e.2 L R n (some (.int e.1)) sh e.2 L R n := ⟨rfl, rfl, rfl, rfl, rfl, rfl⟩
  unfold f_X4_addString at h
  refine wx_aload_n dX4_addString_0 rfl ?_
  refine wx_getI dX4_addString_1 fl_X4_47 (sc_40 hS) rfl ?_
  refine wx_bipush (v := 6) dX4_addString_4 (by decide) ?_
  refine wx_icmp_ne (tgt := 11) dX4_addString_6 (by decide) (fun c_6 => ?_) (fun c_6 => ?_)
  · replace h := it_f h c_6
    refine wx_aload_n dX4_addString_11 rfl ?_
    refine wx_getR dX4_addString_12 fl_X4_11 (sc_40 hS) rfl (rr_40_0 hS) ?_
    refine wx_iload_n dX4_addString_15 rfl ?_
    obtain ⟨w_16, h⟩ := ok_some h
    refine wx_iald dX4_addString_16 (sc_41 hS) (ix_in w_16) ?_
    refine wx_aload_n dX4_addString_17 rfl ?_
    refine wx_getR dX4_addString_18 fl_X4_11 (sc_40 hS) rfl (rr_40_0 hS) ?_
    refine wx_iload_n dX4_addString_21 rfl ?_
    obtain ⟨w_22, h⟩ := ok_some h
    refine wx_iald dX4_addString_22 (sc_41 hS) (ix_in w_22) ?_
    refine wx_icmp_ne (tgt := 44) dX4_addString_23 (by decide) (fun c_23 => ?_) (fun c_23 => ?_)
    · replace h := it_f h c_23
      exact wx_sub (s_X4_addString_44 hS hd hcu hsu h g) (px_s rfl (px_s rfl (px_s rfl px_0)))
    · replace h := it_t h c_23
      refine wx_aload_n dX4_addString_26 rfl ?_
      refine wx_getR dX4_addString_27 fl_X4_15 (sc_40 hS) rfl (rr_40_1 hS) ?_
      refine wx_iload_n dX4_addString_30 rfl ?_
      obtain ⟨w_31, h⟩ := ok_some h
      refine wx_iald dX4_addString_31 (sc_42 hS) (ix_in w_31) ?_
      refine wx_aload_n dX4_addString_32 rfl ?_
      refine wx_getR dX4_addString_33 fl_X4_15 (sc_40 hS) rfl (rr_40_1 hS) ?_
      refine wx_iload_n dX4_addString_36 rfl ?_
      obtain ⟨w_37, h⟩ := ok_some h
      refine wx_iald dX4_addString_37 (sc_42 hS) (ix_in w_37) ?_
      refine wx_icmp_ne (tgt := 44) dX4_addString_38 (by decide) (fun c_38 => ?_) (fun c_38 => ?_)
      · replace h := it_f h c_38
        exact wx_sub (s_X4_addString_44 hS hd hcu hsu h g) (px_s rfl (px_s rfl (px_s rfl px_0)))
      · replace h := it_t h c_38
        refine wx_bipush (v := (-2)) dX4_addString_41 (by decide) ?_
        refine wx_iret dX4_addString_43 hcu hsu ?_
        obtain rfl := Option.some.inj h
        exact g
  · replace h := it_t h c_6
    refine wx_iconst (v := (-1)) dX4_addString_9 (by decide) ?_
    refine wx_iret dX4_addString_10 hcu hsu ?_
    obtain rfl := Option.some.inj h
    exact g
noncomputable def f_X4_hasString (M : px_M) (p1 : Int32) : Option (Int32) :=
  bd1 (f_X11_within p1 0 ((M 40 8) - 1)) fun e_8 =>
  ok (zb e_8) <|
  some e_8
theorem s_X4_hasString {d : Nat} {X : Nat × (Nat → Int32)} {sh : px_Sh} {M : px_M} {L : px_L} {R : px_R} {n : Nat} {p1 : Int32} {e : Int32} (hS : SR sh R) (hd : 1 ≤ d) (h : f_X4_hasString M p1 = some e) : MX yX4_hasString cX4_hasString 2 (some .boolean) d 0 0 X [.ref 40, .int p1] sh M L R n (px_pu (some (.int e)) sh M L R n) := by
  refine MX.of (by decide +kernel) (by exact Nat.le_of_ble_eq_true rfl) ?_
  have hcu : 0 ≤ 0 := Nat.zero_le _
  have hsu : 0 ≤ 0 := Nat.zero_le _
  have g : px_pu (some (.int e)) sh M L R n (some (.int e)) sh M L R n := ⟨rfl, rfl, rfl, rfl, rfl, rfl⟩
  unfold f_X4_hasString at h
  refine wx_iload_n dX4_hasString_0 rfl ?_
  refine wx_iconst (v := 0) dX4_hasString_1 (by decide) ?_
  refine wx_aload_n dX4_hasString_2 rfl ?_
  refine wx_getI dX4_hasString_3 fl_X4_47 (sc_40 hS) rfl ?_
  refine wx_iconst (v := 1) dX4_hasString_6 (by decide) ?_
  refine wx_isub dX4_hasString_7 ?_
  obtain ⟨e_8, k_8, h⟩ := bd1_some h
  refine wx_cSi dX4_hasString_8 ml_X4_43 my_X11_within sv_X11_within (s_X11_within (d := d - 1) hS (by omega) k_8) rfl (by omega) (by exact Nat.le_of_ble_eq_true rfl) hcu hsu ?_
  obtain ⟨w_11, h⟩ := ok_some h
  refine wx_zret dX4_hasString_11 (zb_n w_11) hcu hsu ?_
  obtain rfl := Option.some.inj h
  exact g
end LIFT
