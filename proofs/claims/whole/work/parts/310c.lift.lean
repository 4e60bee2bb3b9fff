/-! the reference -/
section LIFT
variable {d mc ms : Nat} {X : Nat × (Nat → Int32)} {Post : px_Post} {sh : px_Sh} {n cu su : Nat}
noncomputable def f_X12_turn_31 (M : px_M) (x1 : Int32) (x2 : Int32) (z0 : Int32) : Option (Int32 × px_M) :=
  bd1 (f_X12_bad M z0 1) fun e_32 =>
  if e_32.1 = 0 then
    bd1 (f_X12_turned e_32.2 x1 x2) fun e_43 =>
    some (e_43, e_32.2)
  else
    some (0, e_32.2)
theorem s_X12_turn_31 {x1 : Int32} {x2 : Int32} {z0 : Int32} {M : px_M} {L : px_L} {R : px_R} {e : (Int32 × px_M)} (hS : SR sh R) (hd : 4 ≤ d) (hcu : cu ≤ mc) (hsu : su ≤ ms) (h : f_X12_turn_31 M x1 x2 z0 = some e) (g : Post (some (.int (e.1))) sh (e.2) L R n) : WX RX12 cX12_turn 3 (some .int) ("turn", []) d mc ms X (px_QF Post mc ms) 31 [(0, .ref 73), (1, .int x1), (2, .int x2)] [.int z0, .ref 73] sh M L R n cu su := by
  unfold f_X12_turn_31 at h
  refine wx_iconst (v := 1) dX12_turn_31 (by decide) ?_
  obtain ⟨e_32, k_32, h⟩ := bd1_some h
  refine wx_cVi dX12_turn_32 ml_X12_207 my_X12_bad iv_X12_bad (sc_73 hS) (by decide) (s_X12_bad (d := d - 1) hS (by omega) k_32) rfl (by omega) (by exact Nat.le_of_ble_eq_true rfl) hcu hsu ?_
  refine wx_if_eq (tgt := 40) dX12_turn_35 (by decide) (fun c_35 => ?_) (fun c_35 => ?_)
  · replace h := it_t h c_35
    refine wx_aload_n dX12_turn_40 rfl ?_
    refine wx_iload_n dX12_turn_41 rfl ?_
    refine wx_iload_n dX12_turn_42 rfl ?_
    obtain ⟨e_43, k_43, h⟩ := bd1_some h
    refine wx_cVi dX12_turn_43 ml_X12_286 my_X12_turned iv_X12_turned (sc_73 hS) (by decide) (s_X12_turned (d := d - 1) hS (by omega) k_43) rfl (by omega) (by exact Nat.le_of_ble_eq_true rfl) hcu hsu ?_
    refine wx_iret dX12_turn_46 hcu hsu ?_
    obtain rfl := Option.some.inj h
    exact g
  · replace h := it_f h c_35
    refine wx_iconst (v := 0) dX12_turn_38 (by decide) ?_
    refine wx_iret dX12_turn_39 hcu hsu ?_
    obtain rfl := Option.some.inj h
    exact g
noncomputable def f_X12_turn_26 (M : px_M) (x1 : Int32) (x2 : Int32) : Option (Int32 × px_M) :=
  f_X12_turn_31 M x1 x2 1
theorem s_X12_turn_26 {x1 : Int32} {x2 : Int32} {M : px_M} {L : px_L} {R : px_R} {e : (Int32 × px_M)} (hS : SR sh R) (hd : 4 ≤ d) (hcu : cu ≤ mc) (hsu : su ≤ ms) (h : f_X12_turn_26 M x1 x2 = some e) (g : Post (some (.int (e.1))) sh (e.2) L R n) : WX RX12 cX12_turn 3 (some .int) ("turn", []) d mc ms X (px_QF Post mc ms) 26 [(0, .ref 73), (1, .int x1), (2, .int x2)] [.ref 73] sh M L R n cu su := by
  unfold f_X12_turn_26 at h
  refine wx_iconst (v := 1) dX12_turn_26 (by decide) ?_
  refine wx_goto (tgt := 31) dX12_turn_27 (by decide) ?_
  exact wx_sub (s_X12_turn_31 hS hd hcu hsu h g) (px_s rfl (px_s rfl (px_s rfl px_0)))
noncomputable def f_X12_turn (M : px_M) (p1 : Int32) (p2 : Int32) : Option (Int32 × px_M) :=
  nm (px_u M 73 0 0) fun M_2 =>
  bd1 (f_X12_in p1 (-8) 8) fun e_11 =>
  if e_11 = 0 then
    f_X12_turn_26 M_2 p1 p2
  else
    bd1 (f_X12_in p2 0 1) fun e_20 =>
    if e_20 = 0 then
      f_X12_turn_26 M_2 p1 p2
    else
      f_X12_turn_31 M_2 p1 p2 0
theorem s_X12_turn {d : Nat} {X : Nat × (Nat → Int32)} {sh : px_Sh} {M : px_M} {L : px_L} {R : px_R} {n : Nat} {p1 : Int32} {p2 : Int32} {e : Int32 × px_M} (hS : SR sh R) (hd : 4 ≤ d) (h : f_X12_turn M p1 p2 = some e) : MX yX12_turn cX12_turn 3 (some .int) d 0 0 X [.ref 73, .int p1, .int p2] sh M L R n (px_pu (some (.int e.1)) sh e.2 L R n) := by
  refine MX.of (by decide +kernel) (by exact Nat.le_of_ble_eq_true rfl) ?_
  have hcu : 0 ≤ 0 := Nat.zero_le _
  have hsu : 0 ≤ 0 := Nat.zero_le _
  have g : px_pu (some (.int e.1)) sh e.2 L R n (some (.int e.1)) sh e.2 L R n := ⟨rfl, rfl, rfl, rfl, rfl, rfl⟩
  unfold f_X12_turn at h
  refine wx_aload_n dX12_turn_0 rfl ?_
  refine wx_iconst (v := 0) dX12_turn_1 (by decide) ?_
  refine wx_putI dX12_turn_2 fl_X12_179 (sc_73 hS) (Or.inl rfl) rfl ⟨rfl, rfl⟩ ?_
  refine wx_namM (fun M_2 q_2 => ?_)
  replace h := nm_at h q_2
  refine wx_aload_n dX12_turn_5 rfl ?_
  refine wx_iload_n dX12_turn_6 rfl ?_
  refine wx_bipush (v := (-8)) dX12_turn_7 (by decide) ?_
  refine wx_bipush (v := 8) dX12_turn_9 (by decide) ?_
  obtain ⟨e_11, k_11, h⟩ := bd1_some h
  refine wx_cSi dX12_turn_11 ml_X12_203 my_X12_in sv_X12_in (s_X12_in (d := d - 1) hS (by omega) k_11) rfl (by omega) (by exact Nat.le_of_ble_eq_true rfl) hcu hsu ?_
  refine wx_if_eq (tgt := 26) dX12_turn_14 (by decide) (fun c_14 => ?_) (fun c_14 => ?_)
  · replace h := it_t h c_14
    exact wx_sub (s_X12_turn_26 hS hd hcu hsu h g) (px_s rfl (px_s rfl (px_s rfl px_0)))
  · replace h := it_f h c_14
    refine wx_iload_n dX12_turn_17 rfl ?_
    refine wx_iconst (v := 0) dX12_turn_18 (by decide) ?_
    refine wx_iconst (v := 1) dX12_turn_19 (by decide) ?_
    obtain ⟨e_20, k_20, h⟩ := bd1_some h
    refine wx_cSi dX12_turn_20 ml_X12_203 my_X12_in sv_X12_in (s_X12_in (d := d - 1) hS (by omega) k_20) rfl (by omega) (by exact Nat.le_of_ble_eq_true rfl) hcu hsu ?_
    refine wx_if_ne (tgt := 30) dX12_turn_23 (by decide) (fun c_23 => ?_) (fun c_23 => ?_)
    · replace h := it_f h c_23
      refine wx_iconst (v := 0) dX12_turn_30 (by decide) ?_
      exact wx_sub (s_X12_turn_31 hS hd hcu hsu h g) (px_s rfl (px_s rfl (px_s rfl px_0)))
    · replace h := it_t h c_23
      exact wx_sub (s_X12_turn_26 hS hd hcu hsu h g) (px_s rfl (px_s rfl (px_s rfl px_0)))
noncomputable def f_X12_world_42 (M : px_M) (x1 : Int32) (x2 : Int32) (x3 : Int32) (z0 : Int32) : Option (Int32 × px_M) :=
  bd1 (f_X12_bad M z0 1) fun e_43 =>
  if e_43.1 = 0 then
    if (e_43.2 73 27) = 4 then
      some ((-1), e_43.2)
    else
      ok (ix (e_43.2 73 27) 4) <|
      nm (px_u e_43.2 90 (e_43.2 73 27).toNatClampNeg x1) fun M_70 =>
      ok (ix (M_70 73 27) 4) <|
      nm (px_u M_70 91 (M_70 73 27).toNatClampNeg x2) fun M_80 =>
      ok (ix (M_80 73 27) 4) <|
      nm (px_u M_80 92 (M_80 73 27).toNatClampNeg x3) fun M_90 =>
      nm ((M_90 73 27) + 1) fun v_98 =>
      nm (px_u M_90 73 27 v_98) fun M_98 =>
      some (((M_98 73 27) - 1), M_98)
  else
    some (0, e_43.2)
theorem s_X12_world_42 {x1 : Int32} {x2 : Int32} {x3 : Int32} {z0 : Int32} {M : px_M} {L : px_L} {R : px_R} {e : (Int32 × px_M)} (hS : SR sh R) (hd : 1 ≤ d) (hcu : cu ≤ mc) (hsu : su ≤ ms) (h : f_X12_world_42 M x1 x2 x3 z0 = some e) (g : Post (some (.int (e.1))) sh (e.2) L R n) : WX RX12 cX12_world 4 (some .int) ("world", []) d mc ms X (px_QF Post mc ms) 42 [(0, .ref 73), (1, .int x1), (2, .int x2), (3, .int x3)] [.int z0, .ref 73] sh M L R n cu su := by
  unfold f_X12_world_42 at h
  refine wx_iconst (v := 1) dX12_world_42 (by decide) ?_
  obtain ⟨e_43, k_43, h⟩ := bd1_some h
  refine wx_cVi dX12_world_43 ml_X12_207 my_X12_bad iv_X12_bad (sc_73 hS) (by decide) (s_X12_bad (d := d - 1) hS (by omega) k_43) rfl (by omega) (by exact Nat.le_of_ble_eq_true rfl) hcu hsu ?_
  refine wx_if_eq (tgt := 51) dX12_world_46 (by decide) (fun c_46 => ?_) (fun c_46 => ?_)
  · replace h := it_t h c_46
    refine wx_aload_n dX12_world_51 rfl ?_
    refine wx_getI dX12_world_52 fl_X12_289 (sc_73 hS) rfl ?_
    refine wx_iconst (v := 4) dX12_world_55 (by decide) ?_
    refine wx_icmp_ne (tgt := 61) dX12_world_56 (by decide) (fun c_56 => ?_) (fun c_56 => ?_)
    · replace h := it_f h c_56
      refine wx_aload_n dX12_world_61 rfl ?_
      refine wx_getR dX12_world_62 fl_X12_66 (sc_73 hS) rfl (rr_73_29 hS) ?_
      refine wx_aload_n dX12_world_65 rfl ?_
      refine wx_getI dX12_world_66 fl_X12_289 (sc_73 hS) rfl ?_
      refine wx_iload_n dX12_world_69 rfl ?_
      obtain ⟨w_70, h⟩ := ok_some h
      refine wx_iast dX12_world_70 (sc_90 hS) (ix_in w_70) ?_
      refine wx_namM (fun M_70 q_70 => ?_)
      replace h := nm_at h q_70
      refine wx_aload_n dX12_world_71 rfl ?_
      refine wx_getR dX12_world_72 fl_X12_69 (sc_73 hS) rfl (rr_73_30 hS) ?_
      refine wx_aload_n dX12_world_75 rfl ?_
      refine wx_getI dX12_world_76 fl_X12_289 (sc_73 hS) rfl ?_
      refine wx_iload_n dX12_world_79 rfl ?_
      obtain ⟨w_80, h⟩ := ok_some h
      refine wx_iast dX12_world_80 (sc_91 hS) (ix_in w_80) ?_
      refine wx_namM (fun M_80 q_80 => ?_)
      replace h := nm_at h q_80
      refine wx_aload_n dX12_world_81 rfl ?_
      refine wx_getR dX12_world_82 fl_X12_72 (sc_73 hS) rfl (rr_73_31 hS) ?_
      refine wx_aload_n dX12_world_85 rfl ?_
      refine wx_getI dX12_world_86 fl_X12_289 (sc_73 hS) rfl ?_
      refine wx_iload_n dX12_world_89 rfl ?_
      obtain ⟨w_90, h⟩ := ok_some h
      refine wx_iast dX12_world_90 (sc_92 hS) (ix_in w_90) ?_
      refine wx_namM (fun M_90 q_90 => ?_)
      replace h := nm_at h q_90
      refine wx_aload_n dX12_world_91 rfl ?_
      refine wx_dup dX12_world_92 rfl ?_
      refine wx_getI dX12_world_93 fl_X12_289 (sc_73 hS) rfl ?_
      refine wx_iconst (v := 1) dX12_world_96 (by decide) ?_
      refine wx_iadd dX12_world_97 ?_
      refine wx_nami (fun v_98 q_98 => ?_)
      replace h := nm_at h q_98
      refine wx_putI dX12_world_98 fl_X12_289 (sc_73 hS) (Or.inl rfl) rfl ⟨rfl, rfl⟩ ?_
      refine wx_namM (fun M_98 q_98 => ?_)
      replace h := nm_at h q_98
      refine wx_aload_n dX12_world_101 rfl ?_
      refine wx_getI dX12_world_102 fl_X12_289 (sc_73 hS) rfl ?_
      refine wx_iconst (v := 1) dX12_world_105 (by decide) ?_
      refine wx_isub dX12_world_106 ?_
      refine wx_iret dX12_world_107 hcu hsu ?_
      obtain rfl := Option.some.inj h
      exact g
    · replace h := it_t h c_56
      refine wx_iconst (v := (-1)) dX12_world_59 (by decide) ?_
      refine wx_iret dX12_world_60 hcu hsu ?_
      obtain rfl := Option.some.inj h
      exact g
  · replace h := it_f h c_46
    refine wx_iconst (v := 0) dX12_world_49 (by decide) ?_
    refine wx_iret dX12_world_50 hcu hsu ?_
    obtain rfl := Option.some.inj h
    exact g
noncomputable def f_X12_world_37 (M : px_M) (x1 : Int32) (x2 : Int32) (x3 : Int32) : Option (Int32 × px_M) :=
  f_X12_world_42 M x1 x2 x3 1
theorem s_X12_world_37 {x1 : Int32} {x2 : Int32} {x3 : Int32} {M : px_M} {L : px_L} {R : px_R} {e : (Int32 × px_M)} (hS : SR sh R) (hd : 1 ≤ d) (hcu : cu ≤ mc) (hsu : su ≤ ms) (h : f_X12_world_37 M x1 x2 x3 = some e) (g : Post (some (.int (e.1))) sh (e.2) L R n) : WX RX12 cX12_world 4 (some .int) ("world", []) d mc ms X (px_QF Post mc ms) 37 [(0, .ref 73), (1, .int x1), (2, .int x2), (3, .int x3)] [.ref 73] sh M L R n cu su := by
  unfold f_X12_world_37 at h
  refine wx_iconst (v := 1) dX12_world_37 (by decide) ?_
  refine wx_goto (tgt := 42) dX12_world_38 (by decide) ?_
  exact wx_sub (s_X12_world_42 hS hd hcu hsu h g) (px_s rfl (px_s rfl (px_s rfl (px_s rfl px_0))))
noncomputable def f_X12_world (M : px_M) (p1 : Int32) (p2 : Int32) (p3 : Int32) : Option (Int32 × px_M) :=
  nm (px_u M 73 0 0) fun M_2 =>
  bd1 (f_X12_in p1 0 255) fun e_11 =>
  if e_11 = 0 then
    f_X12_world_37 M_2 p1 p2 p3
  else
    bd1 (f_X12_in p2 0 71) fun e_21 =>
    if e_21 = 0 then
      f_X12_world_37 M_2 p1 p2 p3
    else
      bd1 (f_X12_in p3 0 10) fun e_31 =>
      if e_31 = 0 then
        f_X12_world_37 M_2 p1 p2 p3
      else
        f_X12_world_42 M_2 p1 p2 p3 0
theorem s_X12_world {d : Nat} {X : Nat × (Nat → Int32)} {sh : px_Sh} {M : px_M} {L : px_L} {R : px_R} {n : Nat} {p1 : Int32} {p2 : Int32} {p3 : Int32} {e : Int32 × px_M} (hS : SR sh R) (hd : 1 ≤ d) (h : f_X12_world M p1 p2 p3 = some e) : MX yX12_world cX12_world 4 (some .int) d 0 0 X [.ref 73, .int p1, .int p2, .int p3] sh M L R n (px_pu (some (.int e.1)) sh e.2 L R n) := by
  refine MX.of (by decide +kernel) (by exact Nat.le_of_ble_eq_true rfl) ?_
  have hcu : 0 ≤ 0 := Nat.zero_le _
  have hsu : 0 ≤ 0 := Nat.zero_le _
  have g : px_pu (some (.int e.1)) sh e.2 L R n (some (.int e.1)) sh e.2 L R n := ⟨rfl, rfl, rfl, rfl, rfl, rfl⟩
  unfold f_X12_world at h
  refine wx_aload_n dX12_world_0 rfl ?_
  refine wx_iconst (v := 0) dX12_world_1 (by decide) ?_
  refine wx_putI dX12_world_2 fl_X12_179 (sc_73 hS) (Or.inl rfl) rfl ⟨rfl, rfl⟩ ?_
  refine wx_namM (fun M_2 q_2 => ?_)
  replace h := nm_at h q_2
  refine wx_aload_n dX12_world_5 rfl ?_
  refine wx_iload_n dX12_world_6 rfl ?_
  refine wx_iconst (v := 0) dX12_world_7 (by decide) ?_
  refine wx_sipush (v := 255) dX12_world_8 (by decide) ?_
  obtain ⟨e_11, k_11, h⟩ := bd1_some h
  refine wx_cSi dX12_world_11 ml_X12_203 my_X12_in sv_X12_in (s_X12_in (d := d - 1) hS (by omega) k_11) rfl (by omega) (by exact Nat.le_of_ble_eq_true rfl) hcu hsu ?_
  refine wx_if_eq (tgt := 37) dX12_world_14 (by decide) (fun c_14 => ?_) (fun c_14 => ?_)
  · replace h := it_t h c_14
    exact wx_sub (s_X12_world_37 hS hd hcu hsu h g) (px_s rfl (px_s rfl (px_s rfl (px_s rfl px_0))))
  · replace h := it_f h c_14
    refine wx_iload_n dX12_world_17 rfl ?_
    refine wx_iconst (v := 0) dX12_world_18 (by decide) ?_
    refine wx_bipush (v := 71) dX12_world_19 (by decide) ?_
    obtain ⟨e_21, k_21, h⟩ := bd1_some h
    refine wx_cSi dX12_world_21 ml_X12_203 my_X12_in sv_X12_in (s_X12_in (d := d - 1) hS (by omega) k_21) rfl (by omega) (by exact Nat.le_of_ble_eq_true rfl) hcu hsu ?_
    refine wx_if_eq (tgt := 37) dX12_world_24 (by decide) (fun c_24 => ?_) (fun c_24 => ?_)
    · replace h := it_t h c_24
      exact wx_sub (s_X12_world_37 hS hd hcu hsu h g) (px_s rfl (px_s rfl (px_s rfl (px_s rfl px_0))))
    · replace h := it_f h c_24
      refine wx_iload_n dX12_world_27 rfl ?_
      refine wx_iconst (v := 0) dX12_world_28 (by decide) ?_
      refine wx_bipush (v := 10) dX12_world_29 (by decide) ?_
      obtain ⟨e_31, k_31, h⟩ := bd1_some h
      refine wx_cSi dX12_world_31 ml_X12_203 my_X12_in sv_X12_in (s_X12_in (d := d - 1) hS (by omega) k_31) rfl (by omega) (by exact Nat.le_of_ble_eq_true rfl) hcu hsu ?_
      refine wx_if_ne (tgt := 41) dX12_world_34 (by decide) (fun c_34 => ?_) (fun c_34 => ?_)
      · replace h := it_f h c_34
        refine wx_iconst (v := 0) dX12_world_41 (by decide) ?_
        exact wx_sub (s_X12_world_42 hS hd hcu hsu h g) (px_s rfl (px_s rfl (px_s rfl (px_s rfl px_0))))
      · replace h := it_t h c_34
        exact wx_sub (s_X12_world_37 hS hd hcu hsu h g) (px_s rfl (px_s rfl (px_s rfl (px_s rfl px_0))))
noncomputable def f_X12_angleOf (M : px_M) (p1 : Int32) (p2 : Int32) : Option (Int32) :=
  ok (ix p1 4) <|
  ok (ix p1 4) <|
  some (((M 91 p1.toNatClampNeg) + ((M 92 p1.toNatClampNeg) * p2)) - ((M 91 p1.toNatClampNeg) + ((M 92 p1.toNatClampNeg) * p2)) / 72 * 72)
theorem s_X12_angleOf {d : Nat} {X : Nat × (Nat → Int32)} {sh : px_Sh} {M : px_M} {L : px_L} {R : px_R} {n : Nat} {p1 : Int32} {p2 : Int32} {e : Int32} (hS : SR sh R) (hd : 0 ≤ d) (h : f_X12_angleOf M p1 p2 = some e) : MX yX12_angleOf cX12_angleOf 3 (some .int) d 0 0 X [.ref 73, .int p1, .int p2] sh M L R n (px_pu (some (.int e)) sh M L R n) := by
  refine MX.of (by decide +kernel) (by exact Nat.le_of_ble_eq_true rfl) ?_
  have hcu : 0 ≤ 0 := Nat.zero_le _
  have hsu : 0 ≤ 0 := Nat.zero_le _
  have g : px_pu (some (.int e)) sh M L R n (some (.int e)) sh M L R n := ⟨rfl, rfl, rfl, rfl, rfl, rfl⟩
  unfold f_X12_angleOf at h
  refine wx_aload_n dX12_angleOf_0 rfl ?_
  refine wx_getR dX12_angleOf_1 fl_X12_69 (sc_73 hS) rfl (rr_73_30 hS) ?_
  refine wx_iload_n dX12_angleOf_4 rfl ?_
  obtain ⟨w_5, h⟩ := ok_some h
  refine wx_iald dX12_angleOf_5 (sc_91 hS) (ix_in w_5) ?_
  refine wx_aload_n dX12_angleOf_6 rfl ?_
  refine wx_getR dX12_angleOf_7 fl_X12_72 (sc_73 hS) rfl (rr_73_31 hS) ?_
  refine wx_iload_n dX12_angleOf_10 rfl ?_
  obtain ⟨w_11, h⟩ := ok_some h
  refine wx_iald dX12_angleOf_11 (sc_92 hS) (ix_in w_11) ?_
  refine wx_iload_n dX12_angleOf_12 rfl ?_
  refine wx_imul dX12_angleOf_13 ?_
  refine wx_iadd dX12_angleOf_14 ?_
  refine wx_bipush (v := 72) dX12_angleOf_15 (by decide) ?_
  refine wx_irem dX12_angleOf_17 (by decide) ?_
  refine wx_iret dX12_angleOf_18 hcu hsu ?_
  obtain rfl := Option.some.inj h
  exact g
noncomputable def f_X12_angle_56 (M : px_M) : Option (Int32 × px_M) :=
  some (0, M)
theorem s_X12_angle_56 {M : px_M} {L : px_L} {R : px_R} {e : (Int32 × px_M)} (hS : SR sh R) (hd : 1 ≤ d) (hcu : cu ≤ mc) (hsu : su ≤ ms) (h : f_X12_angle_56 M = some e) (g : Post (some (.int (e.1))) sh (e.2) L R n) : WX RX12 cX12_angle 3 (some .int) ("angle", []) d mc ms X (px_QF Post mc ms) 56 [] [] sh M L R n cu su := by
  unfold f_X12_angle_56 at h
  refine wx_iconst (v := 0) dX12_angle_56 (by decide) ?_
  refine wx_iret dX12_angle_57 hcu hsu ?_
  obtain rfl := Option.some.inj h
  exact g
noncomputable def f_X12_angle_49 (M : px_M) (x1 : Int32) (x2 : Int32) (z0 : Int32) : Option (Int32 × px_M) :=
  bd1 (f_X12_bad M z0 2) fun e_50 =>
  if e_50.1 = 0 then
    bd1 (f_X12_angleOf e_50.2 x1 x2) fun e_61 =>
    some (e_61, e_50.2)
  else
    f_X12_angle_56 e_50.2
theorem s_X12_angle_49 {x1 : Int32} {x2 : Int32} {z0 : Int32} {M : px_M} {L : px_L} {R : px_R} {e : (Int32 × px_M)} (hS : SR sh R) (hd : 1 ≤ d) (hcu : cu ≤ mc) (hsu : su ≤ ms) (h : f_X12_angle_49 M x1 x2 z0 = some e) (g : Post (some (.int (e.1))) sh (e.2) L R n) : WX RX12 cX12_angle 3 (some .int) ("angle", []) d mc ms X (px_QF Post mc ms) 49 [(0, .ref 73), (1, .int x1), (2, .int x2)] [.int z0, .ref 73] sh M L R n cu su := by
  unfold f_X12_angle_49 at h
  refine wx_iconst (v := 2) dX12_angle_49 (by decide) ?_
  obtain ⟨e_50, k_50, h⟩ := bd1_some h
  refine wx_cVi dX12_angle_50 ml_X12_207 my_X12_bad iv_X12_bad (sc_73 hS) (by decide) (s_X12_bad (d := d - 1) hS (by omega) k_50) rfl (by omega) (by exact Nat.le_of_ble_eq_true rfl) hcu hsu ?_
  refine wx_if_eq (tgt := 58) dX12_angle_53 (by decide) (fun c_53 => ?_) (fun c_53 => ?_)
  · replace h := it_t h c_53
    refine wx_aload_n dX12_angle_58 rfl ?_
    refine wx_iload_n dX12_angle_59 rfl ?_
    refine wx_iload_n dX12_angle_60 rfl ?_
    obtain ⟨e_61, k_61, h⟩ := bd1_some h
    refine wx_cVi dX12_angle_61 ml_X12_292 my_X12_angleOf iv_X12_angleOf (sc_73 hS) (by decide) (s_X12_angleOf (d := d - 1) hS (by omega) k_61) rfl (by omega) (by exact Nat.le_of_ble_eq_true rfl) hcu hsu ?_
    refine wx_iret dX12_angle_64 hcu hsu ?_
    obtain rfl := Option.some.inj h
    exact g
  · replace h := it_f h c_53
    exact wx_sub (s_X12_angle_56 hS hd hcu hsu h g) px_0
noncomputable def f_X12_angle_25 (M : px_M) (x1 : Int32) (x2 : Int32) (z0 : Int32) : Option (Int32 × px_M) :=
  bd1 (f_X12_bad M z0 1) fun e_26 =>
  if e_26.1 = 0 then
    bd1 (f_X12_in x2 0 3000) fun e_38 =>
    if e_38 = 0 then
      f_X12_angle_49 e_26.2 x1 x2 1
    else
      f_X12_angle_49 e_26.2 x1 x2 0
  else
    f_X12_angle_56 e_26.2
theorem s_X12_angle_25 {x1 : Int32} {x2 : Int32} {z0 : Int32} {M : px_M} {L : px_L} {R : px_R} {e : (Int32 × px_M)} (hS : SR sh R) (hd : 1 ≤ d) (hcu : cu ≤ mc) (hsu : su ≤ ms) (h : f_X12_angle_25 M x1 x2 z0 = some e) (g : Post (some (.int (e.1))) sh (e.2) L R n) : WX RX12 cX12_angle 3 (some .int) ("angle", []) d mc ms X (px_QF Post mc ms) 25 [(0, .ref 73), (1, .int x1), (2, .int x2)] [.int z0, .ref 73] sh M L R n cu su := by
  unfold f_X12_angle_25 at h
  refine wx_iconst (v := 1) dX12_angle_25 (by decide) ?_
  obtain ⟨e_26, k_26, h⟩ := bd1_some h
  refine wx_cVi dX12_angle_26 ml_X12_207 my_X12_bad iv_X12_bad (sc_73 hS) (by decide) (s_X12_bad (d := d - 1) hS (by omega) k_26) rfl (by omega) (by exact Nat.le_of_ble_eq_true rfl) hcu hsu ?_
  refine wx_if_ne (tgt := 56) dX12_angle_29 (by decide) (fun c_29 => ?_) (fun c_29 => ?_)
  · replace h := it_f h c_29
    exact wx_sub (s_X12_angle_56 hS hd hcu hsu h g) px_0
  · replace h := it_t h c_29
    refine wx_aload_n dX12_angle_32 rfl ?_
    refine wx_iload_n dX12_angle_33 rfl ?_
    refine wx_iconst (v := 0) dX12_angle_34 (by decide) ?_
    refine wx_sipush (v := 3000) dX12_angle_35 (by decide) ?_
    obtain ⟨e_38, k_38, h⟩ := bd1_some h
    refine wx_cSi dX12_angle_38 ml_X12_203 my_X12_in sv_X12_in (s_X12_in (d := d - 1) hS (by omega) k_38) rfl (by omega) (by exact Nat.le_of_ble_eq_true rfl) hcu hsu ?_
    refine wx_if_ne (tgt := 48) dX12_angle_41 (by decide) (fun c_41 => ?_) (fun c_41 => ?_)
    · replace h := it_f h c_41
      refine wx_iconst (v := 0) dX12_angle_48 (by decide) ?_
      exact wx_sub (s_X12_angle_49 hS hd hcu hsu h g) (px_s rfl (px_s rfl (px_s rfl px_0)))
    · replace h := it_t h c_41
      refine wx_iconst (v := 1) dX12_angle_44 (by decide) ?_
      refine wx_goto (tgt := 49) dX12_angle_45 (by decide) ?_
      exact wx_sub (s_X12_angle_49 hS hd hcu hsu h g) (px_s rfl (px_s rfl (px_s rfl px_0)))
noncomputable def f_X12_angle (M : px_M) (p1 : Int32) (p2 : Int32) : Option (Int32 × px_M) :=
  nm (px_u M 73 0 0) fun M_2 =>
  bd1 (f_X12_in p1 0 ((M_2 73 27) - 1)) fun e_14 =>
  if e_14 = 0 then
    f_X12_angle_25 M_2 p1 p2 1
  else
    f_X12_angle_25 M_2 p1 p2 0
theorem s_X12_angle {d : Nat} {X : Nat × (Nat → Int32)} {sh : px_Sh} {M : px_M} {L : px_L} {R : px_R} {n : Nat} {p1 : Int32} {p2 : Int32} {e : Int32 × px_M} (hS : SR sh R) (hd : 1 ≤ d) (h : f_X12_angle M p1 p2 = some e) : MX yX12_angle cX12_angle 3 (some .int) d 0 0 X [.ref 73, .int p1, .int p2] sh M L R n (px_pu (some (.int e.1)) sh e.2 L R n) := by
  refine MX.of (by decide +kernel) (by exact Nat.le_of_ble_eq_true rfl) ?_
  have hcu : 0 ≤ 0 := Nat.zero_le _
  have hsu : 0 ≤ 0 := Nat.zero_le _
  have g : px_pu (some (.int e.1)) sh e.2 L R n (some (.int e.1)) sh e.2 L R n := ⟨rfl, rfl, rfl, rfl, rfl, rfl⟩
  unfold f_X12_angle at h
  refine wx_aload_n dX12_angle_0 rfl ?_
  refine wx_iconst (v := 0) dX12_angle_1 (by decide) ?_
  refine wx_putI dX12_angle_2 fl_X12_179 (sc_73 hS) (Or.inl rfl) rfl ⟨rfl, rfl⟩ ?_
  refine wx_namM (fun M_2 q_2 => ?_)
  replace h := nm_at h q_2
  refine wx_aload_n dX12_angle_5 rfl ?_
  refine wx_iload_n dX12_angle_6 rfl ?_
  refine wx_iconst (v := 0) dX12_angle_7 (by decide) ?_
  refine wx_aload_n dX12_angle_8 rfl ?_
  refine wx_getI dX12_angle_9 fl_X12_289 (sc_73 hS) rfl ?_
  refine wx_iconst (v := 1) dX12_angle_12 (by decide) ?_
  refine wx_isub dX12_angle_13 ?_
  obtain ⟨e_14, k_14, h⟩ := bd1_some h
  refine wx_cSi dX12_angle_14 ml_X12_203 my_X12_in sv_X12_in (s_X12_in (d := d - 1) hS (by omega) k_14) rfl (by omega) (by exact Nat.le_of_ble_eq_true rfl) hcu hsu ?_
  refine wx_if_ne (tgt := 24) dX12_angle_17 (by decide) (fun c_17 => ?_) (fun c_17 => ?_)
  · replace h := it_f h c_17
    refine wx_iconst (v := 0) dX12_angle_24 (by decide) ?_
    exact wx_sub (s_X12_angle_25 hS hd hcu hsu h g) (px_s rfl (px_s rfl (px_s rfl px_0)))
  · replace h := it_t h c_17
    refine wx_iconst (v := 1) dX12_angle_20 (by decide) ?_
    refine wx_goto (tgt := 25) dX12_angle_21 (by decide) ?_
    exact wx_sub (s_X12_angle_25 hS hd hcu hsu h g) (px_s rfl (px_s rfl (px_s rfl px_0)))
noncomputable def f_X12_strength_29 (M : px_M) (z0 : Int32) : Option (Int32) :=
  some z0
theorem s_X12_strength_29 {z0 : Int32} {M : px_M} {L : px_L} {R : px_R} {e : (Int32)} (hS : SR sh R) (hd : 4 ≤ d) (hcu : cu ≤ mc) (hsu : su ≤ ms) (h : f_X12_strength_29 M z0 = some e) (g : Post (some (.int e)) sh M L R n) : WX RX12 cX12_strength 2 (some .int) ("strength", []) d mc ms X (px_QF Post mc ms) 29 [] [.int z0] sh M L R n cu su := by
  unfold f_X12_strength_29 at h
  refine wx_iret dX12_strength_29 hcu hsu ?_
  obtain rfl := Option.some.inj h
  exact g
noncomputable def f_X12_strength (M : px_M) : Option (Int32) :=
  bd1 (f_X12_sumY M 3) fun e_2 =>
  nm (e_2 / 100) fun v_8 =>
  if 0 ≤ v_8 then
    if v_8 ≤ 20 then
      f_X12_strength_29 M v_8
    else
      f_X12_strength_29 M 20
  else
    f_X12_strength_29 M 0
theorem s_X12_strength {d : Nat} {X : Nat × (Nat → Int32)} {sh : px_Sh} {M : px_M} {L : px_L} {R : px_R} {n : Nat} {e : Int32} (hS : SR sh R) (hd : 4 ≤ d) (h : f_X12_strength M = some e) : MX yX12_strength cX12_strength 2 (some .int) d 0 0 X [.ref 73] sh M L R n (px_pu (some (.int e)) sh M L R n) := by
  refine MX.of (by decide +kernel) (by exact Nat.le_of_ble_eq_true rfl) ?_
  have hcu : 0 ≤ 0 := Nat.zero_le _
  have hsu : 0 ≤ 0 := Nat.zero_le _
  have g : px_pu (some (.int e)) sh M L R n (some (.int e)) sh M L R n := ⟨rfl, rfl, rfl, rfl, rfl, rfl⟩
  unfold f_X12_strength at h
  refine wx_aload_n dX12_strength_0 rfl ?_
  refine wx_iconst (v := 3) dX12_strength_1 (by decide) ?_
  obtain ⟨e_2, k_2, h⟩ := bd1_some h
  refine wx_cVi dX12_strength_2 ml_X12_276 my_X12_sumY iv_X12_sumY (sc_73 hS) (by decide) (s_X12_sumY (d := d - 1) hS (by omega) k_2) rfl (by omega) (by exact Nat.le_of_ble_eq_true rfl) hcu hsu ?_
  refine wx_bipush (v := 100) dX12_strength_5 (by decide) ?_
  refine wx_idiv dX12_strength_7 (by decide) ?_
  refine wx_nami (fun v_8 q_8 => ?_)
  replace h := nm_at h q_8
  refine wx_istore_n (lv' := [(1, _), (0, _)]) dX12_strength_8 (by decide) rfl ?_
  refine wx_iload_n dX12_strength_9 rfl ?_
  refine wx_if_ge (tgt := 17) dX12_strength_10 (by decide) (fun c_10 => ?_) (fun c_10 => ?_)
  · replace h := it_t h c_10
    refine wx_iload_n dX12_strength_17 rfl ?_
    refine wx_bipush (v := 20) dX12_strength_18 (by decide) ?_
    refine wx_icmp_le (tgt := 28) dX12_strength_20 (by decide) (fun c_20 => ?_) (fun c_20 => ?_)
    · replace h := it_t h c_20
      refine wx_iload_n dX12_strength_28 rfl ?_
      exact wx_sub (s_X12_strength_29 hS hd hcu hsu h g) px_0
    · replace h := it_f h c_20
      refine wx_bipush (v := 20) dX12_strength_23 (by decide) ?_
      refine wx_goto (tgt := 29) dX12_strength_25 (by decide) ?_
      exact wx_sub (s_X12_strength_29 hS hd hcu hsu h g) px_0
  · replace h := it_f h c_10
    refine wx_iconst (v := 0) dX12_strength_13 (by decide) ?_
    refine wx_goto (tgt := 29) dX12_strength_14 (by decide) ?_
    exact wx_sub (s_X12_strength_29 hS hd hcu hsu h g) px_0
noncomputable def f_X12_isMet_47 (M : px_M) (z0 : Int32) : Option (Int32) :=
  ok (zb z0) <|
  some z0
theorem s_X12_isMet_47 {z0 : Int32} {M : px_M} {L : px_L} {R : px_R} {e : (Int32)} (hS : SR sh R) (hd : 1 ≤ d) (hcu : cu ≤ mc) (hsu : su ≤ ms) (h : f_X12_isMet_47 M z0 = some e) (g : Post (some (.int e)) sh M L R n) : WX RX12 cX12_isMet 6 (some .boolean) ("isMet", []) d mc ms X (px_QF Post mc ms) 47 [] [.int z0] sh M L R n cu su := by
  unfold f_X12_isMet_47 at h
  obtain ⟨w_47, h⟩ := ok_some h
  refine wx_zret dX12_isMet_47 (zb_n w_47) hcu hsu ?_
  obtain rfl := Option.some.inj h
  exact g
noncomputable def f_X12_isMet_46 (M : px_M) : Option (Int32) :=
  f_X12_isMet_47 M 0
theorem s_X12_isMet_46 {M : px_M} {L : px_L} {R : px_R} {e : (Int32)} (hS : SR sh R) (hd : 1 ≤ d) (hcu : cu ≤ mc) (hsu : su ≤ ms) (h : f_X12_isMet_46 M = some e) (g : Post (some (.int e)) sh M L R n) : WX RX12 cX12_isMet 6 (some .boolean) ("isMet", []) d mc ms X (px_QF Post mc ms) 46 [] [] sh M L R n cu su := by
  unfold f_X12_isMet_46 at h
  refine wx_iconst (v := 0) dX12_isMet_46 (by decide) ?_
  exact wx_sub (s_X12_isMet_47 hS hd hcu hsu h g) px_0
noncomputable def f_X12_isMet_42 (M : px_M) : Option (Int32) :=
  f_X12_isMet_47 M 1
theorem s_X12_isMet_42 {M : px_M} {L : px_L} {R : px_R} {e : (Int32)} (hS : SR sh R) (hd : 1 ≤ d) (hcu : cu ≤ mc) (hsu : su ≤ ms) (h : f_X12_isMet_42 M = some e) (g : Post (some (.int e)) sh M L R n) : WX RX12 cX12_isMet 6 (some .boolean) ("isMet", []) d mc ms X (px_QF Post mc ms) 42 [] [] sh M L R n cu su := by
  unfold f_X12_isMet_42 at h
  refine wx_iconst (v := 1) dX12_isMet_42 (by decide) ?_
  refine wx_goto (tgt := 47) dX12_isMet_43 (by decide) ?_
  exact wx_sub (s_X12_isMet_47 hS hd hcu hsu h g) px_0
noncomputable def f_X12_isMet (M : px_M) (p1 : Int32) (p2 : Int32) (p3 : Int32) (p4 : Int32) : Option (Int32) :=
  bd1 (f_X12_angleOf M p1 p4) fun e_4 =>
  bd1 (f_X12_amount (e_4 - p3)) fun e_9 =>
  ok (ix p1 4) <|
  bd1 (f_X12_amount ((M 90 p1.toNatClampNeg) - p2)) fun e_22 =>
  if 4 < e_22 then
    f_X12_isMet_46 M
  else
    if e_9 ≤ 2 then
      f_X12_isMet_42 M
    else
      if e_9 < 70 then
        f_X12_isMet_46 M
      else
        f_X12_isMet_42 M
theorem s_X12_isMet {d : Nat} {X : Nat × (Nat → Int32)} {sh : px_Sh} {M : px_M} {L : px_L} {R : px_R} {n : Nat} {p1 : Int32} {p2 : Int32} {p3 : Int32} {p4 : Int32} {e : Int32} (hS : SR sh R) (hd : 1 ≤ d) (h : f_X12_isMet M p1 p2 p3 p4 = some e) : MX yX12_isMet cX12_isMet 6 (some .boolean) d 0 0 X [.ref 73, .int p1, .int p2, .int p3, .int p4] sh M L R n (px_pu (some (.int e)) sh M L R n) := by
  refine MX.of (by decide +kernel) (by exact Nat.le_of_ble_eq_true rfl) ?_
  have hcu : 0 ≤ 0 := Nat.zero_le _
  have hsu : 0 ≤ 0 := Nat.zero_le _
  have g : px_pu (some (.int e)) sh M L R n (some (.int e)) sh M L R n := ⟨rfl, rfl, rfl, rfl, rfl, rfl⟩
  unfold f_X12_isMet at h
  refine wx_aload_n dX12_isMet_0 rfl ?_
  refine wx_iload_n dX12_isMet_1 rfl ?_
  refine wx_iload dX12_isMet_2 rfl ?_
  obtain ⟨e_4, k_4, h⟩ := bd1_some h
  refine wx_cVi dX12_isMet_4 ml_X12_292 my_X12_angleOf iv_X12_angleOf (sc_73 hS) (by decide) (s_X12_angleOf (d := d - 1) hS (by omega) k_4) rfl (by omega) (by exact Nat.le_of_ble_eq_true rfl) hcu hsu ?_
  refine wx_iload_n dX12_isMet_7 rfl ?_
  refine wx_isub dX12_isMet_8 ?_
  obtain ⟨e_9, k_9, h⟩ := bd1_some h
  refine wx_cSi dX12_isMet_9 ml_X12_237 my_X12_amount sv_X12_amount (s_X12_amount (d := d - 1) hS (by omega) k_9) rfl (by omega) (by exact Nat.le_of_ble_eq_true rfl) hcu hsu ?_
  refine wx_istore (lv' := [(5, _), (0, _), (1, _), (2, _), (3, _), (4, _)]) dX12_isMet_12 (by decide) rfl ?_
  refine wx_aload_n dX12_isMet_14 rfl ?_
  refine wx_getR dX12_isMet_15 fl_X12_66 (sc_73 hS) rfl (rr_73_29 hS) ?_
  refine wx_iload_n dX12_isMet_18 rfl ?_
  obtain ⟨w_19, h⟩ := ok_some h
  refine wx_iald dX12_isMet_19 (sc_90 hS) (ix_in w_19) ?_
  refine wx_iload_n dX12_isMet_20 rfl ?_
  refine wx_isub dX12_isMet_21 ?_
  obtain ⟨e_22, k_22, h⟩ := bd1_some h
  refine wx_cSi dX12_isMet_22 ml_X12_237 my_X12_amount sv_X12_amount (s_X12_amount (d := d - 1) hS (by omega) k_22) rfl (by omega) (by exact Nat.le_of_ble_eq_true rfl) hcu hsu ?_
  refine wx_iconst (v := 4) dX12_isMet_25 (by decide) ?_
  refine wx_icmp_gt (tgt := 46) dX12_isMet_26 (by decide) (fun c_26 => ?_) (fun c_26 => ?_)
  · replace h := it_t h c_26
    exact wx_sub (s_X12_isMet_46 hS hd hcu hsu h g) px_0
  · replace h := it_f h c_26
    refine wx_iload dX12_isMet_29 rfl ?_
    refine wx_iconst (v := 2) dX12_isMet_31 (by decide) ?_
    refine wx_icmp_le (tgt := 42) dX12_isMet_32 (by decide) (fun c_32 => ?_) (fun c_32 => ?_)
    · replace h := it_t h c_32
      exact wx_sub (s_X12_isMet_42 hS hd hcu hsu h g) px_0
    · replace h := it_f h c_32
      refine wx_iload dX12_isMet_35 rfl ?_
      refine wx_bipush (v := 70) dX12_isMet_37 (by decide) ?_
      refine wx_icmp_lt (tgt := 46) dX12_isMet_39 (by decide) (fun c_39 => ?_) (fun c_39 => ?_)
      · replace h := it_t h c_39
        exact wx_sub (s_X12_isMet_46 hS hd hcu hsu h g) px_0
      · replace h := it_f h c_39
        exact wx_sub (s_X12_isMet_42 hS hd hcu hsu h g) px_0
noncomputable def f_X12_stepsAt (p0 : Int32) (p1 : Int32) : Option (Int32) :=
  ok (nz (p0 + 32) 0) <|
  some (1 + ((p1 * 32) / (p0 + 32)))
theorem s_X12_stepsAt {d : Nat} {X : Nat × (Nat → Int32)} {sh : px_Sh} {M : px_M} {L : px_L} {R : px_R} {n : Nat} {p0 : Int32} {p1 : Int32} {e : Int32} (hS : SR sh R) (hd : 0 ≤ d) (h : f_X12_stepsAt p0 p1 = some e) : MX yX12_stepsAt cX12_stepsAt 2 (some .int) d 0 0 X [.int p0, .int p1] sh M L R n (px_pu (some (.int e)) sh M L R n) := by
  refine MX.of (by decide +kernel) (by exact Nat.le_of_ble_eq_true rfl) ?_
  have hcu : 0 ≤ 0 := Nat.zero_le _
  have hsu : 0 ≤ 0 := Nat.zero_le _
  have g : px_pu (some (.int e)) sh M L R n (some (.int e)) sh M L R n := ⟨rfl, rfl, rfl, rfl, rfl, rfl⟩
  unfold f_X12_stepsAt at h
  refine wx_iconst (v := 1) dX12_stepsAt_0 (by decide) ?_
  refine wx_iload_n dX12_stepsAt_1 rfl ?_
  refine wx_bipush (v := 32) dX12_stepsAt_2 (by decide) ?_
  refine wx_imul dX12_stepsAt_4 ?_
  refine wx_iload_n dX12_stepsAt_5 rfl ?_
  refine wx_bipush (v := 32) dX12_stepsAt_6 (by decide) ?_
  refine wx_iadd dX12_stepsAt_8 ?_
  obtain ⟨w_9, h⟩ := ok_some h
  refine wx_idiv dX12_stepsAt_9 (nz_n w_9) ?_
  refine wx_iadd dX12_stepsAt_10 ?_
  refine wx_iret dX12_stepsAt_11 hcu hsu ?_
  obtain rfl := Option.some.inj h
  exact g
noncomputable def f_X12_turnAt (p0 : Int32) (p1 : Int32) : Option (Int32) :=
  ok (nz (p0 + 32) 0) <|
  some (((p1 + 1) + (320 / (p0 + 32))) - ((p1 + 1) + (320 / (p0 + 32))) / 72 * 72)
theorem s_X12_turnAt {d : Nat} {X : Nat × (Nat → Int32)} {sh : px_Sh} {M : px_M} {L : px_L} {R : px_R} {n : Nat} {p0 : Int32} {p1 : Int32} {e : Int32} (hS : SR sh R) (hd : 0 ≤ d) (h : f_X12_turnAt p0 p1 = some e) : MX yX12_turnAt cX12_turnAt 2 (some .int) d 0 0 X [.int p0, .int p1] sh M L R n (px_pu (some (.int e)) sh M L R n) := by
  refine MX.of (by decide +kernel) (by exact Nat.le_of_ble_eq_true rfl) ?_
  have hcu : 0 ≤ 0 := Nat.zero_le _
  have hsu : 0 ≤ 0 := Nat.zero_le _
  have g : px_pu (some (.int e)) sh M L R n (some (.int e)) sh M L R n := ⟨rfl, rfl, rfl, rfl, rfl, rfl⟩
  unfold f_X12_turnAt at h
  refine wx_iload_n dX12_turnAt_0 rfl ?_
  refine wx_iconst (v := 1) dX12_turnAt_1 (by decide) ?_
  refine wx_iadd dX12_turnAt_2 ?_
  refine wx_sipush (v := 320) dX12_turnAt_3 (by decide) ?_
  refine wx_iload_n dX12_turnAt_6 rfl ?_
  refine wx_bipush (v := 32) dX12_turnAt_7 (by decide) ?_
  refine wx_iadd dX12_turnAt_9 ?_
  obtain ⟨w_10, h⟩ := ok_some h
  refine wx_idiv dX12_turnAt_10 (nz_n w_10) ?_
  refine wx_iadd dX12_turnAt_11 ?_
  refine wx_bipush (v := 72) dX12_turnAt_12 (by decide) ?_
  refine wx_irem dX12_turnAt_14 (by decide) ?_
  refine wx_iret dX12_turnAt_15 hcu hsu ?_
  obtain rfl := Option.some.inj h
  exact g
noncomputable def f_X12_goesTo_60 (z0 : Int32) : Option (Int32) :=
  some z0
theorem s_X12_goesTo_60 {z0 : Int32} {M : px_M} {L : px_L} {R : px_R} {e : (Int32)} (hS : SR sh R) (hd : 1 ≤ d) (hcu : cu ≤ mc) (hsu : su ≤ ms) (h : f_X12_goesTo_60 z0 = some e) (g : Post (some (.int e)) sh M L R n) : WX RX12 cX12_goesTo 5 (some .int) ("goesTo", []) d mc ms X (px_QF Post mc ms) 60 [] [.int z0] sh M L R n cu su := by
  unfold f_X12_goesTo_60 at h
  refine wx_iret dX12_goesTo_60 hcu hsu ?_
  obtain rfl := Option.some.inj h
  exact g
noncomputable def f_X12_goesTo_45 : Option (Int32) :=
  f_X12_goesTo_60 (-1)
theorem s_X12_goesTo_45 {M : px_M} {L : px_L} {R : px_R} {e : (Int32)} (hS : SR sh R) (hd : 1 ≤ d) (hcu : cu ≤ mc) (hsu : su ≤ ms) (h : f_X12_goesTo_45 = some e) (g : Post (some (.int e)) sh M L R n) : WX RX12 cX12_goesTo 5 (some .int) ("goesTo", []) d mc ms X (px_QF Post mc ms) 45 [] [] sh M L R n cu su := by
  unfold f_X12_goesTo_45 at h
  refine wx_iconst (v := (-1)) dX12_goesTo_45 (by decide) ?_
  refine wx_goto (tgt := 60) dX12_goesTo_46 (by decide) ?_
  exact wx_sub (s_X12_goesTo_60 hS hd hcu hsu h g) px_0
noncomputable def f_X12_goesTo_30 (x0 : Int32) (x1 : Int32) (z0 : Int32) : Option (Int32) :=
  if z0 < 0 then
    f_X12_goesTo_45
  else
    if z0 ≤ 255 then
      bd1 (f_X12_turnAt x0 x1) fun e_56 =>
      f_X12_goesTo_60 ((72 * z0) + e_56)
    else
      f_X12_goesTo_45
theorem s_X12_goesTo_30 {x0 : Int32} {x1 : Int32} {z0 : Int32} {M : px_M} {L : px_L} {R : px_R} {e : (Int32)} (hS : SR sh R) (hd : 1 ≤ d) (hcu : cu ≤ mc) (hsu : su ≤ ms) (h : f_X12_goesTo_30 x0 x1 z0 = some e) (g : Post (some (.int e)) sh M L R n) : WX RX12 cX12_goesTo 5 (some .int) ("goesTo", []) d mc ms X (px_QF Post mc ms) 30 [(0, .int x0), (1, .int x1)] [.int z0] sh M L R n cu su := by
  unfold f_X12_goesTo_30 at h
  refine wx_istore (lv' := [(4, _), (0, _), (1, _)]) dX12_goesTo_30 (by decide) rfl ?_
  refine wx_iload dX12_goesTo_32 rfl ?_
  refine wx_if_lt (tgt := 45) dX12_goesTo_34 (by decide) (fun c_34 => ?_) (fun c_34 => ?_)
  · replace h := it_t h c_34
    exact wx_sub (s_X12_goesTo_45 hS hd hcu hsu h g) px_0
  · replace h := it_f h c_34
    refine wx_iload dX12_goesTo_37 rfl ?_
    refine wx_sipush (v := 255) dX12_goesTo_39 (by decide) ?_
    refine wx_icmp_le (tgt := 49) dX12_goesTo_42 (by decide) (fun c_42 => ?_) (fun c_42 => ?_)
    · replace h := it_t h c_42
      refine wx_bipush (v := 72) dX12_goesTo_49 (by decide) ?_
      refine wx_iload dX12_goesTo_51 rfl ?_
      refine wx_imul dX12_goesTo_53 ?_
      refine wx_iload_n dX12_goesTo_54 rfl ?_
      refine wx_iload_n dX12_goesTo_55 rfl ?_
      obtain ⟨e_56, k_56, h⟩ := bd1_some h
      refine wx_cSi dX12_goesTo_56 ml_X12_298 my_X12_turnAt sv_X12_turnAt (s_X12_turnAt (d := d - 1) hS (by omega) k_56) rfl (by omega) (by exact Nat.le_of_ble_eq_true rfl) hcu hsu ?_
      refine wx_iadd dX12_goesTo_59 ?_
      exact wx_sub (s_X12_goesTo_60 hS hd hcu hsu h g) px_0
    · replace h := it_f h c_42
      exact wx_sub (s_X12_goesTo_45 hS hd hcu hsu h g) px_0
noncomputable def f_X12_goesTo (p0 : Int32) (p1 : Int32) (p2 : Int32) (p3 : Int32) : Option (Int32) :=
  if p2 = 1 then
    f_X12_goesTo_30 p0 p1 p0
  else
    if p2 = 0 then
      bd1 (f_X12_stepsAt p0 p3) fun e_16 =>
      f_X12_goesTo_30 p0 p1 (p0 - e_16)
    else
      bd1 (f_X12_stepsAt p0 p3) fun e_26 =>
      f_X12_goesTo_30 p0 p1 (p0 + e_26)
theorem s_X12_goesTo {d : Nat} {X : Nat × (Nat → Int32)} {sh : px_Sh} {M : px_M} {L : px_L} {R : px_R} {n : Nat} {p0 : Int32} {p1 : Int32} {p2 : Int32} {p3 : Int32} {e : Int32} (hS : SR sh R) (hd : 1 ≤ d) (h : f_X12_goesTo p0 p1 p2 p3 = some e) : MX yX12_goesTo cX12_goesTo 5 (some .int) d 0 0 X [.int p0, .int p1, .int p2, .int p3] sh M L R n (px_pu (some (.int e)) sh M L R n) := by
  refine MX.of (by decide +kernel) (by exact Nat.le_of_ble_eq_true rfl) ?_
  have hcu : 0 ≤ 0 := Nat.zero_le _
  have hsu : 0 ≤ 0 := Nat.zero_le _
  have g : px_pu (some (.int e)) sh M L R n (some (.int e)) sh M L R n := ⟨rfl, rfl, rfl, rfl, rfl, rfl⟩
  unfold f_X12_goesTo at h
  refine wx_iload_n dX12_goesTo_0 rfl ?_
  refine wx_iconst (v := 1) dX12_goesTo_1 (by decide) ?_
  refine wx_icmp_ne (tgt := 9) dX12_goesTo_2 (by decide) (fun c_2 => ?_) (fun c_2 => ?_)
  · replace h := it_f h c_2
    refine wx_iload_n dX12_goesTo_9 rfl ?_
    refine wx_if_ne (tgt := 23) dX12_goesTo_10 (by decide) (fun c_10 => ?_) (fun c_10 => ?_)
    · replace h := it_f h c_10
      refine wx_iload_n dX12_goesTo_23 rfl ?_
      refine wx_iload_n dX12_goesTo_24 rfl ?_
      refine wx_iload_n dX12_goesTo_25 rfl ?_
      obtain ⟨e_26, k_26, h⟩ := bd1_some h
      refine wx_cSi dX12_goesTo_26 ml_X12_295 my_X12_stepsAt sv_X12_stepsAt (s_X12_stepsAt (d := d - 1) hS (by omega) k_26) rfl (by omega) (by exact Nat.le_of_ble_eq_true rfl) hcu hsu ?_
      refine wx_iadd dX12_goesTo_29 ?_
      exact wx_sub (s_X12_goesTo_30 hS hd hcu hsu h g) (px_s rfl (px_s rfl px_0))
    · replace h := it_t h c_10
      refine wx_iload_n dX12_goesTo_13 rfl ?_
      refine wx_iload_n dX12_goesTo_14 rfl ?_
      refine wx_iload_n dX12_goesTo_15 rfl ?_
      obtain ⟨e_16, k_16, h⟩ := bd1_some h
      refine wx_cSi dX12_goesTo_16 ml_X12_295 my_X12_stepsAt sv_X12_stepsAt (s_X12_stepsAt (d := d - 1) hS (by omega) k_16) rfl (by omega) (by exact Nat.le_of_ble_eq_true rfl) hcu hsu ?_
      refine wx_isub dX12_goesTo_19 ?_
      refine wx_goto (tgt := 30) dX12_goesTo_20 (by decide) ?_
      exact wx_sub (s_X12_goesTo_30 hS hd hcu hsu h g) (px_s rfl (px_s rfl px_0))
  · replace h := it_t h c_2
    refine wx_iload_n dX12_goesTo_5 rfl ?_
    refine wx_goto (tgt := 30) dX12_goesTo_6 (by decide) ?_
    exact wx_sub (s_X12_goesTo_30 hS hd hcu hsu h g) (px_s rfl (px_s rfl px_0))
noncomputable def f_X12_findLeast_317 (sh : px_Sh) (M : px_M) (R : px_R) (x2 : Int32) (x3 : Int32) (x4 : Int32) (x5 : Int32) : Option ((Int32 × px_M) ⊕ (px_M)) :=
  some (.inl ((x5 + 1), M))
theorem s_X12_findLeast_317 {x2 : Int32} {x3 : Int32} {x4 : Int32} {x5 : Int32} {M : px_M} {L : px_L} {R : px_R} {e : ((Int32 × px_M) ⊕ (px_M))} (hS : SR sh R) (hd : 2 ≤ d) (hcu : cu ≤ mc) (hsu : su ≤ ms) (h : f_X12_findLeast_317 sh M R x2 x3 x4 x5 = some e) (g : (sE (fun a => WX RX12 cX12_findLeast 7 none ("findLeast", []) d mc ms X (px_QF Post mc ms) 251 [(0, .ref 73), (2, .int x2), (3, .int x3), (4, .int x4), (5, .int a.1)] [] sh (a.2) L R n cu su) (fun t => WX RX12 cX12_findLeast 7 none ("findLeast", []) d mc ms X (px_QF Post mc ms) 323 [(0, .ref 73), (2, .int x2), (3, .int x3), (4, .int x4)] [] sh t L R n cu su)) e) : WX RX12 cX12_findLeast 7 none ("findLeast", []) d mc ms X (px_QF Post mc ms) 317 [(0, .ref 73), (2, .int x2), (3, .int x3), (4, .int x4), (5, .int x5)] [] sh M L R n cu su := by
  unfold f_X12_findLeast_317 at h
  refine wx_iinc (lv' := [(5, _), (0, _), (2, _), (3, _), (4, _)]) dX12_findLeast_317 rfl (i_1 _) (by decide) rfl ?_
  refine wx_goto (tgt := 251) dX12_findLeast_320 (by decide) ?_
  obtain rfl := Option.some.inj h
  replace g := sE_l g
  exact wx_sub g (px_s rfl (px_s rfl (px_s rfl (px_s rfl (px_s rfl px_0)))))
noncomputable def f_X12_findLeast_251 (sh : px_Sh) (M : px_M) (R : px_R) (x2 : Int32) (x3 : Int32) (x4 : Int32) (x5 : Int32) : Option ((Int32 × px_M) ⊕ (px_M)) :=
  if 3 ≤ x5 then
    some (.inr M)
  else
    ok (ix x3 41) <|
    bd1 (R 93 x3.toNatClampNeg) fun b_262 =>
    ok (xk sh b_262 15 x4) <|
    if (M b_262 x4.toNatClampNeg) = 0 then
      some (.inr M)
    else
      bd1 (f_X12_goesTo (x4 / 72) (x4 - x4 / 72 * 72) x5 x2) fun e_282 =>
      if e_282 = (-1) then
        f_X12_findLeast_317 sh M R x2 x3 x4 x5
      else
        nm (x3 + 1) fun v_300 =>
        ok (ix v_300 41) <|
        bd1 (R 135 v_300.toNatClampNeg) fun b_300 =>
        ok (xk sh b_300 15 e_282) <|
        if (M b_300 e_282.toNatClampNeg) = 0 then
          f_X12_findLeast_317 sh M R x2 x3 x4 x5
        else
          ok (ix x3 41) <|
          bd1 (R 135 x3.toNatClampNeg) fun b_312 =>
          ok (xk sh b_312 15 x4) <|
          nm (px_u M b_312 x4.toNatClampNeg 1) fun M_316 =>
          f_X12_findLeast_317 sh M_316 R x2 x3 x4 x5
theorem s_X12_findLeast_251b {x2 : Int32} {x3 : Int32} {x4 : Int32} {x5 : Int32} {M : px_M} {L : px_L} {R : px_R} {e : ((Int32 × px_M) ⊕ (px_M))} (hS : SR sh R) (hd : 2 ≤ d) (hcu : cu ≤ mc) (hsu : su ≤ ms) (h : f_X12_findLeast_251 sh M R x2 x3 x4 x5 = some e) (g : (sE (fun a => WX RX12 cX12_findLeast 7 none ("findLeast", []) d mc ms X (px_QF Post mc ms) 251 [(0, .ref 73), (2, .int x2), (3, .int x3), (4, .int x4), (5, .int a.1)] [] sh (a.2) L R n cu su) (fun t => WX RX12 cX12_findLeast 7 none ("findLeast", []) d mc ms X (px_QF Post mc ms) 323 [(0, .ref 73), (2, .int x2), (3, .int x3), (4, .int x4)] [] sh t L R n cu su)) e) : WX RX12 cX12_findLeast 7 none ("findLeast", []) d mc ms X (px_QF Post mc ms) 251 [(0, .ref 73), (2, .int x2), (3, .int x3), (4, .int x4), (5, .int x5)] [] sh M L R n cu su := by
  unfold f_X12_findLeast_251 at h
  refine wx_iload dX12_findLeast_251 rfl ?_
  refine wx_iconst (v := 3) dX12_findLeast_253 (by decide) ?_
  refine wx_icmp_ge (tgt := 323) dX12_findLeast_254 (by decide) (fun c_254 => ?_) (fun c_254 => ?_)
  · replace h := it_t h c_254
    obtain rfl := Option.some.inj h
    replace g := sE_r g
    exact wx_sub g (px_s rfl (px_s rfl (px_s rfl (px_s rfl px_0))))
  · replace h := it_f h c_254
    refine wx_aload_n dX12_findLeast_257 rfl ?_
    refine wx_getR dX12_findLeast_258 fl_X12_77 (sc_73 hS) rfl (rr_73_32 hS) ?_
    refine wx_iload_n dX12_findLeast_261 rfl ?_
    obtain ⟨w_262, h⟩ := ok_some h
    obtain ⟨b_262, wr_262, h⟩ := bd1_some h
    refine wx_aald dX12_findLeast_262 (sc_93 hS) (by decide) (by decide) (ix_in w_262) wr_262 ?_
    refine wx_iload dX12_findLeast_263 rfl ?_
    obtain ⟨w_265, h⟩ := ok_some h
    obtain ⟨ln_265, wt_265, wi_265⟩ := xk_some w_265
    refine wx_bald dX12_findLeast_265 wt_265 wi_265 ?_
    refine wx_if_eq (tgt := 323) dX12_findLeast_266 (by decide) (fun c_266 => ?_) (fun c_266 => ?_)
    · replace h := it_t h c_266
      obtain rfl := Option.some.inj h
      replace g := sE_r g
      exact wx_sub g (px_s rfl (px_s rfl (px_s rfl (px_s rfl px_0))))
    · replace h := it_f h c_266
      refine wx_iload dX12_findLeast_269 rfl ?_
      refine wx_bipush (v := 72) dX12_findLeast_271 (by decide) ?_
      refine wx_idiv dX12_findLeast_273 (by decide) ?_
      refine wx_iload dX12_findLeast_274 rfl ?_
      refine wx_bipush (v := 72) dX12_findLeast_276 (by decide) ?_
      refine wx_irem dX12_findLeast_278 (by decide) ?_
      refine wx_iload dX12_findLeast_279 rfl ?_
      refine wx_iload_n dX12_findLeast_281 rfl ?_
      obtain ⟨e_282, k_282, h⟩ := bd1_some h
      refine wx_cSi dX12_findLeast_282 ml_X12_314 my_X12_goesTo sv_X12_goesTo (s_X12_goesTo (d := d - 1) hS (by omega) k_282) rfl (by omega) (by exact Nat.le_of_ble_eq_true rfl) hcu hsu ?_
      refine wx_istore (lv' := [(6, _), (0, _), (2, _), (3, _), (4, _), (5, _)]) dX12_findLeast_285 (by decide) rfl ?_
      refine wx_iload dX12_findLeast_287 rfl ?_
      refine wx_iconst (v := (-1)) dX12_findLeast_289 (by decide) ?_
      refine wx_icmp_eq (tgt := 317) dX12_findLeast_290 (by decide) (fun c_290 => ?_) (fun c_290 => ?_)
      · replace h := it_t h c_290
        exact wx_sub (s_X12_findLeast_317 hS hd hcu hsu h g) (px_s rfl (px_s rfl (px_s rfl (px_s rfl (px_s rfl px_0)))))
      · replace h := it_f h c_290
        refine wx_aload_n dX12_findLeast_293 rfl ?_
        refine wx_getR dX12_findLeast_294 fl_X12_80 (sc_73 hS) rfl (rr_73_33 hS) ?_
        refine wx_iload_n dX12_findLeast_297 rfl ?_
        refine wx_iconst (v := 1) dX12_findLeast_298 (by decide) ?_
        refine wx_iadd dX12_findLeast_299 ?_
        refine wx_nami (fun v_300 q_300 => ?_)
        replace h := nm_at h q_300
        obtain ⟨w_300, h⟩ := ok_some h
        obtain ⟨b_300, wr_300, h⟩ := bd1_some h
        refine wx_aald dX12_findLeast_300 (sc_135 hS) (by decide) (by decide) (ix_in w_300) wr_300 ?_
        refine wx_iload dX12_findLeast_301 rfl ?_
        obtain ⟨w_303, h⟩ := ok_some h
        obtain ⟨ln_303, wt_303, wi_303⟩ := xk_some w_303
        refine wx_bald dX12_findLeast_303 wt_303 wi_303 ?_
        refine wx_if_eq (tgt := 317) dX12_findLeast_304 (by decide) (fun c_304 => ?_) (fun c_304 => ?_)
        · replace h := it_t h c_304
          exact wx_sub (s_X12_findLeast_317 hS hd hcu hsu h g) (px_s rfl (px_s rfl (px_s rfl (px_s rfl (px_s rfl px_0)))))
        · replace h := it_f h c_304
          refine wx_aload_n dX12_findLeast_307 rfl ?_
          refine wx_getR dX12_findLeast_308 fl_X12_80 (sc_73 hS) rfl (rr_73_33 hS) ?_
          refine wx_iload_n dX12_findLeast_311 rfl ?_
          obtain ⟨w_312, h⟩ := ok_some h
          obtain ⟨b_312, wr_312, h⟩ := bd1_some h
          refine wx_aald dX12_findLeast_312 (sc_135 hS) (by decide) (by decide) (ix_in w_312) wr_312 ?_
          refine wx_iload dX12_findLeast_313 rfl ?_
          refine wx_iconst (v := 1) dX12_findLeast_315 (by decide) ?_
          obtain ⟨w_316, h⟩ := ok_some h
          obtain ⟨ln_316, wt_316, wi_316⟩ := xk_some w_316
          refine wx_bast dX12_findLeast_316 wt_316 wi_316 rfl ?_
          refine wx_namM (fun M_316 q_316 => ?_)
          replace h := nm_at h q_316
          exact wx_sub (s_X12_findLeast_317 hS hd hcu hsu h g) (px_s rfl (px_s rfl (px_s rfl (px_s rfl (px_s rfl px_0)))))
theorem s_X12_findLeast_251 {x2 : Int32} {x3 : Int32} {x4 : Int32} {x5 : Int32} {M : px_M} {L : px_L} {R : px_R} {e : (px_M)} (hS : SR sh R) (hd : 2 ≤ d) (hcu : cu ≤ mc) (hsu : su ≤ ms) (h : lpf (fun a : Int32 × px_M => f_X12_findLeast_251 sh a.2 R x2 x3 x4 a.1) (x5, M) = some e) (g : WX RX12 cX12_findLeast 7 none ("findLeast", []) d mc ms X (px_QF Post mc ms) 323 [(0, .ref 73), (2, .int x2), (3, .int x3), (4, .int x4)] [] sh e L R n cu su) : WX RX12 cX12_findLeast 7 none ("findLeast", []) d mc ms X (px_QF Post mc ms) 251 [(0, .ref 73), (2, .int x2), (3, .int x3), (4, .int x4), (5, .int x5)] [] sh M L R n cu su := by
  have key := lpf_wp (P := (fun a => WX RX12 cX12_findLeast 7 none ("findLeast", []) d mc ms X (px_QF Post mc ms) 251 [(0, .ref 73), (2, .int x2), (3, .int x3), (4, .int x4), (5, .int a.1)] [] sh (a.2) L R n cu su)) (G := (fun t => WX RX12 cX12_findLeast 7 none ("findLeast", []) d mc ms X (px_QF Post mc ms) 323 [(0, .ref 73), (2, .int x2), (3, .int x3), (4, .int x4)] [] sh t L R n cu su)) (fun a r h g => s_X12_findLeast_251b (x2 := x2) (x3 := x3) (x4 := x4) (x5 := a.1) (M := a.2) (L := L) (R := R) hS hd hcu hsu h g) (a := (x5, M)) h g
  exact key
noncomputable def f_X12_findLeast_208 (sh : px_Sh) (M : px_M) (R : px_R) (x1 : Int32) (x2 : Int32) (x3 : Int32) (x4 : Int32) (x5 : Int32) : Option ((Int32 × px_M) ⊕ (px_M)) :=
  some (.inl ((x5 + 1), M))
theorem s_X12_findLeast_208 {x1 : Int32} {x2 : Int32} {x3 : Int32} {x4 : Int32} {x5 : Int32} {M : px_M} {L : px_L} {R : px_R} {e : ((Int32 × px_M) ⊕ (px_M))} (hS : SR sh R) (hd : 2 ≤ d) (hcu : cu ≤ mc) (hsu : su ≤ ms) (h : f_X12_findLeast_208 sh M R x1 x2 x3 x4 x5 = some e) (g : (sE (fun a => WX RX12 cX12_findLeast 7 none ("findLeast", []) d mc ms X (px_QF Post mc ms) 160 [(0, .ref 73), (1, .int x1), (2, .int x2), (3, .int x3), (4, .int x4), (5, .int a.1)] [] sh (a.2) L R n cu su) (fun t => WX RX12 cX12_findLeast 7 none ("findLeast", []) d mc ms X (px_QF Post mc ms) 214 [(0, .ref 73), (1, .int x1), (2, .int x2), (3, .int x3), (4, .int x4)] [] sh t L R n cu su)) e) : WX RX12 cX12_findLeast 7 none ("findLeast", []) d mc ms X (px_QF Post mc ms) 208 [(0, .ref 73), (1, .int x1), (2, .int x2), (3, .int x3), (4, .int x4), (5, .int x5)] [] sh M L R n cu su := by
  unfold f_X12_findLeast_208 at h
  refine wx_iinc (lv' := [(5, _), (0, _), (1, _), (2, _), (3, _), (4, _)]) dX12_findLeast_208 rfl (i_1 _) (by decide) rfl ?_
  refine wx_goto (tgt := 160) dX12_findLeast_211 (by decide) ?_
  obtain rfl := Option.some.inj h
  replace g := sE_l g
  exact wx_sub g (px_s rfl (px_s rfl (px_s rfl (px_s rfl (px_s rfl (px_s rfl px_0))))))
noncomputable def f_X12_findLeast_160 (sh : px_Sh) (M : px_M) (R : px_R) (x1 : Int32) (x2 : Int32) (x3 : Int32) (x4 : Int32) (x5 : Int32) : Option ((Int32 × px_M) ⊕ (px_M)) :=
  if 3 ≤ x5 then
    some (.inr M)
  else
    if 40 ≤ x3 then
      some (.inr M)
    else
      bd1 (f_X12_goesTo (x4 / 72) (x4 - x4 / 72 * 72) x5 x2) fun e_185 =>
      if e_185 = (-1) then
        f_X12_findLeast_208 sh M R x1 x2 x3 x4 x5
      else
        nm (x3 + 1) fun v_203 =>
        ok (ix v_203 41) <|
        bd1 (R 93 v_203.toNatClampNeg) fun b_203 =>
        ok (xk sh b_203 15 e_185) <|
        nm (px_u M b_203 e_185.toNatClampNeg 1) fun M_207 =>
        f_X12_findLeast_208 sh M_207 R x1 x2 x3 x4 x5
theorem s_X12_findLeast_160b {x1 : Int32} {x2 : Int32} {x3 : Int32} {x4 : Int32} {x5 : Int32} {M : px_M} {L : px_L} {R : px_R} {e : ((Int32 × px_M) ⊕ (px_M))} (hS : SR sh R) (hd : 2 ≤ d) (hcu : cu ≤ mc) (hsu : su ≤ ms) (h : f_X12_findLeast_160 sh M R x1 x2 x3 x4 x5 = some e) (g : (sE (fun a => WX RX12 cX12_findLeast 7 none ("findLeast", []) d mc ms X (px_QF Post mc ms) 160 [(0, .ref 73), (1, .int x1), (2, .int x2), (3, .int x3), (4, .int x4), (5, .int a.1)] [] sh (a.2) L R n cu su) (fun t => WX RX12 cX12_findLeast 7 none ("findLeast", []) d mc ms X (px_QF Post mc ms) 214 [(0, .ref 73), (1, .int x1), (2, .int x2), (3, .int x3), (4, .int x4)] [] sh t L R n cu su)) e) : WX RX12 cX12_findLeast 7 none ("findLeast", []) d mc ms X (px_QF Post mc ms) 160 [(0, .ref 73), (1, .int x1), (2, .int x2), (3, .int x3), (4, .int x4), (5, .int x5)] [] sh M L R n cu su := by
  unfold f_X12_findLeast_160 at h
  refine wx_iload dX12_findLeast_160 rfl ?_
  refine wx_iconst (v := 3) dX12_findLeast_162 (by decide) ?_
  refine wx_icmp_ge (tgt := 214) dX12_findLeast_163 (by decide) (fun c_163 => ?_) (fun c_163 => ?_)
  · replace h := it_t h c_163
    obtain rfl := Option.some.inj h
    replace g := sE_r g
    exact wx_sub g (px_s rfl (px_s rfl (px_s rfl (px_s rfl (px_s rfl px_0)))))
  · replace h := it_f h c_163
    refine wx_iload_n dX12_findLeast_166 rfl ?_
    refine wx_bipush (v := 40) dX12_findLeast_167 (by decide) ?_
    refine wx_icmp_ge (tgt := 214) dX12_findLeast_169 (by decide) (fun c_169 => ?_) (fun c_169 => ?_)
    · replace h := it_t h c_169
      obtain rfl := Option.some.inj h
      replace g := sE_r g
      exact wx_sub g (px_s rfl (px_s rfl (px_s rfl (px_s rfl (px_s rfl px_0)))))
    · replace h := it_f h c_169
      refine wx_iload dX12_findLeast_172 rfl ?_
      refine wx_bipush (v := 72) dX12_findLeast_174 (by decide) ?_
      refine wx_idiv dX12_findLeast_176 (by decide) ?_
      refine wx_iload dX12_findLeast_177 rfl ?_
      refine wx_bipush (v := 72) dX12_findLeast_179 (by decide) ?_
      refine wx_irem dX12_findLeast_181 (by decide) ?_
      refine wx_iload dX12_findLeast_182 rfl ?_
      refine wx_iload_n dX12_findLeast_184 rfl ?_
      obtain ⟨e_185, k_185, h⟩ := bd1_some h
      refine wx_cSi dX12_findLeast_185 ml_X12_314 my_X12_goesTo sv_X12_goesTo (s_X12_goesTo (d := d - 1) hS (by omega) k_185) rfl (by omega) (by exact Nat.le_of_ble_eq_true rfl) hcu hsu ?_
      refine wx_istore (lv' := [(6, _), (0, _), (1, _), (2, _), (3, _), (4, _), (5, _)]) dX12_findLeast_188 (by decide) rfl ?_
      refine wx_iload dX12_findLeast_190 rfl ?_
      refine wx_iconst (v := (-1)) dX12_findLeast_192 (by decide) ?_
      refine wx_icmp_eq (tgt := 208) dX12_findLeast_193 (by decide) (fun c_193 => ?_) (fun c_193 => ?_)
      · replace h := it_t h c_193
        exact wx_sub (s_X12_findLeast_208 hS hd hcu hsu h g) (px_s rfl (px_s rfl (px_s rfl (px_s rfl (px_s rfl (px_s rfl px_0))))))
      · replace h := it_f h c_193
        refine wx_aload_n dX12_findLeast_196 rfl ?_
        refine wx_getR dX12_findLeast_197 fl_X12_77 (sc_73 hS) rfl (rr_73_32 hS) ?_
        refine wx_iload_n dX12_findLeast_200 rfl ?_
        refine wx_iconst (v := 1) dX12_findLeast_201 (by decide) ?_
        refine wx_iadd dX12_findLeast_202 ?_
        refine wx_nami (fun v_203 q_203 => ?_)
        replace h := nm_at h q_203
        obtain ⟨w_203, h⟩ := ok_some h
        obtain ⟨b_203, wr_203, h⟩ := bd1_some h
        refine wx_aald dX12_findLeast_203 (sc_93 hS) (by decide) (by decide) (ix_in w_203) wr_203 ?_
        refine wx_iload dX12_findLeast_204 rfl ?_
        refine wx_iconst (v := 1) dX12_findLeast_206 (by decide) ?_
        obtain ⟨w_207, h⟩ := ok_some h
        obtain ⟨ln_207, wt_207, wi_207⟩ := xk_some w_207
        refine wx_bast dX12_findLeast_207 wt_207 wi_207 rfl ?_
        refine wx_namM (fun M_207 q_207 => ?_)
        replace h := nm_at h q_207
        exact wx_sub (s_X12_findLeast_208 hS hd hcu hsu h g) (px_s rfl (px_s rfl (px_s rfl (px_s rfl (px_s rfl (px_s rfl px_0))))))
theorem s_X12_findLeast_160 {x1 : Int32} {x2 : Int32} {x3 : Int32} {x4 : Int32} {x5 : Int32} {M : px_M} {L : px_L} {R : px_R} {e : (px_M)} (hS : SR sh R) (hd : 2 ≤ d) (hcu : cu ≤ mc) (hsu : su ≤ ms) (h : lpf (fun a : Int32 × px_M => f_X12_findLeast_160 sh a.2 R x1 x2 x3 x4 a.1) (x5, M) = some e) (g : WX RX12 cX12_findLeast 7 none ("findLeast", []) d mc ms X (px_QF Post mc ms) 214 [(0, .ref 73), (1, .int x1), (2, .int x2), (3, .int x3), (4, .int x4)] [] sh e L R n cu su) : WX RX12 cX12_findLeast 7 none ("findLeast", []) d mc ms X (px_QF Post mc ms) 160 [(0, .ref 73), (1, .int x1), (2, .int x2), (3, .int x3), (4, .int x4), (5, .int x5)] [] sh M L R n cu su := by
  have key := lpf_wp (P := (fun a => WX RX12 cX12_findLeast 7 none ("findLeast", []) d mc ms X (px_QF Post mc ms) 160 [(0, .ref 73), (1, .int x1), (2, .int x2), (3, .int x3), (4, .int x4), (5, .int a.1)] [] sh (a.2) L R n cu su)) (G := (fun t => WX RX12 cX12_findLeast 7 none ("findLeast", []) d mc ms X (px_QF Post mc ms) 214 [(0, .ref 73), (1, .int x1), (2, .int x2), (3, .int x3), (4, .int x4)] [] sh t L R n cu su)) (fun a r h g => s_X12_findLeast_160b (x1 := x1) (x2 := x2) (x3 := x3) (x4 := x4) (x5 := a.1) (M := a.2) (L := L) (R := R) hS hd hcu hsu h g) (a := (x5, M)) h g
  exact key
noncomputable def f_X12_findLeast_240 (sh : px_Sh) (M : px_M) (R : px_R) (x2 : Int32) (x3 : Int32) (x4 : Int32) : Option ((Int32 × px_M) ⊕ (px_M)) :=
  if 18432 ≤ x4 then
    some (.inr M)
  else
    bd1 (lpf (fun a : Int32 × px_M => f_X12_findLeast_251 sh a.2 R x2 x3 x4 a.1) (0, M)) fun e_251 =>
    some (.inl ((x4 + 1), e_251))
theorem s_X12_findLeast_240b {x2 : Int32} {x3 : Int32} {x4 : Int32} {M : px_M} {L : px_L} {R : px_R} {e : ((Int32 × px_M) ⊕ (px_M))} (hS : SR sh R) (hd : 2 ≤ d) (hcu : cu ≤ mc) (hsu : su ≤ ms) (h : f_X12_findLeast_240 sh M R x2 x3 x4 = some e) (g : (sE (fun a => WX RX12 cX12_findLeast 7 none ("findLeast", []) d mc ms X (px_QF Post mc ms) 240 [(0, .ref 73), (2, .int x2), (3, .int x3), (4, .int a.1)] [] sh (a.2) L R n cu su) (fun t => WX RX12 cX12_findLeast 7 none ("findLeast", []) d mc ms X (px_QF Post mc ms) 329 [(0, .ref 73), (2, .int x2), (3, .int x3)] [] sh t L R n cu su)) e) : WX RX12 cX12_findLeast 7 none ("findLeast", []) d mc ms X (px_QF Post mc ms) 240 [(0, .ref 73), (2, .int x2), (3, .int x3), (4, .int x4)] [] sh M L R n cu su := by
  unfold f_X12_findLeast_240 at h
  refine wx_iload dX12_findLeast_240 rfl ?_
  refine wx_sipush (v := 18432) dX12_findLeast_242 (by decide) ?_
  refine wx_icmp_ge (tgt := 329) dX12_findLeast_245 (by decide) (fun c_245 => ?_) (fun c_245 => ?_)
  · replace h := it_t h c_245
    obtain rfl := Option.some.inj h
    replace g := sE_r g
    exact wx_sub g (px_s rfl (px_s rfl (px_s rfl px_0)))
  · replace h := it_f h c_245
    refine wx_iconst (v := 0) dX12_findLeast_248 (by decide) ?_
    refine wx_istore (lv' := [(5, _), (0, _), (2, _), (3, _), (4, _)]) dX12_findLeast_249 (by decide) rfl ?_
    obtain ⟨e_251, k_251, h⟩ := bd1_some h
    refine wx_sub (s_X12_findLeast_251 hS hd hcu hsu k_251 ?_) (px_s rfl (px_s rfl (px_s rfl (px_s rfl (px_s rfl px_0)))))
    refine wx_iinc (lv' := [(4, _), (0, _), (2, _), (3, _)]) dX12_findLeast_323 rfl (i_1 _) (by decide) rfl ?_
    refine wx_goto (tgt := 240) dX12_findLeast_326 (by decide) ?_
    obtain rfl := Option.some.inj h
    replace g := sE_l g
    exact wx_sub g (px_s rfl (px_s rfl (px_s rfl (px_s rfl px_0))))
theorem s_X12_findLeast_240 {x2 : Int32} {x3 : Int32} {x4 : Int32} {M : px_M} {L : px_L} {R : px_R} {e : (px_M)} (hS : SR sh R) (hd : 2 ≤ d) (hcu : cu ≤ mc) (hsu : su ≤ ms) (h : lpf (fun a : Int32 × px_M => f_X12_findLeast_240 sh a.2 R x2 x3 a.1) (x4, M) = some e) (g : WX RX12 cX12_findLeast 7 none ("findLeast", []) d mc ms X (px_QF Post mc ms) 329 [(0, .ref 73), (2, .int x2), (3, .int x3)] [] sh e L R n cu su) : WX RX12 cX12_findLeast 7 none ("findLeast", []) d mc ms X (px_QF Post mc ms) 240 [(0, .ref 73), (2, .int x2), (3, .int x3), (4, .int x4)] [] sh M L R n cu su := by
  have key := lpf_wp (P := (fun a => WX RX12 cX12_findLeast 7 none ("findLeast", []) d mc ms X (px_QF Post mc ms) 240 [(0, .ref 73), (2, .int x2), (3, .int x3), (4, .int a.1)] [] sh (a.2) L R n cu su)) (G := (fun t => WX RX12 cX12_findLeast 7 none ("findLeast", []) d mc ms X (px_QF Post mc ms) 329 [(0, .ref 73), (2, .int x2), (3, .int x3)] [] sh t L R n cu su)) (fun a r h g => s_X12_findLeast_240b (x2 := x2) (x3 := x3) (x4 := a.1) (M := a.2) (L := L) (R := R) hS hd hcu hsu h g) (a := (x4, M)) h g
  exact key
noncomputable def f_X12_findLeast_214 (sh : px_Sh) (M : px_M) (R : px_R) (x1 : Int32) (x2 : Int32) (x3 : Int32) (x4 : Int32) : Option ((Int32 × px_M) ⊕ (px_M)) :=
  some (.inl ((x4 + 1), M))
theorem s_X12_findLeast_214 {x1 : Int32} {x2 : Int32} {x3 : Int32} {x4 : Int32} {M : px_M} {L : px_L} {R : px_R} {e : ((Int32 × px_M) ⊕ (px_M))} (hS : SR sh R) (hd : 2 ≤ d) (hcu : cu ≤ mc) (hsu : su ≤ ms) (h : f_X12_findLeast_214 sh M R x1 x2 x3 x4 = some e) (g : (sE (fun a => WX RX12 cX12_findLeast 7 none ("findLeast", []) d mc ms X (px_QF Post mc ms) 95 [(0, .ref 73), (1, .int x1), (2, .int x2), (3, .int x3), (4, .int a.1)] [] sh (a.2) L R n cu su) (fun t => WX RX12 cX12_findLeast 7 none ("findLeast", []) d mc ms X (px_QF Post mc ms) 220 [(0, .ref 73), (1, .int x1), (2, .int x2), (3, .int x3)] [] sh t L R n cu su)) e) : WX RX12 cX12_findLeast 7 none ("findLeast", []) d mc ms X (px_QF Post mc ms) 214 [(0, .ref 73), (1, .int x1), (2, .int x2), (3, .int x3), (4, .int x4)] [] sh M L R n cu su := by
  unfold f_X12_findLeast_214 at h
  refine wx_iinc (lv' := [(4, _), (0, _), (1, _), (2, _), (3, _)]) dX12_findLeast_214 rfl (i_1 _) (by decide) rfl ?_
  refine wx_goto (tgt := 95) dX12_findLeast_217 (by decide) ?_
  obtain rfl := Option.some.inj h
  replace g := sE_l g
  exact wx_sub g (px_s rfl (px_s rfl (px_s rfl (px_s rfl (px_s rfl px_0)))))
noncomputable def f_X12_findLeast_157 (sh : px_Sh) (M : px_M) (R : px_R) (x1 : Int32) (x2 : Int32) (x3 : Int32) (x4 : Int32) : Option ((Int32 × px_M) ⊕ (px_M)) :=
  bd1 (lpf (fun a : Int32 × px_M => f_X12_findLeast_160 sh a.2 R x1 x2 x3 x4 a.1) (0, M)) fun e_160 =>
  f_X12_findLeast_214 sh e_160 R x1 x2 x3 x4
theorem s_X12_findLeast_157 {x1 : Int32} {x2 : Int32} {x3 : Int32} {x4 : Int32} {M : px_M} {L : px_L} {R : px_R} {e : ((Int32 × px_M) ⊕ (px_M))} (hS : SR sh R) (hd : 2 ≤ d) (hcu : cu ≤ mc) (hsu : su ≤ ms) (h : f_X12_findLeast_157 sh M R x1 x2 x3 x4 = some e) (g : (sE (fun a => WX RX12 cX12_findLeast 7 none ("findLeast", []) d mc ms X (px_QF Post mc ms) 95 [(0, .ref 73), (1, .int x1), (2, .int x2), (3, .int x3), (4, .int a.1)] [] sh (a.2) L R n cu su) (fun t => WX RX12 cX12_findLeast 7 none ("findLeast", []) d mc ms X (px_QF Post mc ms) 220 [(0, .ref 73), (1, .int x1), (2, .int x2), (3, .int x3)] [] sh t L R n cu su)) e) : WX RX12 cX12_findLeast 7 none ("findLeast", []) d mc ms X (px_QF Post mc ms) 157 [(0, .ref 73), (1, .int x1), (2, .int x2), (3, .int x3), (4, .int x4)] [] sh M L R n cu su := by
  unfold f_X12_findLeast_157 at h
  refine wx_iconst (v := 0) dX12_findLeast_157 (by decide) ?_
  refine wx_istore (lv' := [(5, _), (0, _), (1, _), (2, _), (3, _), (4, _)]) dX12_findLeast_158 (by decide) rfl ?_
  obtain ⟨e_160, k_160, h⟩ := bd1_some h
  refine wx_sub (s_X12_findLeast_160 hS hd hcu hsu k_160 ?_) (px_s rfl (px_s rfl (px_s rfl (px_s rfl (px_s rfl (px_s rfl px_0))))))
  exact wx_sub (s_X12_findLeast_214 hS hd hcu hsu h g) (px_s rfl (px_s rfl (px_s rfl (px_s rfl (px_s rfl px_0)))))
noncomputable def f_X12_findLeast_95 (sh : px_Sh) (M : px_M) (R : px_R) (x1 : Int32) (x2 : Int32) (x3 : Int32) (x4 : Int32) : Option ((Int32 × px_M) ⊕ (px_M)) :=
  if 18432 ≤ x4 then
    some (.inr M)
  else
    ok (ix x3 41) <|
    bd1 (R 93 x3.toNatClampNeg) fun b_108 =>
    ok (xk sh b_108 15 x4) <|
    if (M b_108 x4.toNatClampNeg) = 0 then
      f_X12_findLeast_214 sh M R x1 x2 x3 x4
    else
      bd1 (f_X12_isMet M x1 (x4 / 72) (x4 - x4 / 72 * 72) ((M 73 24) + x3)) fun e_136 =>
      if e_136 = 0 then
        f_X12_findLeast_157 sh M R x1 x2 x3 x4
      else
        nm (px_u M 73 34 x3) fun M_144 =>
        ok (ix x3 41) <|
        bd1 (R 135 x3.toNatClampNeg) fun b_152 =>
        ok (xk sh b_152 15 x4) <|
        nm (px_u M_144 b_152 x4.toNatClampNeg 1) fun M_156 =>
        f_X12_findLeast_157 sh M_156 R x1 x2 x3 x4
theorem s_X12_findLeast_95b {x1 : Int32} {x2 : Int32} {x3 : Int32} {x4 : Int32} {M : px_M} {L : px_L} {R : px_R} {e : ((Int32 × px_M) ⊕ (px_M))} (hS : SR sh R) (hd : 2 ≤ d) (hcu : cu ≤ mc) (hsu : su ≤ ms) (h : f_X12_findLeast_95 sh M R x1 x2 x3 x4 = some e) (g : (sE (fun a => WX RX12 cX12_findLeast 7 none ("findLeast", []) d mc ms X (px_QF Post mc ms) 95 [(0, .ref 73), (1, .int x1), (2, .int x2), (3, .int x3), (4, .int a.1)] [] sh (a.2) L R n cu su) (fun t => WX RX12 cX12_findLeast 7 none ("findLeast", []) d mc ms X (px_QF Post mc ms) 220 [(0, .ref 73), (1, .int x1), (2, .int x2), (3, .int x3)] [] sh t L R n cu su)) e) : WX RX12 cX12_findLeast 7 none ("findLeast", []) d mc ms X (px_QF Post mc ms) 95 [(0, .ref 73), (1, .int x1), (2, .int x2), (3, .int x3), (4, .int x4)] [] sh M L R n cu su := by
  unfold f_X12_findLeast_95 at h
  refine wx_iload dX12_findLeast_95 rfl ?_
  refine wx_sipush (v := 18432) dX12_findLeast_97 (by decide) ?_
  refine wx_icmp_ge (tgt := 220) dX12_findLeast_100 (by decide) (fun c_100 => ?_) (fun c_100 => ?_)
  · replace h := it_t h c_100
    obtain rfl := Option.some.inj h
    replace g := sE_r g
    exact wx_sub g (px_s rfl (px_s rfl (px_s rfl (px_s rfl px_0))))
  · replace h := it_f h c_100
    refine wx_aload_n dX12_findLeast_103 rfl ?_
    refine wx_getR dX12_findLeast_104 fl_X12_77 (sc_73 hS) rfl (rr_73_32 hS) ?_
    refine wx_iload_n dX12_findLeast_107 rfl ?_
    obtain ⟨w_108, h⟩ := ok_some h
    obtain ⟨b_108, wr_108, h⟩ := bd1_some h
    refine wx_aald dX12_findLeast_108 (sc_93 hS) (by decide) (by decide) (ix_in w_108) wr_108 ?_
    refine wx_iload dX12_findLeast_109 rfl ?_
    obtain ⟨w_111, h⟩ := ok_some h
    obtain ⟨ln_111, wt_111, wi_111⟩ := xk_some w_111
    refine wx_bald dX12_findLeast_111 wt_111 wi_111 ?_
    refine wx_if_ne (tgt := 118) dX12_findLeast_112 (by decide) (fun c_112 => ?_) (fun c_112 => ?_)
    · replace h := it_f h c_112
      refine wx_aload_n dX12_findLeast_118 rfl ?_
      refine wx_iload_n dX12_findLeast_119 rfl ?_
      refine wx_iload dX12_findLeast_120 rfl ?_
      refine wx_bipush (v := 72) dX12_findLeast_122 (by decide) ?_
      refine wx_idiv dX12_findLeast_124 (by decide) ?_
      refine wx_iload dX12_findLeast_125 rfl ?_
      refine wx_bipush (v := 72) dX12_findLeast_127 (by decide) ?_
      refine wx_irem dX12_findLeast_129 (by decide) ?_
      refine wx_aload_n dX12_findLeast_130 rfl ?_
      refine wx_getI dX12_findLeast_131 fl_X12_307 (sc_73 hS) rfl ?_
      refine wx_iload_n dX12_findLeast_134 rfl ?_
      refine wx_iadd dX12_findLeast_135 ?_
      obtain ⟨e_136, k_136, h⟩ := bd1_some h
      refine wx_cVi dX12_findLeast_136 ml_X12_310 my_X12_isMet iv_X12_isMet (sc_73 hS) (by decide) (s_X12_isMet (d := d - 1) hS (by omega) k_136) rfl (by omega) (by exact Nat.le_of_ble_eq_true rfl) hcu hsu ?_
      refine wx_if_eq (tgt := 157) dX12_findLeast_139 (by decide) (fun c_139 => ?_) (fun c_139 => ?_)
      · replace h := it_t h c_139
        exact wx_sub (s_X12_findLeast_157 hS hd hcu hsu h g) (px_s rfl (px_s rfl (px_s rfl (px_s rfl (px_s rfl px_0)))))
      · replace h := it_f h c_139
        refine wx_aload_n dX12_findLeast_142 rfl ?_
        refine wx_iload_n dX12_findLeast_143 rfl ?_
        refine wx_putI dX12_findLeast_144 fl_X12_301 (sc_73 hS) (Or.inl rfl) rfl ⟨rfl, rfl⟩ ?_
        refine wx_namM (fun M_144 q_144 => ?_)
        replace h := nm_at h q_144
        refine wx_aload_n dX12_findLeast_147 rfl ?_
        refine wx_getR dX12_findLeast_148 fl_X12_80 (sc_73 hS) rfl (rr_73_33 hS) ?_
        refine wx_iload_n dX12_findLeast_151 rfl ?_
        obtain ⟨w_152, h⟩ := ok_some h
        obtain ⟨b_152, wr_152, h⟩ := bd1_some h
        refine wx_aald dX12_findLeast_152 (sc_135 hS) (by decide) (by decide) (ix_in w_152) wr_152 ?_
        refine wx_iload dX12_findLeast_153 rfl ?_
        refine wx_iconst (v := 1) dX12_findLeast_155 (by decide) ?_
        obtain ⟨w_156, h⟩ := ok_some h
        obtain ⟨ln_156, wt_156, wi_156⟩ := xk_some w_156
        refine wx_bast dX12_findLeast_156 wt_156 wi_156 rfl ?_
        refine wx_namM (fun M_156 q_156 => ?_)
        replace h := nm_at h q_156
        exact wx_sub (s_X12_findLeast_157 hS hd hcu hsu h g) (px_s rfl (px_s rfl (px_s rfl (px_s rfl (px_s rfl px_0)))))
    · replace h := it_t h c_112
      refine wx_goto (tgt := 214) dX12_findLeast_115 (by decide) ?_
      exact wx_sub (s_X12_findLeast_214 hS hd hcu hsu h g) (px_s rfl (px_s rfl (px_s rfl (px_s rfl (px_s rfl px_0)))))
theorem s_X12_findLeast_95 {x1 : Int32} {x2 : Int32} {x3 : Int32} {x4 : Int32} {M : px_M} {L : px_L} {R : px_R} {e : (px_M)} (hS : SR sh R) (hd : 2 ≤ d) (hcu : cu ≤ mc) (hsu : su ≤ ms) (h : lpf (fun a : Int32 × px_M => f_X12_findLeast_95 sh a.2 R x1 x2 x3 a.1) (x4, M) = some e) (g : WX RX12 cX12_findLeast 7 none ("findLeast", []) d mc ms X (px_QF Post mc ms) 220 [(0, .ref 73), (1, .int x1), (2, .int x2), (3, .int x3)] [] sh e L R n cu su) : WX RX12 cX12_findLeast 7 none ("findLeast", []) d mc ms X (px_QF Post mc ms) 95 [(0, .ref 73), (1, .int x1), (2, .int x2), (3, .int x3), (4, .int x4)] [] sh M L R n cu su := by
  have key := lpf_wp (P := (fun a => WX RX12 cX12_findLeast 7 none ("findLeast", []) d mc ms X (px_QF Post mc ms) 95 [(0, .ref 73), (1, .int x1), (2, .int x2), (3, .int x3), (4, .int a.1)] [] sh (a.2) L R n cu su)) (G := (fun t => WX RX12 cX12_findLeast 7 none ("findLeast", []) d mc ms X (px_QF Post mc ms) 220 [(0, .ref 73), (1, .int x1), (2, .int x2), (3, .int x3)] [] sh t L R n cu su)) (fun a r h g => s_X12_findLeast_95b (x1 := x1) (x2 := x2) (x3 := x3) (x4 := a.1) (M := a.2) (L := L) (R := R) hS hd hcu hsu h g) (a := (x4, M)) h g
  exact key
noncomputable def f_X12_findLeast_16 (sh : px_Sh) (M : px_M) (R : px_R) (x1 : Int32) (x2 : Int32) (x3 : Int32) (x4 : Int32) : Option ((Int32 × px_M) ⊕ (px_M)) :=
  if 18432 ≤ x4 then
    some (.inr M)
  else
    ok (ix x3 41) <|
    bd1 (R 93 x3.toNatClampNeg) fun b_29 =>
    ok (xk sh b_29 15 x4) <|
    nm (px_u M b_29 x4.toNatClampNeg 0) fun M_33 =>
    ok (ix x3 41) <|
    bd1 (R 135 x3.toNatClampNeg) fun b_39 =>
    ok (xk sh b_39 15 x4) <|
    nm (px_u M_33 b_39 x4.toNatClampNeg 0) fun M_43 =>
    some (.inl ((x4 + 1), M_43))
theorem s_X12_findLeast_16b {x1 : Int32} {x2 : Int32} {x3 : Int32} {x4 : Int32} {M : px_M} {L : px_L} {R : px_R} {e : ((Int32 × px_M) ⊕ (px_M))} (hS : SR sh R) (hd : 2 ≤ d) (hcu : cu ≤ mc) (hsu : su ≤ ms) (h : f_X12_findLeast_16 sh M R x1 x2 x3 x4 = some e) (g : (sE (fun a => WX RX12 cX12_findLeast 7 none ("findLeast", []) d mc ms X (px_QF Post mc ms) 16 [(0, .ref 73), (1, .int x1), (2, .int x2), (3, .int x3), (4, .int a.1)] [] sh (a.2) L R n cu su) (fun t => WX RX12 cX12_findLeast 7 none ("findLeast", []) d mc ms X (px_QF Post mc ms) 50 [(0, .ref 73), (1, .int x1), (2, .int x2), (3, .int x3)] [] sh t L R n cu su)) e) : WX RX12 cX12_findLeast 7 none ("findLeast", []) d mc ms X (px_QF Post mc ms) 16 [(0, .ref 73), (1, .int x1), (2, .int x2), (3, .int x3), (4, .int x4)] [] sh M L R n cu su := by
  unfold f_X12_findLeast_16 at h
  refine wx_iload dX12_findLeast_16 rfl ?_
  refine wx_sipush (v := 18432) dX12_findLeast_18 (by decide) ?_
  refine wx_icmp_ge (tgt := 50) dX12_findLeast_21 (by decide) (fun c_21 => ?_) (fun c_21 => ?_)
  · replace h := it_t h c_21
    obtain rfl := Option.some.inj h
    replace g := sE_r g
    exact wx_sub g (px_s rfl (px_s rfl (px_s rfl (px_s rfl px_0))))
  · replace h := it_f h c_21
    refine wx_aload_n dX12_findLeast_24 rfl ?_
    refine wx_getR dX12_findLeast_25 fl_X12_77 (sc_73 hS) rfl (rr_73_32 hS) ?_
    refine wx_iload_n dX12_findLeast_28 rfl ?_
    obtain ⟨w_29, h⟩ := ok_some h
    obtain ⟨b_29, wr_29, h⟩ := bd1_some h
    refine wx_aald dX12_findLeast_29 (sc_93 hS) (by decide) (by decide) (ix_in w_29) wr_29 ?_
    refine wx_iload dX12_findLeast_30 rfl ?_
    refine wx_iconst (v := 0) dX12_findLeast_32 (by decide) ?_
    obtain ⟨w_33, h⟩ := ok_some h
    obtain ⟨ln_33, wt_33, wi_33⟩ := xk_some w_33
    refine wx_bast dX12_findLeast_33 wt_33 wi_33 rfl ?_
    refine wx_namM (fun M_33 q_33 => ?_)
    replace h := nm_at h q_33
    refine wx_aload_n dX12_findLeast_34 rfl ?_
    refine wx_getR dX12_findLeast_35 fl_X12_80 (sc_73 hS) rfl (rr_73_33 hS) ?_
    refine wx_iload_n dX12_findLeast_38 rfl ?_
    obtain ⟨w_39, h⟩ := ok_some h
    obtain ⟨b_39, wr_39, h⟩ := bd1_some h
    refine wx_aald dX12_findLeast_39 (sc_135 hS) (by decide) (by decide) (ix_in w_39) wr_39 ?_
    refine wx_iload dX12_findLeast_40 rfl ?_
    refine wx_iconst (v := 0) dX12_findLeast_42 (by decide) ?_
    obtain ⟨w_43, h⟩ := ok_some h
    obtain ⟨ln_43, wt_43, wi_43⟩ := xk_some w_43
    refine wx_bast dX12_findLeast_43 wt_43 wi_43 rfl ?_
    refine wx_namM (fun M_43 q_43 => ?_)
    replace h := nm_at h q_43
    refine wx_iinc (lv' := [(4, _), (0, _), (1, _), (2, _), (3, _)]) dX12_findLeast_44 rfl (i_1 _) (by decide) rfl ?_
    refine wx_goto (tgt := 16) dX12_findLeast_47 (by decide) ?_
    obtain rfl := Option.some.inj h
    replace g := sE_l g
    exact wx_sub g (px_s rfl (px_s rfl (px_s rfl (px_s rfl (px_s rfl px_0)))))
theorem s_X12_findLeast_16 {x1 : Int32} {x2 : Int32} {x3 : Int32} {x4 : Int32} {M : px_M} {L : px_L} {R : px_R} {e : (px_M)} (hS : SR sh R) (hd : 2 ≤ d) (hcu : cu ≤ mc) (hsu : su ≤ ms) (h : lpf (fun a : Int32 × px_M => f_X12_findLeast_16 sh a.2 R x1 x2 x3 a.1) (x4, M) = some e) (g : WX RX12 cX12_findLeast 7 none ("findLeast", []) d mc ms X (px_QF Post mc ms) 50 [(0, .ref 73), (1, .int x1), (2, .int x2), (3, .int x3)] [] sh e L R n cu su) : WX RX12 cX12_findLeast 7 none ("findLeast", []) d mc ms X (px_QF Post mc ms) 16 [(0, .ref 73), (1, .int x1), (2, .int x2), (3, .int x3), (4, .int x4)] [] sh M L R n cu su := by
  have key := lpf_wp (P := (fun a => WX RX12 cX12_findLeast 7 none ("findLeast", []) d mc ms X (px_QF Post mc ms) 16 [(0, .ref 73), (1, .int x1), (2, .int x2), (3, .int x3), (4, .int a.1)] [] sh (a.2) L R n cu su)) (G := (fun t => WX RX12 cX12_findLeast 7 none ("findLeast", []) d mc ms X (px_QF Post mc ms) 50 [(0, .ref 73), (1, .int x1), (2, .int x2), (3, .int x3)] [] sh t L R n cu su)) (fun a r h g => s_X12_findLeast_16b (x1 := x1) (x2 := x2) (x3 := x3) (x4 := a.1) (M := a.2) (L := L) (R := R) hS hd hcu hsu h g) (a := (x4, M)) h g
  exact key
noncomputable def f_X12_findLeast_233 (sh : px_Sh) (M : px_M) (R : px_R) (x2 : Int32) (x3 : Int32) : Option ((Int32 × px_M) ⊕ (px_M)) :=
  if x3 < 0 then
    some (.inr M)
  else
    bd1 (lpf (fun a : Int32 × px_M => f_X12_findLeast_240 sh a.2 R x2 x3 a.1) (0, M)) fun e_240 =>
    some (.inl ((x3 + -1), e_240))
theorem s_X12_findLeast_233b {x2 : Int32} {x3 : Int32} {M : px_M} {L : px_L} {R : px_R} {e : ((Int32 × px_M) ⊕ (px_M))} (hS : SR sh R) (hd : 2 ≤ d) (hcu : cu ≤ mc) (hsu : su ≤ ms) (h : f_X12_findLeast_233 sh M R x2 x3 = some e) (g : (sE (fun a => WX RX12 cX12_findLeast 7 none ("findLeast", []) d mc ms X (px_QF Post mc ms) 233 [(0, .ref 73), (2, .int x2), (3, .int a.1)] [] sh (a.2) L R n cu su) (fun t => WX RX12 cX12_findLeast 7 none ("findLeast", []) d mc ms X (px_QF Post mc ms) 335 [] [] sh t L R n cu su)) e) : WX RX12 cX12_findLeast 7 none ("findLeast", []) d mc ms X (px_QF Post mc ms) 233 [(0, .ref 73), (2, .int x2), (3, .int x3)] [] sh M L R n cu su := by
  unfold f_X12_findLeast_233 at h
  refine wx_iload_n dX12_findLeast_233 rfl ?_
  refine wx_if_lt (tgt := 335) dX12_findLeast_234 (by decide) (fun c_234 => ?_) (fun c_234 => ?_)
  · replace h := it_t h c_234
    obtain rfl := Option.some.inj h
    replace g := sE_r g
    exact wx_sub g px_0
  · replace h := it_f h c_234
    refine wx_iconst (v := 0) dX12_findLeast_237 (by decide) ?_
    refine wx_istore (lv' := [(4, _), (0, _), (2, _), (3, _)]) dX12_findLeast_238 (by decide) rfl ?_
    obtain ⟨e_240, k_240, h⟩ := bd1_some h
    refine wx_sub (s_X12_findLeast_240 hS hd hcu hsu k_240 ?_) (px_s rfl (px_s rfl (px_s rfl (px_s rfl px_0))))
    refine wx_iinc (lv' := [(3, _), (0, _), (2, _)]) dX12_findLeast_329 rfl (i_m1 _) (by decide) rfl ?_
    refine wx_goto (tgt := 233) dX12_findLeast_332 (by decide) ?_
    obtain rfl := Option.some.inj h
    replace g := sE_l g
    exact wx_sub g (px_s rfl (px_s rfl (px_s rfl px_0)))
theorem s_X12_findLeast_233 {x2 : Int32} {x3 : Int32} {M : px_M} {L : px_L} {R : px_R} {e : (px_M)} (hS : SR sh R) (hd : 2 ≤ d) (hcu : cu ≤ mc) (hsu : su ≤ ms) (h : lpf (fun a : Int32 × px_M => f_X12_findLeast_233 sh a.2 R x2 a.1) (x3, M) = some e) (g : WX RX12 cX12_findLeast 7 none ("findLeast", []) d mc ms X (px_QF Post mc ms) 335 [] [] sh e L R n cu su) : WX RX12 cX12_findLeast 7 none ("findLeast", []) d mc ms X (px_QF Post mc ms) 233 [(0, .ref 73), (2, .int x2), (3, .int x3)] [] sh M L R n cu su := by
  have key := lpf_wp (P := (fun a => WX RX12 cX12_findLeast 7 none ("findLeast", []) d mc ms X (px_QF Post mc ms) 233 [(0, .ref 73), (2, .int x2), (3, .int a.1)] [] sh (a.2) L R n cu su)) (G := (fun t => WX RX12 cX12_findLeast 7 none ("findLeast", []) d mc ms X (px_QF Post mc ms) 335 [] [] sh t L R n cu su)) (fun a r h g => s_X12_findLeast_233b (x2 := x2) (x3 := a.1) (M := a.2) (L := L) (R := R) hS hd hcu hsu h g) (a := (x3, M)) h g
  exact key
noncomputable def f_X12_findLeast_78 (sh : px_Sh) (M : px_M) (R : px_R) (x1 : Int32) (x2 : Int32) (x3 : Int32) : Option ((Int32 × px_M) ⊕ (px_M)) :=
  if 40 < x3 then
    some (.inr M)
  else
    if (M 73 34) = (-1) then
      bd1 (lpf (fun a : Int32 × px_M => f_X12_findLeast_95 sh a.2 R x1 x2 x3 a.1) (0, M)) fun e_95 =>
      some (.inl ((x3 + 1), e_95))
    else
      some (.inr M)
theorem s_X12_findLeast_78b {x1 : Int32} {x2 : Int32} {x3 : Int32} {M : px_M} {L : px_L} {R : px_R} {e : ((Int32 × px_M) ⊕ (px_M))} (hS : SR sh R) (hd : 2 ≤ d) (hcu : cu ≤ mc) (hsu : su ≤ ms) (h : f_X12_findLeast_78 sh M R x1 x2 x3 = some e) (g : (sE (fun a => WX RX12 cX12_findLeast 7 none ("findLeast", []) d mc ms X (px_QF Post mc ms) 78 [(0, .ref 73), (1, .int x1), (2, .int x2), (3, .int a.1)] [] sh (a.2) L R n cu su) (fun t => WX RX12 cX12_findLeast 7 none ("findLeast", []) d mc ms X (px_QF Post mc ms) 226 [(0, .ref 73), (2, .int x2)] [] sh t L R n cu su)) e) : WX RX12 cX12_findLeast 7 none ("findLeast", []) d mc ms X (px_QF Post mc ms) 78 [(0, .ref 73), (1, .int x1), (2, .int x2), (3, .int x3)] [] sh M L R n cu su := by
  unfold f_X12_findLeast_78 at h
  refine wx_iload_n dX12_findLeast_78 rfl ?_
  refine wx_bipush (v := 40) dX12_findLeast_79 (by decide) ?_
  refine wx_icmp_gt (tgt := 226) dX12_findLeast_81 (by decide) (fun c_81 => ?_) (fun c_81 => ?_)
  · replace h := it_t h c_81
    obtain rfl := Option.some.inj h
    replace g := sE_r g
    exact wx_sub g (px_s rfl (px_s rfl px_0))
  · replace h := it_f h c_81
    refine wx_aload_n dX12_findLeast_84 rfl ?_
    refine wx_getI dX12_findLeast_85 fl_X12_301 (sc_73 hS) rfl ?_
    refine wx_iconst (v := (-1)) dX12_findLeast_88 (by decide) ?_
    refine wx_icmp_ne (tgt := 226) dX12_findLeast_89 (by decide) (fun c_89 => ?_) (fun c_89 => ?_)
    · replace h := it_f h c_89
      obtain rfl := Option.some.inj h
      replace g := sE_r g
      exact wx_sub g (px_s rfl (px_s rfl px_0))
    · replace h := it_t h c_89
      refine wx_iconst (v := 0) dX12_findLeast_92 (by decide) ?_
      refine wx_istore (lv' := [(4, _), (0, _), (1, _), (2, _), (3, _)]) dX12_findLeast_93 (by decide) rfl ?_
      obtain ⟨e_95, k_95, h⟩ := bd1_some h
      refine wx_sub (s_X12_findLeast_95 hS hd hcu hsu k_95 ?_) (px_s rfl (px_s rfl (px_s rfl (px_s rfl (px_s rfl px_0)))))
      refine wx_iinc (lv' := [(3, _), (0, _), (1, _), (2, _)]) dX12_findLeast_220 rfl (i_1 _) (by decide) rfl ?_
      refine wx_goto (tgt := 78) dX12_findLeast_223 (by decide) ?_
      obtain rfl := Option.some.inj h
      replace g := sE_l g
      exact wx_sub g (px_s rfl (px_s rfl (px_s rfl (px_s rfl px_0))))
theorem s_X12_findLeast_78 {x1 : Int32} {x2 : Int32} {x3 : Int32} {M : px_M} {L : px_L} {R : px_R} {e : (px_M)} (hS : SR sh R) (hd : 2 ≤ d) (hcu : cu ≤ mc) (hsu : su ≤ ms) (h : lpf (fun a : Int32 × px_M => f_X12_findLeast_78 sh a.2 R x1 x2 a.1) (x3, M) = some e) (g : WX RX12 cX12_findLeast 7 none ("findLeast", []) d mc ms X (px_QF Post mc ms) 226 [(0, .ref 73), (2, .int x2)] [] sh e L R n cu su) : WX RX12 cX12_findLeast 7 none ("findLeast", []) d mc ms X (px_QF Post mc ms) 78 [(0, .ref 73), (1, .int x1), (2, .int x2), (3, .int x3)] [] sh M L R n cu su := by
  have key := lpf_wp (P := (fun a => WX RX12 cX12_findLeast 7 none ("findLeast", []) d mc ms X (px_QF Post mc ms) 78 [(0, .ref 73), (1, .int x1), (2, .int x2), (3, .int a.1)] [] sh (a.2) L R n cu su)) (G := (fun t => WX RX12 cX12_findLeast 7 none ("findLeast", []) d mc ms X (px_QF Post mc ms) 226 [(0, .ref 73), (2, .int x2)] [] sh t L R n cu su)) (fun a r h g => s_X12_findLeast_78b (x1 := x1) (x2 := x2) (x3 := a.1) (M := a.2) (L := L) (R := R) hS hd hcu hsu h g) (a := (x3, M)) h g
  exact key
noncomputable def f_X12_findLeast_7 (sh : px_Sh) (M : px_M) (R : px_R) (x1 : Int32) (x2 : Int32) (x3 : Int32) : Option ((Int32 × px_M) ⊕ (px_M)) :=
  if 40 < x3 then
    some (.inr M)
  else
    bd1 (lpf (fun a : Int32 × px_M => f_X12_findLeast_16 sh a.2 R x1 x2 x3 a.1) (0, M)) fun e_16 =>
    some (.inl ((x3 + 1), e_16))
theorem s_X12_findLeast_7b {x1 : Int32} {x2 : Int32} {x3 : Int32} {M : px_M} {L : px_L} {R : px_R} {e : ((Int32 × px_M) ⊕ (px_M))} (hS : SR sh R) (hd : 2 ≤ d) (hcu : cu ≤ mc) (hsu : su ≤ ms) (h : f_X12_findLeast_7 sh M R x1 x2 x3 = some e) (g : (sE (fun a => WX RX12 cX12_findLeast 7 none ("findLeast", []) d mc ms X (px_QF Post mc ms) 7 [(0, .ref 73), (1, .int x1), (2, .int x2), (3, .int a.1)] [] sh (a.2) L R n cu su) (fun t => WX RX12 cX12_findLeast 7 none ("findLeast", []) d mc ms X (px_QF Post mc ms) 56 [(0, .ref 73), (1, .int x1), (2, .int x2)] [] sh t L R n cu su)) e) : WX RX12 cX12_findLeast 7 none ("findLeast", []) d mc ms X (px_QF Post mc ms) 7 [(0, .ref 73), (1, .int x1), (2, .int x2), (3, .int x3)] [] sh M L R n cu su := by
  unfold f_X12_findLeast_7 at h
  refine wx_iload_n dX12_findLeast_7 rfl ?_
  refine wx_bipush (v := 40) dX12_findLeast_8 (by decide) ?_
  refine wx_icmp_gt (tgt := 56) dX12_findLeast_10 (by decide) (fun c_10 => ?_) (fun c_10 => ?_)
  · replace h := it_t h c_10
    obtain rfl := Option.some.inj h
    replace g := sE_r g
    exact wx_sub g (px_s rfl (px_s rfl (px_s rfl px_0)))
  · replace h := it_f h c_10
    refine wx_iconst (v := 0) dX12_findLeast_13 (by decide) ?_
    refine wx_istore (lv' := [(4, _), (0, _), (1, _), (2, _), (3, _)]) dX12_findLeast_14 (by decide) rfl ?_
    obtain ⟨e_16, k_16, h⟩ := bd1_some h
    refine wx_sub (s_X12_findLeast_16 hS hd hcu hsu k_16 ?_) (px_s rfl (px_s rfl (px_s rfl (px_s rfl (px_s rfl px_0)))))
    refine wx_iinc (lv' := [(3, _), (0, _), (1, _), (2, _)]) dX12_findLeast_50 rfl (i_1 _) (by decide) rfl ?_
    refine wx_goto (tgt := 7) dX12_findLeast_53 (by decide) ?_
    obtain rfl := Option.some.inj h
    replace g := sE_l g
    exact wx_sub g (px_s rfl (px_s rfl (px_s rfl (px_s rfl px_0))))
theorem s_X12_findLeast_7 {x1 : Int32} {x2 : Int32} {x3 : Int32} {M : px_M} {L : px_L} {R : px_R} {e : (px_M)} (hS : SR sh R) (hd : 2 ≤ d) (hcu : cu ≤ mc) (hsu : su ≤ ms) (h : lpf (fun a : Int32 × px_M => f_X12_findLeast_7 sh a.2 R x1 x2 a.1) (x3, M) = some e) (g : WX RX12 cX12_findLeast 7 none ("findLeast", []) d mc ms X (px_QF Post mc ms) 56 [(0, .ref 73), (1, .int x1), (2, .int x2)] [] sh e L R n cu su) : WX RX12 cX12_findLeast 7 none ("findLeast", []) d mc ms X (px_QF Post mc ms) 7 [(0, .ref 73), (1, .int x1), (2, .int x2), (3, .int x3)] [] sh M L R n cu su := by
  have key := lpf_wp (P := (fun a => WX RX12 cX12_findLeast 7 none ("findLeast", []) d mc ms X (px_QF Post mc ms) 7 [(0, .ref 73), (1, .int x1), (2, .int x2), (3, .int a.1)] [] sh (a.2) L R n cu su)) (G := (fun t => WX RX12 cX12_findLeast 7 none ("findLeast", []) d mc ms X (px_QF Post mc ms) 56 [(0, .ref 73), (1, .int x1), (2, .int x2)] [] sh t L R n cu su)) (fun a r h g => s_X12_findLeast_7b (x1 := x1) (x2 := x2) (x3 := a.1) (M := a.2) (L := L) (R := R) hS hd hcu hsu h g) (a := (x3, M)) h g
  exact key
noncomputable def f_X12_findLeast (sh : px_Sh) (M : px_M) (R : px_R) (p1 : Int32) (p2 : Int32) : Option (px_M) :=
  nm (px_u M 73 34 (-1)) fun M_2 =>
  bd1 (lpf (fun a : Int32 × px_M => f_X12_findLeast_7 sh a.2 R p1 p2 a.1) (0, M_2)) fun e_7 =>
  bd1 (R 93 (0 : Int32).toNatClampNeg) fun b_61 =>
  ok (xk sh b_61 15 ((72 * (e_7 73 25)) + (e_7 73 26))) <|
  nm (px_u e_7 b_61 ((72 * (e_7 73 25)) + (e_7 73 26)).toNatClampNeg 1) fun M_75 =>
  bd1 (lpf (fun a : Int32 × px_M => f_X12_findLeast_78 sh a.2 R p1 p2 a.1) (0, M_75)) fun e_78 =>
  nm ((e_78 73 34) - 1) fun v_232 =>
  bd1 (lpf (fun a : Int32 × px_M => f_X12_findLeast_233 sh a.2 R p2 a.1) (v_232, e_78)) fun e_233 =>
  some e_233
theorem s_X12_findLeast {d : Nat} {X : Nat × (Nat → Int32)} {sh : px_Sh} {M : px_M} {L : px_L} {R : px_R} {n : Nat} {p1 : Int32} {p2 : Int32} {e : px_M} (hS : SR sh R) (hd : 2 ≤ d) (h : f_X12_findLeast sh M R p1 p2 = some e) : MX yX12_findLeast cX12_findLeast 7 none d 0 0 X [.ref 73, .int p1, .int p2] sh M L R n (px_pu none sh e L R n) := by
  refine MX.of (by decide +kernel) (by exact Nat.le_of_ble_eq_true rfl) ?_
  have hcu : 0 ≤ 0 := Nat.zero_le _
  have hsu : 0 ≤ 0 := Nat.zero_le _
  have g : px_pu none sh e L R n none sh e L R n := ⟨rfl, rfl, rfl, rfl, rfl, rfl⟩
  unfold f_X12_findLeast at h
  refine wx_aload_n dX12_findLeast_0 rfl ?_
  refine wx_iconst (v := (-1)) dX12_findLeast_1 (by decide) ?_
  refine wx_putI dX12_findLeast_2 fl_X12_301 (sc_73 hS) (Or.inl rfl) rfl ⟨rfl, rfl⟩ ?_
  refine wx_namM (fun M_2 q_2 => ?_)
  replace h := nm_at h q_2
  refine wx_iconst (v := 0) dX12_findLeast_5 (by decide) ?_
  refine wx_istore_n (lv' := [(3, _), (0, _), (1, _), (2, _)]) dX12_findLeast_6 (by decide) rfl ?_
  obtain ⟨e_7, k_7, h⟩ := bd1_some h
  refine wx_sub (s_X12_findLeast_7 hS hd hcu hsu k_7 ?_) (px_s rfl (px_s rfl (px_s rfl (px_s rfl px_0))))
  refine wx_aload_n dX12_findLeast_56 rfl ?_
  refine wx_getR dX12_findLeast_57 fl_X12_77 (sc_73 hS) rfl (rr_73_32 hS) ?_
  refine wx_iconst (v := 0) dX12_findLeast_60 (by decide) ?_
  obtain ⟨b_61, wr_61, h⟩ := bd1_some h
  refine wx_aald dX12_findLeast_61 (sc_93 hS) (by decide) (by decide) (ix_in (by decide)) wr_61 ?_
  refine wx_bipush (v := 72) dX12_findLeast_62 (by decide) ?_
  refine wx_aload_n dX12_findLeast_64 rfl ?_
  refine wx_getI dX12_findLeast_65 fl_X12_59 (sc_73 hS) rfl ?_
  refine wx_imul dX12_findLeast_68 ?_
  refine wx_aload_n dX12_findLeast_69 rfl ?_
  refine wx_getI dX12_findLeast_70 fl_X12_304 (sc_73 hS) rfl ?_
  refine wx_iadd dX12_findLeast_73 ?_
  refine wx_iconst (v := 1) dX12_findLeast_74 (by decide) ?_
  obtain ⟨w_75, h⟩ := ok_some h
  obtain ⟨ln_75, wt_75, wi_75⟩ := xk_some w_75
  refine wx_bast dX12_findLeast_75 wt_75 wi_75 rfl ?_
  refine wx_namM (fun M_75 q_75 => ?_)
  replace h := nm_at h q_75
  refine wx_iconst (v := 0) dX12_findLeast_76 (by decide) ?_
  refine wx_istore_n (lv' := [(3, _), (0, _), (1, _), (2, _)]) dX12_findLeast_77 (by decide) rfl ?_
  obtain ⟨e_78, k_78, h⟩ := bd1_some h
  refine wx_sub (s_X12_findLeast_78 hS hd hcu hsu k_78 ?_) (px_s rfl (px_s rfl (px_s rfl (px_s rfl px_0))))
  refine wx_aload_n dX12_findLeast_226 rfl ?_
  refine wx_getI dX12_findLeast_227 fl_X12_301 (sc_73 hS) rfl ?_
  refine wx_iconst (v := 1) dX12_findLeast_230 (by decide) ?_
  refine wx_isub dX12_findLeast_231 ?_
  refine wx_nami (fun v_232 q_232 => ?_)
  replace h := nm_at h q_232
  refine wx_istore_n (lv' := [(3, _), (0, _), (2, _)]) dX12_findLeast_232 (by decide) rfl ?_
  obtain ⟨e_233, k_233, h⟩ := bd1_some h
  refine wx_sub (s_X12_findLeast_233 hS hd hcu hsu k_233 ?_) (px_s rfl (px_s rfl (px_s rfl px_0)))
  refine wx_vret dX12_findLeast_335 hcu hsu ?_
  obtain rfl := Option.some.inj h
  exact g
noncomputable def f_X12_least_173 (sh : px_Sh) (M : px_M) (R : px_R) (x2 : Int32) (x3 : Int32) (x4 : Int32) (x5 : Int32) (x6 : Int32) : Option ((Int32) ⊕ (Int32)) :=
  some (.inl (x5 + 1))
theorem s_X12_least_173 {x2 : Int32} {x3 : Int32} {x4 : Int32} {x5 : Int32} {x6 : Int32} {M : px_M} {L : px_L} {R : px_R} {e : ((Int32) ⊕ (Int32))} (hS : SR sh R) (hd : 5 ≤ d) (hcu : cu ≤ mc) (hsu : su ≤ ms) (h : f_X12_least_173 sh M R x2 x3 x4 x5 x6 = some e) (g : (sE (fun a => WX RX12 cX12_least 7 (some .int) ("least", []) d mc ms X (px_QF Post mc ms) 124 [(0, .ref 73), (2, .int x2), (3, .int x3), (4, .int x4), (5, .int a), (6, .int x6)] [] sh M L R n cu su) (fun t => WX RX12 cX12_least 7 (some .int) ("least", []) d mc ms X (px_QF Post mc ms) 179 [(0, .ref 73), (2, .int x2), (3, .int x3), (4, .int x4), (5, .int t), (6, .int x6)] [] sh M L R n cu su)) e) : WX RX12 cX12_least 7 (some .int) ("least", []) d mc ms X (px_QF Post mc ms) 173 [(0, .ref 73), (2, .int x2), (3, .int x3), (4, .int x4), (5, .int x5), (6, .int x6)] [] sh M L R n cu su := by
  unfold f_X12_least_173 at h
  refine wx_iinc (lv' := [(5, _), (0, _), (2, _), (3, _), (4, _), (6, _)]) dX12_least_173 rfl (i_1 _) (by decide) rfl ?_
  refine wx_goto (tgt := 124) dX12_least_176 (by decide) ?_
  obtain rfl := Option.some.inj h
  replace g := sE_l g
  exact wx_sub g (px_s rfl (px_s rfl (px_s rfl (px_s rfl (px_s rfl (px_s rfl px_0))))))
noncomputable def f_X12_least_124 (sh : px_Sh) (M : px_M) (R : px_R) (x2 : Int32) (x3 : Int32) (x4 : Int32) (x5 : Int32) (x6 : Int32) : Option ((Int32) ⊕ (Int32)) :=
  bd1 (f_X12_goesTo (x4 / 72) (x4 - x4 / 72 * 72) x5 x3) fun e_137 =>
  if e_137 = (-1) then
    f_X12_least_173 sh M R x2 x3 x4 x5 x6
  else
    nm (x6 + 1) fun v_152 =>
    ok (ix v_152 41) <|
    bd1 (R 135 v_152.toNatClampNeg) fun b_152 =>
    bd1 (f_X12_goesTo (x4 / 72) (x4 - x4 / 72 * 72) x5 x3) fun e_166 =>
    ok (xk sh b_152 15 e_166) <|
    if (M b_152 e_166.toNatClampNeg) = 0 then
      f_X12_least_173 sh M R x2 x3 x4 x5 x6
    else
      some (.inr x5)
theorem s_X12_least_124b {x2 : Int32} {x3 : Int32} {x4 : Int32} {x5 : Int32} {x6 : Int32} {M : px_M} {L : px_L} {R : px_R} {e : ((Int32) ⊕ (Int32))} (hS : SR sh R) (hd : 5 ≤ d) (hcu : cu ≤ mc) (hsu : su ≤ ms) (h : f_X12_least_124 sh M R x2 x3 x4 x5 x6 = some e) (g : (sE (fun a => WX RX12 cX12_least 7 (some .int) ("least", []) d mc ms X (px_QF Post mc ms) 124 [(0, .ref 73), (2, .int x2), (3, .int x3), (4, .int x4), (5, .int a), (6, .int x6)] [] sh M L R n cu su) (fun t => WX RX12 cX12_least 7 (some .int) ("least", []) d mc ms X (px_QF Post mc ms) 179 [(0, .ref 73), (2, .int x2), (3, .int x3), (4, .int x4), (5, .int t), (6, .int x6)] [] sh M L R n cu su)) e) : WX RX12 cX12_least 7 (some .int) ("least", []) d mc ms X (px_QF Post mc ms) 124 [(0, .ref 73), (2, .int x2), (3, .int x3), (4, .int x4), (5, .int x5), (6, .int x6)] [] sh M L R n cu su := by
  unfold f_X12_least_124 at h
  refine wx_iload dX12_least_124 rfl ?_
  refine wx_bipush (v := 72) dX12_least_126 (by decide) ?_
  refine wx_idiv dX12_least_128 (by decide) ?_
  refine wx_iload dX12_least_129 rfl ?_
  refine wx_bipush (v := 72) dX12_least_131 (by decide) ?_
  refine wx_irem dX12_least_133 (by decide) ?_
  refine wx_iload dX12_least_134 rfl ?_
  refine wx_iload_n dX12_least_136 rfl ?_
  obtain ⟨e_137, k_137, h⟩ := bd1_some h
  refine wx_cSi dX12_least_137 ml_X12_314 my_X12_goesTo sv_X12_goesTo (s_X12_goesTo (d := d - 1) hS (by omega) k_137) rfl (by omega) (by exact Nat.le_of_ble_eq_true rfl) hcu hsu ?_
  refine wx_iconst (v := (-1)) dX12_least_140 (by decide) ?_
  refine wx_icmp_eq (tgt := 173) dX12_least_141 (by decide) (fun c_141 => ?_) (fun c_141 => ?_)
  · replace h := it_t h c_141
    exact wx_sub (s_X12_least_173 hS hd hcu hsu h g) (px_s rfl (px_s rfl (px_s rfl (px_s rfl (px_s rfl (px_s rfl px_0))))))
  · replace h := it_f h c_141
    refine wx_aload_n dX12_least_144 rfl ?_
    refine wx_getR dX12_least_145 fl_X12_80 (sc_73 hS) rfl (rr_73_33 hS) ?_
    refine wx_iload dX12_least_148 rfl ?_
    refine wx_iconst (v := 1) dX12_least_150 (by decide) ?_
    refine wx_iadd dX12_least_151 ?_
    refine wx_nami (fun v_152 q_152 => ?_)
    replace h := nm_at h q_152
    obtain ⟨w_152, h⟩ := ok_some h
    obtain ⟨b_152, wr_152, h⟩ := bd1_some h
    refine wx_aald dX12_least_152 (sc_135 hS) (by decide) (by decide) (ix_in w_152) wr_152 ?_
    refine wx_iload dX12_least_153 rfl ?_
    refine wx_bipush (v := 72) dX12_least_155 (by decide) ?_
    refine wx_idiv dX12_least_157 (by decide) ?_
    refine wx_iload dX12_least_158 rfl ?_
    refine wx_bipush (v := 72) dX12_least_160 (by decide) ?_
    refine wx_irem dX12_least_162 (by decide) ?_
    refine wx_iload dX12_least_163 rfl ?_
    refine wx_iload_n dX12_least_165 rfl ?_
    obtain ⟨e_166, k_166, h⟩ := bd1_some h
    refine wx_cSi dX12_least_166 ml_X12_314 my_X12_goesTo sv_X12_goesTo (s_X12_goesTo (d := d - 1) hS (by omega) k_166) rfl (by omega) (by exact Nat.le_of_ble_eq_true rfl) hcu hsu ?_
    obtain ⟨w_169, h⟩ := ok_some h
    obtain ⟨ln_169, wt_169, wi_169⟩ := xk_some w_169
    refine wx_bald dX12_least_169 wt_169 wi_169 ?_
    refine wx_if_ne (tgt := 179) dX12_least_170 (by decide) (fun c_170 => ?_) (fun c_170 => ?_)
    · replace h := it_f h c_170
      obtain rfl := Option.some.inj h
      replace g := sE_r g
      exact wx_sub g (px_s rfl (px_s rfl (px_s rfl (px_s rfl (px_s rfl (px_s rfl px_0))))))
    · replace h := it_t h c_170
      exact wx_sub (s_X12_least_173 hS hd hcu hsu h g) (px_s rfl (px_s rfl (px_s rfl (px_s rfl (px_s rfl (px_s rfl px_0))))))
theorem s_X12_least_124 {x2 : Int32} {x3 : Int32} {x4 : Int32} {x5 : Int32} {x6 : Int32} {M : px_M} {L : px_L} {R : px_R} {e : (Int32)} (hS : SR sh R) (hd : 5 ≤ d) (hcu : cu ≤ mc) (hsu : su ≤ ms) (h : lpf (fun a : Int32 => f_X12_least_124 sh M R x2 x3 x4 a x6) x5 = some e) (g : WX RX12 cX12_least 7 (some .int) ("least", []) d mc ms X (px_QF Post mc ms) 179 [(0, .ref 73), (2, .int x2), (3, .int x3), (4, .int x4), (5, .int e), (6, .int x6)] [] sh M L R n cu su) : WX RX12 cX12_least 7 (some .int) ("least", []) d mc ms X (px_QF Post mc ms) 124 [(0, .ref 73), (2, .int x2), (3, .int x3), (4, .int x4), (5, .int x5), (6, .int x6)] [] sh M L R n cu su := by
  have key := lpf_wp (P := (fun a => WX RX12 cX12_least 7 (some .int) ("least", []) d mc ms X (px_QF Post mc ms) 124 [(0, .ref 73), (2, .int x2), (3, .int x3), (4, .int x4), (5, .int a), (6, .int x6)] [] sh M L R n cu su)) (G := (fun t => WX RX12 cX12_least 7 (some .int) ("least", []) d mc ms X (px_QF Post mc ms) 179 [(0, .ref 73), (2, .int x2), (3, .int x3), (4, .int x4), (5, .int t), (6, .int x6)] [] sh M L R n cu su)) (fun a r h g => s_X12_least_124b (x2 := x2) (x3 := x3) (x4 := x4) (x5 := a) (x6 := x6) (M := M) (L := L) (R := R) hS hd hcu hsu h g) (a := x5) h g
  exact key
noncomputable def f_X12_least_115 (sh : px_Sh) (M : px_M) (R : px_R) (x2 : Int32) (x3 : Int32) (x4 : Int32) (x5 : Int32) (x6 : Int32) : Option ((Int32 × Int32 × Int32) ⊕ (Int32)) :=
  if x2 < x6 then
    some (.inr x5)
  else
    bd1 (lpf (fun a : Int32 => f_X12_least_124 sh M R x2 x3 x4 a x6) 0) fun e_124 =>
    bd1 (f_X12_goesTo (x4 / 72) (x4 - x4 / 72 * 72) e_124 x3) fun e_192 =>
    some (.inl (e_192, e_124, (x6 + 1)))
theorem s_X12_least_115b {x2 : Int32} {x3 : Int32} {x4 : Int32} {x5 : Int32} {x6 : Int32} {M : px_M} {L : px_L} {R : px_R} {e : ((Int32 × Int32 × Int32) ⊕ (Int32))} (hS : SR sh R) (hd : 5 ≤ d) (hcu : cu ≤ mc) (hsu : su ≤ ms) (h : f_X12_least_115 sh M R x2 x3 x4 x5 x6 = some e) (g : (sE (fun a => WX RX12 cX12_least 7 (some .int) ("least", []) d mc ms X (px_QF Post mc ms) 115 [(0, .ref 73), (2, .int x2), (3, .int x3), (4, .int a.1), (5, .int a.2.1), (6, .int a.2.2)] [] sh M L R n cu su) (fun t => WX RX12 cX12_least 7 (some .int) ("least", []) d mc ms X (px_QF Post mc ms) 203 [(5, .int t)] [] sh M L R n cu su)) e) : WX RX12 cX12_least 7 (some .int) ("least", []) d mc ms X (px_QF Post mc ms) 115 [(0, .ref 73), (2, .int x2), (3, .int x3), (4, .int x4), (5, .int x5), (6, .int x6)] [] sh M L R n cu su := by
  unfold f_X12_least_115 at h
  refine wx_iload dX12_least_115 rfl ?_
  refine wx_iload_n dX12_least_117 rfl ?_
  refine wx_icmp_gt (tgt := 203) dX12_least_118 (by decide) (fun c_118 => ?_) (fun c_118 => ?_)
  · replace h := it_t h c_118
    obtain rfl := Option.some.inj h
    replace g := sE_r g
    exact wx_sub g (px_s rfl px_0)
  · replace h := it_f h c_118
    refine wx_iconst (v := 0) dX12_least_121 (by decide) ?_
    refine wx_istore (lv' := [(5, _), (0, _), (2, _), (3, _), (4, _), (6, _)]) dX12_least_122 (by decide) rfl ?_
    obtain ⟨e_124, k_124, h⟩ := bd1_some h
    refine wx_sub (s_X12_least_124 hS hd hcu hsu k_124 ?_) (px_s rfl (px_s rfl (px_s rfl (px_s rfl (px_s rfl (px_s rfl px_0))))))
    refine wx_iload dX12_least_179 rfl ?_
    refine wx_bipush (v := 72) dX12_least_181 (by decide) ?_
    refine wx_idiv dX12_least_183 (by decide) ?_
    refine wx_iload dX12_least_184 rfl ?_
    refine wx_bipush (v := 72) dX12_least_186 (by decide) ?_
    refine wx_irem dX12_least_188 (by decide) ?_
    refine wx_iload dX12_least_189 rfl ?_
    refine wx_iload_n dX12_least_191 rfl ?_
    obtain ⟨e_192, k_192, h⟩ := bd1_some h
    refine wx_cSi dX12_least_192 ml_X12_314 my_X12_goesTo sv_X12_goesTo (s_X12_goesTo (d := d - 1) hS (by omega) k_192) rfl (by omega) (by exact Nat.le_of_ble_eq_true rfl) hcu hsu ?_
    refine wx_istore (lv' := [(4, _), (0, _), (2, _), (3, _), (5, _), (6, _)]) dX12_least_195 (by decide) rfl ?_
    refine wx_iinc (lv' := [(6, _), (4, _), (0, _), (2, _), (3, _), (5, _)]) dX12_least_197 rfl (i_1 _) (by decide) rfl ?_
    refine wx_goto (tgt := 115) dX12_least_200 (by decide) ?_
    obtain rfl := Option.some.inj h
    replace g := sE_l g
    exact wx_sub g (px_s rfl (px_s rfl (px_s rfl (px_s rfl (px_s rfl (px_s rfl px_0))))))
theorem s_X12_least_115 {x2 : Int32} {x3 : Int32} {x4 : Int32} {x5 : Int32} {x6 : Int32} {M : px_M} {L : px_L} {R : px_R} {e : (Int32)} (hS : SR sh R) (hd : 5 ≤ d) (hcu : cu ≤ mc) (hsu : su ≤ ms) (h : lpf (fun a : Int32 × Int32 × Int32 => f_X12_least_115 sh M R x2 x3 a.1 a.2.1 a.2.2) (x4, x5, x6) = some e) (g : WX RX12 cX12_least 7 (some .int) ("least", []) d mc ms X (px_QF Post mc ms) 203 [(5, .int e)] [] sh M L R n cu su) : WX RX12 cX12_least 7 (some .int) ("least", []) d mc ms X (px_QF Post mc ms) 115 [(0, .ref 73), (2, .int x2), (3, .int x3), (4, .int x4), (5, .int x5), (6, .int x6)] [] sh M L R n cu su := by
  have key := lpf_wp (P := (fun a => WX RX12 cX12_least 7 (some .int) ("least", []) d mc ms X (px_QF Post mc ms) 115 [(0, .ref 73), (2, .int x2), (3, .int x3), (4, .int a.1), (5, .int a.2.1), (6, .int a.2.2)] [] sh M L R n cu su)) (G := (fun t => WX RX12 cX12_least 7 (some .int) ("least", []) d mc ms X (px_QF Post mc ms) 203 [(5, .int t)] [] sh M L R n cu su)) (fun a r h g => s_X12_least_115b (x2 := x2) (x3 := x3) (x4 := a.1) (x5 := a.2.1) (x6 := a.2.2) (M := M) (L := L) (R := R) hS hd hcu hsu h g) (a := (x4, x5, x6)) h g
  exact key
noncomputable def f_X12_least_94 (sh : px_Sh) (M : px_M) (R : px_R) (z0 : Int32) : Option (Int32 × px_M) :=
  some (z0, M)
theorem s_X12_least_94 {z0 : Int32} {M : px_M} {L : px_L} {R : px_R} {e : (Int32 × px_M)} (hS : SR sh R) (hd : 5 ≤ d) (hcu : cu ≤ mc) (hsu : su ≤ ms) (h : f_X12_least_94 sh M R z0 = some e) (g : Post (some (.int (e.1))) sh (e.2) L R n) : WX RX12 cX12_least 7 (some .int) ("least", []) d mc ms X (px_QF Post mc ms) 94 [] [.int z0] sh M L R n cu su := by
  unfold f_X12_least_94 at h
  refine wx_iret dX12_least_94 hcu hsu ?_
  obtain rfl := Option.some.inj h
  exact g
noncomputable def f_X12_least_81 (sh : px_Sh) (M : px_M) (R : px_R) (x2 : Int32) : Option (Int32 × px_M) :=
  if x2 = (-1) then
    f_X12_least_94 sh M R (M 73 34)
  else
    f_X12_least_94 sh M R (-1)
theorem s_X12_least_81 {x2 : Int32} {M : px_M} {L : px_L} {R : px_R} {e : (Int32 × px_M)} (hS : SR sh R) (hd : 5 ≤ d) (hcu : cu ≤ mc) (hsu : su ≤ ms) (h : f_X12_least_81 sh M R x2 = some e) (g : Post (some (.int (e.1))) sh (e.2) L R n) : WX RX12 cX12_least 7 (some .int) ("least", []) d mc ms X (px_QF Post mc ms) 81 [(0, .ref 73), (2, .int x2)] [] sh M L R n cu su := by
  unfold f_X12_least_81 at h
  refine wx_iload_n dX12_least_81 rfl ?_
  refine wx_iconst (v := (-1)) dX12_least_82 (by decide) ?_
  refine wx_icmp_ne (tgt := 93) dX12_least_83 (by decide) (fun c_83 => ?_) (fun c_83 => ?_)
  · replace h := it_f h c_83
    refine wx_iconst (v := (-1)) dX12_least_93 (by decide) ?_
    exact wx_sub (s_X12_least_94 hS hd hcu hsu h g) px_0
  · replace h := it_t h c_83
    refine wx_aload_n dX12_least_86 rfl ?_
    refine wx_getI dX12_least_87 fl_X12_301 (sc_73 hS) rfl ?_
    refine wx_goto (tgt := 94) dX12_least_90 (by decide) ?_
    exact wx_sub (s_X12_least_94 hS hd hcu hsu h g) px_0
noncomputable def f_X12_least_55 (sh : px_Sh) (M : px_M) (R : px_R) : Option (Int32 × px_M) :=
  some (0, M)
theorem s_X12_least_55 {M : px_M} {L : px_L} {R : px_R} {e : (Int32 × px_M)} (hS : SR sh R) (hd : 5 ≤ d) (hcu : cu ≤ mc) (hsu : su ≤ ms) (h : f_X12_least_55 sh M R = some e) (g : Post (some (.int (e.1))) sh (e.2) L R n) : WX RX12 cX12_least 7 (some .int) ("least", []) d mc ms X (px_QF Post mc ms) 55 [] [] sh M L R n cu su := by
  unfold f_X12_least_55 at h
  refine wx_iconst (v := 0) dX12_least_55 (by decide) ?_
  refine wx_iret dX12_least_56 hcu hsu ?_
  obtain rfl := Option.some.inj h
  exact g
noncomputable def f_X12_least_48 (sh : px_Sh) (M : px_M) (R : px_R) (x1 : Int32) (x2 : Int32) (z0 : Int32) : Option (Int32 × px_M) :=
  bd1 (f_X12_bad M z0 2) fun e_49 =>
  if e_49.1 = 0 then
    bd1 (f_X12_strength e_49.2) fun e_58 =>
    bd1 (f_X12_findLeast sh e_49.2 R x1 e_58) fun e_65 =>
    if x2 = (-1) then
      f_X12_least_81 sh e_65 R x2
    else
      if x2 < (e_65 73 34) then
        nm ((72 * (e_65 73 25)) + (e_65 73 26)) fun v_107 =>
        bd1 (lpf (fun a : Int32 × Int32 × Int32 => f_X12_least_115 sh e_65 R x2 e_58 a.1 a.2.1 a.2.2) (v_107, (-1), 0)) fun e_115 =>
        some (e_115, e_65)
      else
        f_X12_least_81 sh e_65 R x2
  else
    f_X12_least_55 sh e_49.2 R
theorem s_X12_least_48 {x1 : Int32} {x2 : Int32} {z0 : Int32} {M : px_M} {L : px_L} {R : px_R} {e : (Int32 × px_M)} (hS : SR sh R) (hd : 5 ≤ d) (hcu : cu ≤ mc) (hsu : su ≤ ms) (h : f_X12_least_48 sh M R x1 x2 z0 = some e) (g : Post (some (.int (e.1))) sh (e.2) L R n) : WX RX12 cX12_least 7 (some .int) ("least", []) d mc ms X (px_QF Post mc ms) 48 [(0, .ref 73), (1, .int x1), (2, .int x2)] [.int z0, .ref 73] sh M L R n cu su := by
  unfold f_X12_least_48 at h
  refine wx_iconst (v := 2) dX12_least_48 (by decide) ?_
  obtain ⟨e_49, k_49, h⟩ := bd1_some h
  refine wx_cVi dX12_least_49 ml_X12_207 my_X12_bad iv_X12_bad (sc_73 hS) (by decide) (s_X12_bad (d := d - 1) hS (by omega) k_49) rfl (by omega) (by exact Nat.le_of_ble_eq_true rfl) hcu hsu ?_
  refine wx_if_eq (tgt := 57) dX12_least_52 (by decide) (fun c_52 => ?_) (fun c_52 => ?_)
  · replace h := it_t h c_52
    refine wx_aload_n dX12_least_57 rfl ?_
    obtain ⟨e_58, k_58, h⟩ := bd1_some h
    refine wx_cVi dX12_least_58 ml_X12_317 my_X12_strength iv_X12_strength (sc_73 hS) (by decide) (s_X12_strength (d := d - 1) hS (by omega) k_58) rfl (by omega) (by exact Nat.le_of_ble_eq_true rfl) hcu hsu ?_
    refine wx_istore_n (lv' := [(3, _), (0, _), (1, _), (2, _)]) dX12_least_61 (by decide) rfl ?_
    refine wx_aload_n dX12_least_62 rfl ?_
    refine wx_iload_n dX12_least_63 rfl ?_
    refine wx_iload_n dX12_least_64 rfl ?_
    obtain ⟨e_65, k_65, h⟩ := bd1_some h
    refine wx_cVv dX12_least_65 ml_X12_321 my_X12_findLeast iv_X12_findLeast (sc_73 hS) (by decide) (s_X12_findLeast (d := d - 1) hS (by omega) k_65) rfl (by omega) (by exact Nat.le_of_ble_eq_true rfl) hcu hsu ?_
    refine wx_iload_n dX12_least_68 rfl ?_
    refine wx_iconst (v := (-1)) dX12_least_69 (by decide) ?_
    refine wx_icmp_eq (tgt := 81) dX12_least_70 (by decide) (fun c_70 => ?_) (fun c_70 => ?_)
    · replace h := it_t h c_70
      exact wx_sub (s_X12_least_81 hS hd hcu hsu h g) (px_s rfl (px_s rfl px_0))
    · replace h := it_f h c_70
      refine wx_iload_n dX12_least_73 rfl ?_
      refine wx_aload_n dX12_least_74 rfl ?_
      refine wx_getI dX12_least_75 fl_X12_301 (sc_73 hS) rfl ?_
      refine wx_icmp_lt (tgt := 95) dX12_least_78 (by decide) (fun c_78 => ?_) (fun c_78 => ?_)
      · replace h := it_t h c_78
        refine wx_bipush (v := 72) dX12_least_95 (by decide) ?_
        refine wx_aload_n dX12_least_97 rfl ?_
        refine wx_getI dX12_least_98 fl_X12_59 (sc_73 hS) rfl ?_
        refine wx_imul dX12_least_101 ?_
        refine wx_aload_n dX12_least_102 rfl ?_
        refine wx_getI dX12_least_103 fl_X12_304 (sc_73 hS) rfl ?_
        refine wx_iadd dX12_least_106 ?_
        refine wx_nami (fun v_107 q_107 => ?_)
        replace h := nm_at h q_107
        refine wx_istore (lv' := [(4, _), (3, _), (0, _), (1, _), (2, _)]) dX12_least_107 (by decide) rfl ?_
        refine wx_iconst (v := (-1)) dX12_least_109 (by decide) ?_
        refine wx_istore (lv' := [(5, _), (4, _), (3, _), (0, _), (1, _), (2, _)]) dX12_least_110 (by decide) rfl ?_
        refine wx_iconst (v := 0) dX12_least_112 (by decide) ?_
        refine wx_istore (lv' := [(6, _), (5, _), (4, _), (3, _), (0, _), (1, _), (2, _)]) dX12_least_113 (by decide) rfl ?_
        obtain ⟨e_115, k_115, h⟩ := bd1_some h
        refine wx_sub (s_X12_least_115 hS hd hcu hsu k_115 ?_) (px_s rfl (px_s rfl (px_s rfl (px_s rfl (px_s rfl (px_s rfl px_0))))))
        refine wx_iload dX12_least_203 rfl ?_
        refine wx_iret dX12_least_205 hcu hsu ?_
        obtain rfl := Option.some.inj h
        exact g
      · replace h := it_f h c_78
        exact wx_sub (s_X12_least_81 hS hd hcu hsu h g) (px_s rfl (px_s rfl px_0))
  · replace h := it_f h c_52
    exact wx_sub (s_X12_least_55 hS hd hcu hsu h g) px_0
noncomputable def f_X12_least_25 (sh : px_Sh) (M : px_M) (R : px_R) (x1 : Int32) (x2 : Int32) (z0 : Int32) : Option (Int32 × px_M) :=
  bd1 (f_X12_bad M z0 1) fun e_26 =>
  if e_26.1 = 0 then
    bd1 (f_X12_in x2 (-1) 39) fun e_37 =>
    if e_37 = 0 then
      f_X12_least_48 sh e_26.2 R x1 x2 1
    else
      f_X12_least_48 sh e_26.2 R x1 x2 0
  else
    f_X12_least_55 sh e_26.2 R
theorem s_X12_least_25 {x1 : Int32} {x2 : Int32} {z0 : Int32} {M : px_M} {L : px_L} {R : px_R} {e : (Int32 × px_M)} (hS : SR sh R) (hd : 5 ≤ d) (hcu : cu ≤ mc) (hsu : su ≤ ms) (h : f_X12_least_25 sh M R x1 x2 z0 = some e) (g : Post (some (.int (e.1))) sh (e.2) L R n) : WX RX12 cX12_least 7 (some .int) ("least", []) d mc ms X (px_QF Post mc ms) 25 [(0, .ref 73), (1, .int x1), (2, .int x2)] [.int z0, .ref 73] sh M L R n cu su := by
  unfold f_X12_least_25 at h
  refine wx_iconst (v := 1) dX12_least_25 (by decide) ?_
  obtain ⟨e_26, k_26, h⟩ := bd1_some h
  refine wx_cVi dX12_least_26 ml_X12_207 my_X12_bad iv_X12_bad (sc_73 hS) (by decide) (s_X12_bad (d := d - 1) hS (by omega) k_26) rfl (by omega) (by exact Nat.le_of_ble_eq_true rfl) hcu hsu ?_
  refine wx_if_ne (tgt := 55) dX12_least_29 (by decide) (fun c_29 => ?_) (fun c_29 => ?_)
  · replace h := it_f h c_29
    exact wx_sub (s_X12_least_55 hS hd hcu hsu h g) px_0
  · replace h := it_t h c_29
    refine wx_aload_n dX12_least_32 rfl ?_
    refine wx_iload_n dX12_least_33 rfl ?_
    refine wx_iconst (v := (-1)) dX12_least_34 (by decide) ?_
    refine wx_bipush (v := 39) dX12_least_35 (by decide) ?_
    obtain ⟨e_37, k_37, h⟩ := bd1_some h
    refine wx_cSi dX12_least_37 ml_X12_203 my_X12_in sv_X12_in (s_X12_in (d := d - 1) hS (by omega) k_37) rfl (by omega) (by exact Nat.le_of_ble_eq_true rfl) hcu hsu ?_
    refine wx_if_ne (tgt := 47) dX12_least_40 (by decide) (fun c_40 => ?_) (fun c_40 => ?_)
    · replace h := it_f h c_40
      refine wx_iconst (v := 0) dX12_least_47 (by decide) ?_
      exact wx_sub (s_X12_least_48 hS hd hcu hsu h g) (px_s rfl (px_s rfl (px_s rfl px_0)))
    · replace h := it_t h c_40
      refine wx_iconst (v := 1) dX12_least_43 (by decide) ?_
      refine wx_goto (tgt := 48) dX12_least_44 (by decide) ?_
      exact wx_sub (s_X12_least_48 hS hd hcu hsu h g) (px_s rfl (px_s rfl (px_s rfl px_0)))
noncomputable def f_X12_least (sh : px_Sh) (M : px_M) (R : px_R) (p1 : Int32) (p2 : Int32) : Option (Int32 × px_M) :=
  nm (px_u M 73 0 0) fun M_2 =>
  bd1 (f_X12_in p1 0 ((M_2 73 27) - 1)) fun e_14 =>
  if e_14 = 0 then
    f_X12_least_25 sh M_2 R p1 p2 1
  else
    f_X12_least_25 sh M_2 R p1 p2 0
theorem s_X12_least {d : Nat} {X : Nat × (Nat → Int32)} {sh : px_Sh} {M : px_M} {L : px_L} {R : px_R} {n : Nat} {p1 : Int32} {p2 : Int32} {e : Int32 × px_M} (hS : SR sh R) (hd : 5 ≤ d) (h : f_X12_least sh M R p1 p2 = some e) : MX yX12_least cX12_least 7 (some .int) d 0 0 X [.ref 73, .int p1, .int p2] sh M L R n (px_pu (some (.int e.1)) sh e.2 L R n) := by
  refine MX.of (by decide +kernel) (by exact Nat.le_of_ble_eq_true rfl) ?_
  have hcu : 0 ≤ 0 := Nat.zero_le _
  have hsu : 0 ≤ 0 := Nat.zero_le _
  have g : px_pu (some (.int e.1)) sh e.2 L R n (some (.int e.1)) sh e.2 L R n := ⟨rfl, rfl, rfl, rfl, rfl, rfl⟩
  unfold f_X12_least at h
  refine wx_aload_n dX12_least_0 rfl ?_
  refine wx_iconst (v := 0) dX12_least_1 (by decide) ?_
  refine wx_putI dX12_least_2 fl_X12_179 (sc_73 hS) (Or.inl rfl) rfl ⟨rfl, rfl⟩ ?_
  refine wx_namM (fun M_2 q_2 => ?_)
  replace h := nm_at h q_2
  refine wx_aload_n dX12_least_5 rfl ?_
  refine wx_iload_n dX12_least_6 rfl ?_
  refine wx_iconst (v := 0) dX12_least_7 (by decide) ?_
  refine wx_aload_n dX12_least_8 rfl ?_
  refine wx_getI dX12_least_9 fl_X12_289 (sc_73 hS) rfl ?_
  refine wx_iconst (v := 1) dX12_least_12 (by decide) ?_
  refine wx_isub dX12_least_13 ?_
  obtain ⟨e_14, k_14, h⟩ := bd1_some h
  refine wx_cSi dX12_least_14 ml_X12_203 my_X12_in sv_X12_in (s_X12_in (d := d - 1) hS (by omega) k_14) rfl (by omega) (by exact Nat.le_of_ble_eq_true rfl) hcu hsu ?_
  refine wx_if_ne (tgt := 24) dX12_least_17 (by decide) (fun c_17 => ?_) (fun c_17 => ?_)
  · replace h := it_f h c_17
    refine wx_iconst (v := 0) dX12_least_24 (by decide) ?_
    exact wx_sub (s_X12_least_25 hS hd hcu hsu h g) (px_s rfl (px_s rfl (px_s rfl px_0)))
  · replace h := it_t h c_17
    refine wx_iconst (v := 1) dX12_least_20 (by decide) ?_
    refine wx_goto (tgt := 25) dX12_least_21 (by decide) ?_
    exact wx_sub (s_X12_least_25 hS hd hcu hsu h g) (px_s rfl (px_s rfl (px_s rfl px_0)))
noncomputable def f_X12_goal_25 (M : px_M) (x1 : Int32) (z0 : Int32) : Option (Int32 × px_M) :=
  bd1 (f_X12_bad M z0 1) fun e_26 =>
  if e_26.1 = 0 then
    nm (e_26.2 73 28) fun v_38 =>
    nm (px_u e_26.2 73 28 x1) fun M_41 =>
    some (v_38, M_41)
  else
    some (0, e_26.2)
theorem s_X12_goal_25 {x1 : Int32} {z0 : Int32} {M : px_M} {L : px_L} {R : px_R} {e : (Int32 × px_M)} (hS : SR sh R) (hd : 1 ≤ d) (hcu : cu ≤ mc) (hsu : su ≤ ms) (h : f_X12_goal_25 M x1 z0 = some e) (g : Post (some (.int (e.1))) sh (e.2) L R n) : WX RX12 cX12_goal 3 (some .int) ("goal", []) d mc ms X (px_QF Post mc ms) 25 [(0, .ref 73), (1, .int x1)] [.int z0, .ref 73] sh M L R n cu su := by
  unfold f_X12_goal_25 at h
  refine wx_iconst (v := 1) dX12_goal_25 (by decide) ?_
  obtain ⟨e_26, k_26, h⟩ := bd1_some h
  refine wx_cVi dX12_goal_26 ml_X12_207 my_X12_bad iv_X12_bad (sc_73 hS) (by decide) (s_X12_bad (d := d - 1) hS (by omega) k_26) rfl (by omega) (by exact Nat.le_of_ble_eq_true rfl) hcu hsu ?_
  refine wx_if_eq (tgt := 34) dX12_goal_29 (by decide) (fun c_29 => ?_) (fun c_29 => ?_)
  · replace h := it_t h c_29
    refine wx_aload_n dX12_goal_34 rfl ?_
    refine wx_getI dX12_goal_35 fl_X12_63 (sc_73 hS) rfl ?_
    refine wx_nami (fun v_38 q_38 => ?_)
    replace h := nm_at h q_38
    refine wx_istore_n (lv' := [(2, _), (0, _), (1, _)]) dX12_goal_38 (by decide) rfl ?_
    refine wx_aload_n dX12_goal_39 rfl ?_
    refine wx_iload_n dX12_goal_40 rfl ?_
    refine wx_putI dX12_goal_41 fl_X12_63 (sc_73 hS) (Or.inl rfl) rfl ⟨rfl, rfl⟩ ?_
    refine wx_namM (fun M_41 q_41 => ?_)
    replace h := nm_at h q_41
    refine wx_iload_n dX12_goal_44 rfl ?_
    refine wx_iret dX12_goal_45 hcu hsu ?_
    obtain rfl := Option.some.inj h
    exact g
  · replace h := it_f h c_29
    refine wx_iconst (v := 0) dX12_goal_32 (by decide) ?_
    refine wx_iret dX12_goal_33 hcu hsu ?_
    obtain rfl := Option.some.inj h
    exact g
noncomputable def f_X12_goal (M : px_M) (p1 : Int32) : Option (Int32 × px_M) :=
  nm (px_u M 73 0 0) fun M_2 =>
  bd1 (f_X12_in p1 (-1) ((M_2 73 27) - 1)) fun e_14 =>
  if e_14 = 0 then
    f_X12_goal_25 M_2 p1 1
  else
    f_X12_goal_25 M_2 p1 0
theorem s_X12_goal {d : Nat} {X : Nat × (Nat → Int32)} {sh : px_Sh} {M : px_M} {L : px_L} {R : px_R} {n : Nat} {p1 : Int32} {e : Int32 × px_M} (hS : SR sh R) (hd : 1 ≤ d) (h : f_X12_goal M p1 = some e) : MX yX12_goal cX12_goal 3 (some .int) d 0 0 X [.ref 73, .int p1] sh M L R n (px_pu (some (.int e.1)) sh e.2 L R n) := by
  refine MX.of (by decide +kernel) (by exact Nat.le_of_ble_eq_true rfl) ?_
  have hcu : 0 ≤ 0 := Nat.zero_le _
  have hsu : 0 ≤ 0 := Nat.zero_le _
  have g : px_pu (some (.int e.1)) sh e.2 L R n (some (.int e.1)) sh e.2 L R n := ⟨rfl, rfl, rfl, rfl, rfl, rfl⟩
  unfold f_X12_goal at h
  refine wx_aload_n dX12_goal_0 rfl ?_
  refine wx_iconst (v := 0) dX12_goal_1 (by decide) ?_
  refine wx_putI dX12_goal_2 fl_X12_179 (sc_73 hS) (Or.inl rfl) rfl ⟨rfl, rfl⟩ ?_
  refine wx_namM (fun M_2 q_2 => ?_)
  replace h := nm_at h q_2
  refine wx_aload_n dX12_goal_5 rfl ?_
  refine wx_iload_n dX12_goal_6 rfl ?_
  refine wx_iconst (v := (-1)) dX12_goal_7 (by decide) ?_
  refine wx_aload_n dX12_goal_8 rfl ?_
  refine wx_getI dX12_goal_9 fl_X12_289 (sc_73 hS) rfl ?_
  refine wx_iconst (v := 1) dX12_goal_12 (by decide) ?_
  refine wx_isub dX12_goal_13 ?_
  obtain ⟨e_14, k_14, h⟩ := bd1_some h
  refine wx_cSi dX12_goal_14 ml_X12_203 my_X12_in sv_X12_in (s_X12_in (d := d - 1) hS (by omega) k_14) rfl (by omega) (by exact Nat.le_of_ble_eq_true rfl) hcu hsu ?_
  refine wx_if_ne (tgt := 24) dX12_goal_17 (by decide) (fun c_17 => ?_) (fun c_17 => ?_)
  · replace h := it_f h c_17
    refine wx_iconst (v := 0) dX12_goal_24 (by decide) ?_
    exact wx_sub (s_X12_goal_25 hS hd hcu hsu h g) (px_s rfl (px_s rfl px_0))
  · replace h := it_t h c_17
    refine wx_iconst (v := 1) dX12_goal_20 (by decide) ?_
    refine wx_goto (tgt := 25) dX12_goal_21 (by decide) ?_
    exact wx_sub (s_X12_goal_25 hS hd hcu hsu h g) (px_s rfl (px_s rfl px_0))
noncomputable def f_X12_feed_76 (M : px_M) (x1 : Int32) (x2 : Int32) (x3 : Int32) (x4 : Int32) (x5 : Int32) (x6 : Int32) (z0 : Int32) : Option ((Int32 × px_M) ⊕ (px_M)) :=
  nm ((z0 >>> ((24 - (8 * (x6 - x6 / 4 * 4))) &&& 31)) &&& 255) fun v_103 =>
  ok (ix (M 73 35) 300) <|
  nm (px_u M 177 (M 73 35).toNatClampNeg v_103) fun M_103 =>
  nm ((M_103 73 35) + 1) fun v_111 =>
  nm (px_u M_103 73 35 v_111) fun M_111 =>
  some (.inl ((x6 + 1), M_111))
theorem s_X12_feed_76 {x1 : Int32} {x2 : Int32} {x3 : Int32} {x4 : Int32} {x5 : Int32} {x6 : Int32} {z0 : Int32} {M : px_M} {L : px_L} {R : px_R} {e : ((Int32 × px_M) ⊕ (px_M))} (hS : SR sh R) (hd : 0 ≤ d) (hcu : cu ≤ mc) (hsu : su ≤ ms) (h : f_X12_feed_76 M x1 x2 x3 x4 x5 x6 z0 = some e) (g : (sE (fun a => WX RX12 cX12_feed 8 (some .int) ("feed", []) d mc ms X (px_QF Post mc ms) 23 [(0, .ref 73), (1, .int x1), (2, .int x2), (3, .int x3), (4, .int x4), (5, .int x5), (6, .int a.1)] [] sh (a.2) L R n cu su) (fun t => WX RX12 cX12_feed 8 (some .int) ("feed", []) d mc ms X (px_QF Post mc ms) 120 [(0, .ref 73)] [] sh t L R n cu su)) e) : WX RX12 cX12_feed 8 (some .int) ("feed", []) d mc ms X (px_QF Post mc ms) 76 [(0, .ref 73), (1, .int x1), (2, .int x2), (3, .int x3), (4, .int x4), (5, .int x5), (6, .int x6)] [.int z0] sh M L R n cu su := by
  unfold f_X12_feed_76 at h
  refine wx_istore (lv' := [(7, _), (0, _), (1, _), (2, _), (3, _), (4, _), (5, _), (6, _)]) dX12_feed_76 (by decide) rfl ?_
  refine wx_aload_n dX12_feed_78 rfl ?_
  refine wx_getR dX12_feed_79 fl_X12_86 (sc_73 hS) rfl (rr_73_39 hS) ?_
  refine wx_aload_n dX12_feed_82 rfl ?_
  refine wx_getI dX12_feed_83 fl_X12_324 (sc_73 hS) rfl ?_
  refine wx_iload dX12_feed_86 rfl ?_
  refine wx_bipush (v := 24) dX12_feed_88 (by decide) ?_
  refine wx_bipush (v := 8) dX12_feed_90 (by decide) ?_
  refine wx_iload dX12_feed_92 rfl ?_
  refine wx_iconst (v := 4) dX12_feed_94 (by decide) ?_
  refine wx_irem dX12_feed_95 (by decide) ?_
  refine wx_imul dX12_feed_96 ?_
  refine wx_isub dX12_feed_97 ?_
  refine wx_ishr dX12_feed_98 ?_
  refine wx_sipush (v := 255) dX12_feed_99 (by decide) ?_
  refine wx_iand dX12_feed_102 ?_
  refine wx_nami (fun v_103 q_103 => ?_)
  replace h := nm_at h q_103
  obtain ⟨w_103, h⟩ := ok_some h
  refine wx_iast dX12_feed_103 (sc_177 hS) (ix_in w_103) ?_
  refine wx_namM (fun M_103 q_103 => ?_)
  replace h := nm_at h q_103
  refine wx_aload_n dX12_feed_104 rfl ?_
  refine wx_dup dX12_feed_105 rfl ?_
  refine wx_getI dX12_feed_106 fl_X12_324 (sc_73 hS) rfl ?_
  refine wx_iconst (v := 1) dX12_feed_109 (by decide) ?_
  refine wx_iadd dX12_feed_110 ?_
  refine wx_nami (fun v_111 q_111 => ?_)
  replace h := nm_at h q_111
  refine wx_putI dX12_feed_111 fl_X12_324 (sc_73 hS) (Or.inl rfl) rfl ⟨rfl, rfl⟩ ?_
  refine wx_namM (fun M_111 q_111 => ?_)
  replace h := nm_at h q_111
  refine wx_iinc (lv' := [(6, _), (7, _), (0, _), (1, _), (2, _), (3, _), (4, _), (5, _)]) dX12_feed_114 rfl (i_1 _) (by decide) rfl ?_
  refine wx_goto (tgt := 23) dX12_feed_117 (by decide) ?_
  obtain rfl := Option.some.inj h
  replace g := sE_l g
  exact wx_sub g (px_s rfl (px_s rfl (px_s rfl (px_s rfl (px_s rfl (px_s rfl (px_s rfl px_0)))))))
noncomputable def f_X12_feed_23 (M : px_M) (x1 : Int32) (x2 : Int32) (x3 : Int32) (x4 : Int32) (x5 : Int32) (x6 : Int32) : Option ((Int32 × px_M) ⊕ (px_M)) :=
  if 20 ≤ x6 then
    some (.inr M)
  else
    if 4 ≤ x6 then
      if 8 ≤ x6 then
        if 12 ≤ x6 then
          if 16 ≤ x6 then
            f_X12_feed_76 M x1 x2 x3 x4 x5 x6 x5
          else
            f_X12_feed_76 M x1 x2 x3 x4 x5 x6 x4
        else
          f_X12_feed_76 M x1 x2 x3 x4 x5 x6 x3
      else
        f_X12_feed_76 M x1 x2 x3 x4 x5 x6 x2
    else
      f_X12_feed_76 M x1 x2 x3 x4 x5 x6 x1
theorem s_X12_feed_23b {x1 : Int32} {x2 : Int32} {x3 : Int32} {x4 : Int32} {x5 : Int32} {x6 : Int32} {M : px_M} {L : px_L} {R : px_R} {e : ((Int32 × px_M) ⊕ (px_M))} (hS : SR sh R) (hd : 0 ≤ d) (hcu : cu ≤ mc) (hsu : su ≤ ms) (h : f_X12_feed_23 M x1 x2 x3 x4 x5 x6 = some e) (g : (sE (fun a => WX RX12 cX12_feed 8 (some .int) ("feed", []) d mc ms X (px_QF Post mc ms) 23 [(0, .ref 73), (1, .int x1), (2, .int x2), (3, .int x3), (4, .int x4), (5, .int x5), (6, .int a.1)] [] sh (a.2) L R n cu su) (fun t => WX RX12 cX12_feed 8 (some .int) ("feed", []) d mc ms X (px_QF Post mc ms) 120 [(0, .ref 73)] [] sh t L R n cu su)) e) : WX RX12 cX12_feed 8 (some .int) ("feed", []) d mc ms X (px_QF Post mc ms) 23 [(0, .ref 73), (1, .int x1), (2, .int x2), (3, .int x3), (4, .int x4), (5, .int x5), (6, .int x6)] [] sh M L R n cu su := by
  unfold f_X12_feed_23 at h
  refine wx_iload dX12_feed_23 rfl ?_
  refine wx_bipush (v := 20) dX12_feed_25 (by decide) ?_
  refine wx_icmp_ge (tgt := 120) dX12_feed_27 (by decide) (fun c_27 => ?_) (fun c_27 => ?_)
  · replace h := it_t h c_27
    obtain rfl := Option.some.inj h
    replace g := sE_r g
    exact wx_sub g (px_s rfl px_0)
  · replace h := it_f h c_27
    refine wx_iload dX12_feed_30 rfl ?_
    refine wx_iconst (v := 4) dX12_feed_32 (by decide) ?_
    refine wx_icmp_ge (tgt := 40) dX12_feed_33 (by decide) (fun c_33 => ?_) (fun c_33 => ?_)
    · replace h := it_t h c_33
      refine wx_iload dX12_feed_40 rfl ?_
      refine wx_bipush (v := 8) dX12_feed_42 (by decide) ?_
      refine wx_icmp_ge (tgt := 51) dX12_feed_44 (by decide) (fun c_44 => ?_) (fun c_44 => ?_)
      · replace h := it_t h c_44
        refine wx_iload dX12_feed_51 rfl ?_
        refine wx_bipush (v := 12) dX12_feed_53 (by decide) ?_
        refine wx_icmp_ge (tgt := 62) dX12_feed_55 (by decide) (fun c_55 => ?_) (fun c_55 => ?_)
        · replace h := it_t h c_55
          refine wx_iload dX12_feed_62 rfl ?_
          refine wx_bipush (v := 16) dX12_feed_64 (by decide) ?_
          refine wx_icmp_ge (tgt := 74) dX12_feed_66 (by decide) (fun c_66 => ?_) (fun c_66 => ?_)
          · replace h := it_t h c_66
            refine wx_iload dX12_feed_74 rfl ?_
            exact wx_sub (s_X12_feed_76 hS hd hcu hsu h g) (px_s rfl (px_s rfl (px_s rfl (px_s rfl (px_s rfl (px_s rfl (px_s rfl px_0)))))))
          · replace h := it_f h c_66
            refine wx_iload dX12_feed_69 rfl ?_
            refine wx_goto (tgt := 76) dX12_feed_71 (by decide) ?_
            exact wx_sub (s_X12_feed_76 hS hd hcu hsu h g) (px_s rfl (px_s rfl (px_s rfl (px_s rfl (px_s rfl (px_s rfl (px_s rfl px_0)))))))
        · replace h := it_f h c_55
          refine wx_iload_n dX12_feed_58 rfl ?_
          refine wx_goto (tgt := 76) dX12_feed_59 (by decide) ?_
          exact wx_sub (s_X12_feed_76 hS hd hcu hsu h g) (px_s rfl (px_s rfl (px_s rfl (px_s rfl (px_s rfl (px_s rfl (px_s rfl px_0)))))))
      · replace h := it_f h c_44
        refine wx_iload_n dX12_feed_47 rfl ?_
        refine wx_goto (tgt := 76) dX12_feed_48 (by decide) ?_
        exact wx_sub (s_X12_feed_76 hS hd hcu hsu h g) (px_s rfl (px_s rfl (px_s rfl (px_s rfl (px_s rfl (px_s rfl (px_s rfl px_0)))))))
    · replace h := it_f h c_33
      refine wx_iload_n dX12_feed_36 rfl ?_
      refine wx_goto (tgt := 76) dX12_feed_37 (by decide) ?_
      exact wx_sub (s_X12_feed_76 hS hd hcu hsu h g) (px_s rfl (px_s rfl (px_s rfl (px_s rfl (px_s rfl (px_s rfl (px_s rfl px_0)))))))
theorem s_X12_feed_23 {x1 : Int32} {x2 : Int32} {x3 : Int32} {x4 : Int32} {x5 : Int32} {x6 : Int32} {M : px_M} {L : px_L} {R : px_R} {e : (px_M)} (hS : SR sh R) (hd : 0 ≤ d) (hcu : cu ≤ mc) (hsu : su ≤ ms) (h : lpf (fun a : Int32 × px_M => f_X12_feed_23 a.2 x1 x2 x3 x4 x5 a.1) (x6, M) = some e) (g : WX RX12 cX12_feed 8 (some .int) ("feed", []) d mc ms X (px_QF Post mc ms) 120 [(0, .ref 73)] [] sh e L R n cu su) : WX RX12 cX12_feed 8 (some .int) ("feed", []) d mc ms X (px_QF Post mc ms) 23 [(0, .ref 73), (1, .int x1), (2, .int x2), (3, .int x3), (4, .int x4), (5, .int x5), (6, .int x6)] [] sh M L R n cu su := by
  have key := lpf_wp (P := (fun a => WX RX12 cX12_feed 8 (some .int) ("feed", []) d mc ms X (px_QF Post mc ms) 23 [(0, .ref 73), (1, .int x1), (2, .int x2), (3, .int x3), (4, .int x4), (5, .int x5), (6, .int a.1)] [] sh (a.2) L R n cu su)) (G := (fun t => WX RX12 cX12_feed 8 (some .int) ("feed", []) d mc ms X (px_QF Post mc ms) 120 [(0, .ref 73)] [] sh t L R n cu su)) (fun a r h g => s_X12_feed_23b (x1 := x1) (x2 := x2) (x3 := x3) (x4 := x4) (x5 := x5) (x6 := a.1) (M := a.2) (L := L) (R := R) hS hd hcu hsu h g) (a := (x6, M)) h g
  exact key
noncomputable def f_X12_feed (M : px_M) (p1 : Int32) (p2 : Int32) (p3 : Int32) (p4 : Int32) (p5 : Int32) : Option (Int32 × px_M) :=
  nm (px_u M 73 0 0) fun M_2 =>
  if ((M_2 73 35) + 20) ≤ 300 then
    bd1 (lpf (fun a : Int32 × px_M => f_X12_feed_23 a.2 p1 p2 p3 p4 p5 a.1) (0, M_2)) fun e_23 =>
    some ((e_23 73 35), e_23)
  else
    some ((-1), M_2)
theorem s_X12_feed {d : Nat} {X : Nat × (Nat → Int32)} {sh : px_Sh} {M : px_M} {L : px_L} {R : px_R} {n : Nat} {p1 : Int32} {p2 : Int32} {p3 : Int32} {p4 : Int32} {p5 : Int32} {e : Int32 × px_M} (hS : SR sh R) (hd : 0 ≤ d) (h : f_X12_feed M p1 p2 p3 p4 p5 = some e) : MX yX12_feed cX12_feed 8 (some .int) d 0 0 X [.ref 73, .int p1, .int p2, .int p3, .int p4, .int p5] sh M L R n (px_pu (some (.int e.1)) sh e.2 L R n) := by
  refine MX.of (by decide +kernel) (by exact Nat.le_of_ble_eq_true rfl) ?_
  have hcu : 0 ≤ 0 := Nat.zero_le _
  have hsu : 0 ≤ 0 := Nat.zero_le _
  have g : px_pu (some (.int e.1)) sh e.2 L R n (some (.int e.1)) sh e.2 L R n := ⟨rfl, rfl, rfl, rfl, rfl, rfl⟩
  unfold f_X12_feed at h
  refine wx_aload_n dX12_feed_0 rfl ?_
  refine wx_iconst (v := 0) dX12_feed_1 (by decide) ?_
  refine wx_putI dX12_feed_2 fl_X12_179 (sc_73 hS) (Or.inl rfl) rfl ⟨rfl, rfl⟩ ?_
  refine wx_namM (fun M_2 q_2 => ?_)
  replace h := nm_at h q_2
  refine wx_aload_n dX12_feed_5 rfl ?_
  refine wx_getI dX12_feed_6 fl_X12_324 (sc_73 hS) rfl ?_
  refine wx_bipush (v := 20) dX12_feed_9 (by decide) ?_
  refine wx_iadd dX12_feed_11 ?_
  refine wx_sipush (v := 300) dX12_feed_12 (by decide) ?_
  refine wx_icmp_le (tgt := 20) dX12_feed_15 (by decide) (fun c_15 => ?_) (fun c_15 => ?_)
  · replace h := it_t h c_15
    refine wx_iconst (v := 0) dX12_feed_20 (by decide) ?_
    refine wx_istore (lv' := [(6, _), (0, _), (1, _), (2, _), (3, _), (4, _), (5, _)]) dX12_feed_21 (by decide) rfl ?_
    obtain ⟨e_23, k_23, h⟩ := bd1_some h
    refine wx_sub (s_X12_feed_23 hS hd hcu hsu k_23 ?_) (px_s rfl (px_s rfl (px_s rfl (px_s rfl (px_s rfl (px_s rfl (px_s rfl px_0)))))))
    refine wx_aload_n dX12_feed_120 rfl ?_
    refine wx_getI dX12_feed_121 fl_X12_324 (sc_73 hS) rfl ?_
    refine wx_iret dX12_feed_124 hcu hsu ?_
    obtain rfl := Option.some.inj h
    exact g
  · replace h := it_f h c_15
    refine wx_iconst (v := (-1)) dX12_feed_18 (by decide) ?_
    refine wx_iret dX12_feed_19 hcu hsu ?_
    obtain rfl := Option.some.inj h
    exact g
noncomputable def f_X12_byteAt_34 (M : px_M) (z0 : Int32) : Option (Int32) :=
  some z0
theorem s_X12_byteAt_34 {z0 : Int32} {M : px_M} {L : px_L} {R : px_R} {e : (Int32)} (hS : SR sh R) (hd : 0 ≤ d) (hcu : cu ≤ mc) (hsu : su ≤ ms) (h : f_X12_byteAt_34 M z0 = some e) (g : Post (some (.int e)) sh M L R n) : WX RX12 cX12_byteAt 2 (some .int) ("byteAt", []) d mc ms X (px_QF Post mc ms) 34 [] [.int z0] sh M L R n cu su := by
  unfold f_X12_byteAt_34 at h
  refine wx_iret dX12_byteAt_34 hcu hsu ?_
  obtain rfl := Option.some.inj h
  exact g
noncomputable def f_X12_byteAt (M : px_M) (p1 : Int32) : Option (Int32) :=
  if p1 < (M 73 79) then
    if (M 73 77) = 0 then
      ok (ix p1 300) <|
      f_X12_byteAt_34 M (M 177 p1.toNatClampNeg)
    else
      ok (ix p1 300) <|
      f_X12_byteAt_34 M (M 178 p1.toNatClampNeg)
  else
    f_X12_byteAt_34 M (-1)
theorem s_X12_byteAt {d : Nat} {X : Nat × (Nat → Int32)} {sh : px_Sh} {M : px_M} {L : px_L} {R : px_R} {n : Nat} {p1 : Int32} {e : Int32} (hS : SR sh R) (hd : 0 ≤ d) (h : f_X12_byteAt M p1 = some e) : MX yX12_byteAt cX12_byteAt 2 (some .int) d 0 0 X [.ref 73, .int p1] sh M L R n (px_pu (some (.int e)) sh M L R n) := by
  refine MX.of (by decide +kernel) (by exact Nat.le_of_ble_eq_true rfl) ?_
  have hcu : 0 ≤ 0 := Nat.zero_le _
  have hsu : 0 ≤ 0 := Nat.zero_le _
  have g : px_pu (some (.int e)) sh M L R n (some (.int e)) sh M L R n := ⟨rfl, rfl, rfl, rfl, rfl, rfl⟩
  unfold f_X12_byteAt at h
  refine wx_iload_n dX12_byteAt_0 rfl ?_
  refine wx_aload_n dX12_byteAt_1 rfl ?_
  refine wx_getI dX12_byteAt_2 fl_X12_327 (sc_73 hS) rfl ?_
  refine wx_icmp_lt (tgt := 12) dX12_byteAt_5 (by decide) (fun c_5 => ?_) (fun c_5 => ?_)
  · replace h := it_t h c_5
    refine wx_aload_n dX12_byteAt_12 rfl ?_
    refine wx_getI dX12_byteAt_13 fl_X12_330 (sc_73 hS) rfl ?_
    refine wx_if_ne (tgt := 28) dX12_byteAt_16 (by decide) (fun c_16 => ?_) (fun c_16 => ?_)
    · replace h := it_f h c_16
      refine wx_aload_n dX12_byteAt_28 rfl ?_
      refine wx_getR dX12_byteAt_29 fl_X12_89 (sc_73 hS) rfl (rr_73_40 hS) ?_
      refine wx_iload_n dX12_byteAt_32 rfl ?_
      obtain ⟨w_33, h⟩ := ok_some h
      refine wx_iald dX12_byteAt_33 (sc_178 hS) (ix_in w_33) ?_
      exact wx_sub (s_X12_byteAt_34 hS hd hcu hsu h g) px_0
    · replace h := it_t h c_16
      refine wx_aload_n dX12_byteAt_19 rfl ?_
      refine wx_getR dX12_byteAt_20 fl_X12_86 (sc_73 hS) rfl (rr_73_39 hS) ?_
      refine wx_iload_n dX12_byteAt_23 rfl ?_
      obtain ⟨w_24, h⟩ := ok_some h
      refine wx_iald dX12_byteAt_24 (sc_177 hS) (ix_in w_24) ?_
      refine wx_goto (tgt := 34) dX12_byteAt_25 (by decide) ?_
      exact wx_sub (s_X12_byteAt_34 hS hd hcu hsu h g) px_0
  · replace h := it_f h c_5
    refine wx_iconst (v := (-1)) dX12_byteAt_8 (by decide) ?_
    refine wx_goto (tgt := 34) dX12_byteAt_9 (by decide) ?_
    exact wx_sub (s_X12_byteAt_34 hS hd hcu hsu h g) px_0
noncomputable def f_X12_blanks_0 (M : px_M) : Option ((px_M) ⊕ (px_M)) :=
  bd1 (f_X12_byteAt M (M 73 78)) fun e_5 =>
  if e_5 = 32 then
    nm ((M 73 78) + 1) fun v_20 =>
    nm (px_u M 73 78 v_20) fun M_20 =>
    some (.inl M_20)
  else
    some (.inr M)
theorem s_X12_blanks_0b {M : px_M} {L : px_L} {R : px_R} {e : ((px_M) ⊕ (px_M))} (hS : SR sh R) (hd : 1 ≤ d) (hcu : cu ≤ mc) (hsu : su ≤ ms) (h : f_X12_blanks_0 M = some e) (g : (sE (fun a => WX RX12 cX12_blanks 1 none ("blanks", []) d mc ms X (px_QF Post mc ms) 0 [(0, .ref 73)] [] sh a L R n cu su) (fun t => WX RX12 cX12_blanks 1 none ("blanks", []) d mc ms X (px_QF Post mc ms) 26 [] [] sh t L R n cu su)) e) : WX RX12 cX12_blanks 1 none ("blanks", []) d mc ms X (px_QF Post mc ms) 0 [(0, .ref 73)] [] sh M L R n cu su := by
  unfold f_X12_blanks_0 at h
  refine wx_aload_n dX12_blanks_0 rfl ?_
  refine wx_aload_n dX12_blanks_1 rfl ?_
  refine wx_getI dX12_blanks_2 fl_X12_333 (sc_73 hS) rfl ?_
  obtain ⟨e_5, k_5, h⟩ := bd1_some h
  refine wx_cVi dX12_blanks_5 ml_X12_336 my_X12_byteAt iv_X12_byteAt (sc_73 hS) (by decide) (s_X12_byteAt (d := d - 1) hS (by omega) k_5) rfl (by omega) (by exact Nat.le_of_ble_eq_true rfl) hcu hsu ?_
  refine wx_bipush (v := 32) dX12_blanks_8 (by decide) ?_
  refine wx_icmp_ne (tgt := 26) dX12_blanks_10 (by decide) (fun c_10 => ?_) (fun c_10 => ?_)
  · replace h := it_f h c_10
    obtain rfl := Option.some.inj h
    replace g := sE_r g
    exact wx_sub g px_0
  · replace h := it_t h c_10
    refine wx_aload_n dX12_blanks_13 rfl ?_
    refine wx_dup dX12_blanks_14 rfl ?_
    refine wx_getI dX12_blanks_15 fl_X12_333 (sc_73 hS) rfl ?_
    refine wx_iconst (v := 1) dX12_blanks_18 (by decide) ?_
    refine wx_iadd dX12_blanks_19 ?_
    refine wx_nami (fun v_20 q_20 => ?_)
    replace h := nm_at h q_20
    refine wx_putI dX12_blanks_20 fl_X12_333 (sc_73 hS) (Or.inl rfl) rfl ⟨rfl, rfl⟩ ?_
    refine wx_namM (fun M_20 q_20 => ?_)
    replace h := nm_at h q_20
    refine wx_goto (tgt := 0) dX12_blanks_23 (by decide) ?_
    obtain rfl := Option.some.inj h
    replace g := sE_l g
    exact wx_sub g (px_s rfl px_0)
theorem s_X12_blanks_0 {M : px_M} {L : px_L} {R : px_R} {e : (px_M)} (hS : SR sh R) (hd : 1 ≤ d) (hcu : cu ≤ mc) (hsu : su ≤ ms) (h : lpf (fun a : px_M => f_X12_blanks_0 a) M = some e) (g : WX RX12 cX12_blanks 1 none ("blanks", []) d mc ms X (px_QF Post mc ms) 26 [] [] sh e L R n cu su) : WX RX12 cX12_blanks 1 none ("blanks", []) d mc ms X (px_QF Post mc ms) 0 [(0, .ref 73)] [] sh M L R n cu su := by
  have key := lpf_wp (P := (fun a => WX RX12 cX12_blanks 1 none ("blanks", []) d mc ms X (px_QF Post mc ms) 0 [(0, .ref 73)] [] sh a L R n cu su)) (G := (fun t => WX RX12 cX12_blanks 1 none ("blanks", []) d mc ms X (px_QF Post mc ms) 26 [] [] sh t L R n cu su)) (fun a r h g => s_X12_blanks_0b (M := a) (L := L) (R := R) hS hd hcu hsu h g) (a := M) h g
  exact key
noncomputable def f_X12_blanks (M : px_M) : Option (px_M) :=
  bd1 (lpf (fun a : px_M => f_X12_blanks_0 a) M) fun e_0 =>
  some e_0
theorem s_X12_blanks {d : Nat} {X : Nat × (Nat → Int32)} {sh : px_Sh} {M : px_M} {L : px_L} {R : px_R} {n : Nat} {e : px_M} (hS : SR sh R) (hd : 1 ≤ d) (h : f_X12_blanks M = some e) : MX yX12_blanks cX12_blanks 1 none d 0 0 X [.ref 73] sh M L R n (px_pu none sh e L R n) := by
  refine MX.of (by decide +kernel) (by exact Nat.le_of_ble_eq_true rfl) ?_
  have hcu : 0 ≤ 0 := Nat.zero_le _
  have hsu : 0 ≤ 0 := Nat.zero_le _
  have g : px_pu none sh e L R n none sh e L R n := ⟨rfl, rfl, rfl, rfl, rfl, rfl⟩
  unfold f_X12_blanks at h
  obtain ⟨e_0, k_0, h⟩ := bd1_some h
  refine wx_sub (s_X12_blanks_0 hS hd hcu hsu k_0 ?_) (px_s rfl px_0)
  refine wx_vret dX12_blanks_26 hcu hsu ?_
  obtain rfl := Option.some.inj h
  exact g
noncomputable def f_X12_isSmall_17 (z0 : Int32) : Option (Int32) :=
  ok (zb z0) <|
  some z0
theorem s_X12_isSmall_17 {z0 : Int32} {M : px_M} {L : px_L} {R : px_R} {e : (Int32)} (hS : SR sh R) (hd : 0 ≤ d) (hcu : cu ≤ mc) (hsu : su ≤ ms) (h : f_X12_isSmall_17 z0 = some e) (g : Post (some (.int e)) sh M L R n) : WX RX12 cX12_isSmall 1 (some .boolean) ("isSmall", []) d mc ms X (px_QF Post mc ms) 17 [] [.int z0] sh M L R n cu su := by
  unfold f_X12_isSmall_17 at h
  obtain ⟨w_17, h⟩ := ok_some h
  refine wx_zret dX12_isSmall_17 (zb_n w_17) hcu hsu ?_
  obtain rfl := Option.some.inj h
  exact g
noncomputable def f_X12_isSmall_16 : Option (Int32) :=
  f_X12_isSmall_17 0
theorem s_X12_isSmall_16 {M : px_M} {L : px_L} {R : px_R} {e : (Int32)} (hS : SR sh R) (hd : 0 ≤ d) (hcu : cu ≤ mc) (hsu : su ≤ ms) (h : f_X12_isSmall_16 = some e) (g : Post (some (.int e)) sh M L R n) : WX RX12 cX12_isSmall 1 (some .boolean) ("isSmall", []) d mc ms X (px_QF Post mc ms) 16 [] [] sh M L R n cu su := by
  unfold f_X12_isSmall_16 at h
  refine wx_iconst (v := 0) dX12_isSmall_16 (by decide) ?_
  exact wx_sub (s_X12_isSmall_17 hS hd hcu hsu h g) px_0
noncomputable def f_X12_isSmall (p0 : Int32) : Option (Int32) :=
  if p0 < 97 then
    f_X12_isSmall_16
  else
    if 122 < p0 then
      f_X12_isSmall_16
    else
      f_X12_isSmall_17 1
theorem s_X12_isSmall {d : Nat} {X : Nat × (Nat → Int32)} {sh : px_Sh} {M : px_M} {L : px_L} {R : px_R} {n : Nat} {p0 : Int32} {e : Int32} (hS : SR sh R) (hd : 0 ≤ d) (h : f_X12_isSmall p0 = some e) : MX yX12_isSmall cX12_isSmall 1 (some .boolean) d 0 0 X [.int p0] sh M L R n (px_pu (some (.int e)) sh M L R n) := by
  refine MX.of (by decide +kernel) (by exact Nat.le_of_ble_eq_true rfl) ?_
  have hcu : 0 ≤ 0 := Nat.zero_le _
  have hsu : 0 ≤ 0 := Nat.zero_le _
  have g : px_pu (some (.int e)) sh M L R n (some (.int e)) sh M L R n := ⟨rfl, rfl, rfl, rfl, rfl, rfl⟩
  unfold f_X12_isSmall at h
  refine wx_iload_n dX12_isSmall_0 rfl ?_
  refine wx_bipush (v := 97) dX12_isSmall_1 (by decide) ?_
  refine wx_icmp_lt (tgt := 16) dX12_isSmall_3 (by decide) (fun c_3 => ?_) (fun c_3 => ?_)
  · replace h := it_t h c_3
    exact wx_sub (s_X12_isSmall_16 hS hd hcu hsu h g) px_0
  · replace h := it_f h c_3
    refine wx_iload_n dX12_isSmall_6 rfl ?_
    refine wx_bipush (v := 122) dX12_isSmall_7 (by decide) ?_
    refine wx_icmp_gt (tgt := 16) dX12_isSmall_9 (by decide) (fun c_9 => ?_) (fun c_9 => ?_)
    · replace h := it_t h c_9
      exact wx_sub (s_X12_isSmall_16 hS hd hcu hsu h g) px_0
    · replace h := it_f h c_9
      refine wx_iconst (v := 1) dX12_isSmall_12 (by decide) ?_
      refine wx_goto (tgt := 17) dX12_isSmall_13 (by decide) ?_
      exact wx_sub (s_X12_isSmall_17 hS hd hcu hsu h g) px_0
end LIFT
