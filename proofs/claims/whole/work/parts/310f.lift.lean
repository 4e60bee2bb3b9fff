/-! the reference -/
section LIFT
variable {d mc ms : Nat} {X : Nat × (Nat → Int32)} {Post : px_Post} {sh : px_Sh} {n cu su : Nat}
noncomputable def f_X12_note_101 (M : px_M) (z0 : Int32) : Option (Int32 × px_M) :=
  some (z0, M)
theorem s_X12_note_101 {z0 : Int32} {M : px_M} {L : px_L} {R : px_R} {e : (Int32 × px_M)} (hS : SR sh R) (hd : 1 ≤ d) (hcu : cu ≤ mc) (hsu : su ≤ ms) (h : f_X12_note_101 M z0 = some e) (g : Post (some (.int (e.1))) sh (e.2) L R n) : WX RX12 cX12_note 3 (some .int) ("note", []) d mc ms X (px_QF Post mc ms) 101 [] [.int z0] sh M L R n cu su := by
  unfold f_X12_note_101 at h
  refine wx_iret dX12_note_101 hcu hsu ?_
  obtain rfl := Option.some.inj h
  exact g
noncomputable def f_X12_note_52 (M : px_M) : Option (Int32 × px_M) :=
  some ((-1), M)
theorem s_X12_note_52 {M : px_M} {L : px_L} {R : px_R} {e : (Int32 × px_M)} (hS : SR sh R) (hd : 1 ≤ d) (hcu : cu ≤ mc) (hsu : su ≤ ms) (h : f_X12_note_52 M = some e) (g : Post (some (.int (e.1))) sh (e.2) L R n) : WX RX12 cX12_note 3 (some .int) ("note", []) d mc ms X (px_QF Post mc ms) 52 [] [] sh M L R n cu su := by
  unfold f_X12_note_52 at h
  refine wx_iconst (v := (-1)) dX12_note_52 (by decide) ?_
  refine wx_iret dX12_note_53 hcu hsu ?_
  obtain rfl := Option.some.inj h
  exact g
noncomputable def f_X12_note_20 (M : px_M) (x1 : Int32) (x2 : Int32) (z0 : Int32) : Option (Int32 × px_M) :=
  bd1 (f_X12_bad M z0 1) fun e_21 =>
  if e_21.1 = 0 then
    if x1 < 0 then
      f_X12_note_52 e_21.2
    else
      if (e_21.2 73 24) ≤ x1 then
        f_X12_note_52 e_21.2
      else
        if ((e_21.2 73 24) - 64) ≤ x1 then
          if x2 = 0 then
            ok (ix x1 2000) <|
            f_X12_note_101 e_21.2 (e_21.2 181 x1.toNatClampNeg)
          else
            if x2 = 1 then
              ok (ix x1 2000) <|
              f_X12_note_101 e_21.2 (e_21.2 182 x1.toNatClampNeg)
            else
              if x2 = 2 then
                ok (ix x1 2000) <|
                f_X12_note_101 e_21.2 (e_21.2 183 x1.toNatClampNeg)
              else
                ok (ix x1 2000) <|
                f_X12_note_101 e_21.2 (e_21.2 184 x1.toNatClampNeg)
        else
          f_X12_note_52 e_21.2
  else
    some (0, e_21.2)
theorem s_X12_note_20 {x1 : Int32} {x2 : Int32} {z0 : Int32} {M : px_M} {L : px_L} {R : px_R} {e : (Int32 × px_M)} (hS : SR sh R) (hd : 1 ≤ d) (hcu : cu ≤ mc) (hsu : su ≤ ms) (h : f_X12_note_20 M x1 x2 z0 = some e) (g : Post (some (.int (e.1))) sh (e.2) L R n) : WX RX12 cX12_note 3 (some .int) ("note", []) d mc ms X (px_QF Post mc ms) 20 [(0, .ref 73), (1, .int x1), (2, .int x2)] [.int z0, .ref 73] sh M L R n cu su := by
  unfold f_X12_note_20 at h
  refine wx_iconst (v := 1) dX12_note_20 (by decide) ?_
  obtain ⟨e_21, k_21, h⟩ := bd1_some h
  refine wx_cVi dX12_note_21 ml_X12_207 my_X12_bad iv_X12_bad (sc_73 hS) (by decide) (s_X12_bad (d := d - 1) hS (by omega) k_21) rfl (by omega) (by exact Nat.le_of_ble_eq_true rfl) hcu hsu ?_
  refine wx_if_eq (tgt := 29) dX12_note_24 (by decide) (fun c_24 => ?_) (fun c_24 => ?_)
  · replace h := it_t h c_24
    refine wx_iload_n dX12_note_29 rfl ?_
    refine wx_if_lt (tgt := 52) dX12_note_30 (by decide) (fun c_30 => ?_) (fun c_30 => ?_)
    · replace h := it_t h c_30
      exact wx_sub (s_X12_note_52 hS hd hcu hsu h g) px_0
    · replace h := it_f h c_30
      refine wx_iload_n dX12_note_33 rfl ?_
      refine wx_aload_n dX12_note_34 rfl ?_
      refine wx_getI dX12_note_35 fl_X12_307 (sc_73 hS) rfl ?_
      refine wx_icmp_ge (tgt := 52) dX12_note_38 (by decide) (fun c_38 => ?_) (fun c_38 => ?_)
      · replace h := it_t h c_38
        exact wx_sub (s_X12_note_52 hS hd hcu hsu h g) px_0
      · replace h := it_f h c_38
        refine wx_iload_n dX12_note_41 rfl ?_
        refine wx_aload_n dX12_note_42 rfl ?_
        refine wx_getI dX12_note_43 fl_X12_307 (sc_73 hS) rfl ?_
        refine wx_bipush (v := 64) dX12_note_46 (by decide) ?_
        refine wx_isub dX12_note_48 ?_
        refine wx_icmp_ge (tgt := 54) dX12_note_49 (by decide) (fun c_49 => ?_) (fun c_49 => ?_)
        · replace h := it_t h c_49
          refine wx_iload_n dX12_note_54 rfl ?_
          refine wx_if_ne (tgt := 67) dX12_note_55 (by decide) (fun c_55 => ?_) (fun c_55 => ?_)
          · replace h := it_f h c_55
            refine wx_iload_n dX12_note_67 rfl ?_
            refine wx_iconst (v := 1) dX12_note_68 (by decide) ?_
            refine wx_icmp_ne (tgt := 81) dX12_note_69 (by decide) (fun c_69 => ?_) (fun c_69 => ?_)
            · replace h := it_f h c_69
              refine wx_iload_n dX12_note_81 rfl ?_
              refine wx_iconst (v := 2) dX12_note_82 (by decide) ?_
              refine wx_icmp_ne (tgt := 95) dX12_note_83 (by decide) (fun c_83 => ?_) (fun c_83 => ?_)
              · replace h := it_f h c_83
                refine wx_aload_n dX12_note_95 rfl ?_
                refine wx_getR dX12_note_96 fl_X12_107 (sc_73 hS) rfl (rr_73_47 hS) ?_
                refine wx_iload_n dX12_note_99 rfl ?_
                obtain ⟨w_100, h⟩ := ok_some h
                refine wx_iald dX12_note_100 (sc_184 hS) (ix_in w_100) ?_
                exact wx_sub (s_X12_note_101 hS hd hcu hsu h g) px_0
              · replace h := it_t h c_83
                refine wx_aload_n dX12_note_86 rfl ?_
                refine wx_getR dX12_note_87 fl_X12_104 (sc_73 hS) rfl (rr_73_46 hS) ?_
                refine wx_iload_n dX12_note_90 rfl ?_
                obtain ⟨w_91, h⟩ := ok_some h
                refine wx_iald dX12_note_91 (sc_183 hS) (ix_in w_91) ?_
                refine wx_goto (tgt := 101) dX12_note_92 (by decide) ?_
                exact wx_sub (s_X12_note_101 hS hd hcu hsu h g) px_0
            · replace h := it_t h c_69
              refine wx_aload_n dX12_note_72 rfl ?_
              refine wx_getR dX12_note_73 fl_X12_101 (sc_73 hS) rfl (rr_73_45 hS) ?_
              refine wx_iload_n dX12_note_76 rfl ?_
              obtain ⟨w_77, h⟩ := ok_some h
              refine wx_iald dX12_note_77 (sc_182 hS) (ix_in w_77) ?_
              refine wx_goto (tgt := 101) dX12_note_78 (by decide) ?_
              exact wx_sub (s_X12_note_101 hS hd hcu hsu h g) px_0
          · replace h := it_t h c_55
            refine wx_aload_n dX12_note_58 rfl ?_
            refine wx_getR dX12_note_59 fl_X12_98 (sc_73 hS) rfl (rr_73_44 hS) ?_
            refine wx_iload_n dX12_note_62 rfl ?_
            obtain ⟨w_63, h⟩ := ok_some h
            refine wx_iald dX12_note_63 (sc_181 hS) (ix_in w_63) ?_
            refine wx_goto (tgt := 101) dX12_note_64 (by decide) ?_
            exact wx_sub (s_X12_note_101 hS hd hcu hsu h g) px_0
        · replace h := it_f h c_49
          exact wx_sub (s_X12_note_52 hS hd hcu hsu h g) px_0
  · replace h := it_f h c_24
    refine wx_iconst (v := 0) dX12_note_27 (by decide) ?_
    refine wx_iret dX12_note_28 hcu hsu ?_
    obtain rfl := Option.some.inj h
    exact g
noncomputable def f_X12_note (M : px_M) (p1 : Int32) (p2 : Int32) : Option (Int32 × px_M) :=
  nm (px_u M 73 0 0) fun M_2 =>
  bd1 (f_X12_in p2 0 3) fun e_9 =>
  if e_9 = 0 then
    f_X12_note_20 M_2 p1 p2 1
  else
    f_X12_note_20 M_2 p1 p2 0
theorem s_X12_note {d : Nat} {X : Nat × (Nat → Int32)} {sh : px_Sh} {M : px_M} {L : px_L} {R : px_R} {n : Nat} {p1 : Int32} {p2 : Int32} {e : Int32 × px_M} (hS : SR sh R) (hd : 1 ≤ d) (h : f_X12_note M p1 p2 = some e) : MX yX12_note cX12_note 3 (some .int) d 0 0 X [.ref 73, .int p1, .int p2] sh M L R n (px_pu (some (.int e.1)) sh e.2 L R n) := by
  refine MX.of (by decide +kernel) (by exact Nat.le_of_ble_eq_true rfl) ?_
  have hcu : 0 ≤ 0 := Nat.zero_le _
  have hsu : 0 ≤ 0 := Nat.zero_le _
  have g : px_pu (some (.int e.1)) sh e.2 L R n (some (.int e.1)) sh e.2 L R n := ⟨rfl, rfl, rfl, rfl, rfl, rfl⟩
  unfold f_X12_note at h
  refine wx_aload_n dX12_note_0 rfl ?_
  refine wx_iconst (v := 0) dX12_note_1 (by decide) ?_
  refine wx_putI dX12_note_2 fl_X12_179 (sc_73 hS) (Or.inl rfl) rfl ⟨rfl, rfl⟩ ?_
  refine wx_namM (fun M_2 q_2 => ?_)
  replace h := nm_at h q_2
  refine wx_aload_n dX12_note_5 rfl ?_
  refine wx_iload_n dX12_note_6 rfl ?_
  refine wx_iconst (v := 0) dX12_note_7 (by decide) ?_
  refine wx_iconst (v := 3) dX12_note_8 (by decide) ?_
  obtain ⟨e_9, k_9, h⟩ := bd1_some h
  refine wx_cSi dX12_note_9 ml_X12_203 my_X12_in sv_X12_in (s_X12_in (d := d - 1) hS (by omega) k_9) rfl (by omega) (by exact Nat.le_of_ble_eq_true rfl) hcu hsu ?_
  refine wx_if_ne (tgt := 19) dX12_note_12 (by decide) (fun c_12 => ?_) (fun c_12 => ?_)
  · replace h := it_f h c_12
    refine wx_iconst (v := 0) dX12_note_19 (by decide) ?_
    exact wx_sub (s_X12_note_20 hS hd hcu hsu h g) (px_s rfl (px_s rfl (px_s rfl px_0)))
  · replace h := it_t h c_12
    refine wx_iconst (v := 1) dX12_note_15 (by decide) ?_
    refine wx_goto (tgt := 20) dX12_note_16 (by decide) ?_
    exact wx_sub (s_X12_note_20 hS hd hcu hsu h g) (px_s rfl (px_s rfl (px_s rfl px_0)))
noncomputable def f_X12_coat_39 (M : px_M) (x1 : Int32) (x2 : Int32) (z0 : Int32) : Option (Int32 × px_M) :=
  bd1 (f_X12_bad M z0 1) fun e_40 =>
  if e_40.1 = 0 then
    if (e_40.2 73 48) = 5 then
      some ((-1), e_40.2)
    else
      ok (ix (e_40.2 73 48) 5) <|
      nm (px_u e_40.2 185 (e_40.2 73 48).toNatClampNeg x1) fun M_67 =>
      ok (ix (M_67 73 48) 5) <|
      nm (px_u M_67 186 (M_67 73 48).toNatClampNeg x2) fun M_77 =>
      nm ((M_77 73 48) + 1) fun v_85 =>
      nm (px_u M_77 73 48 v_85) fun M_85 =>
      some (((M_85 73 48) - 1), M_85)
  else
    some (0, e_40.2)
theorem s_X12_coat_39 {x1 : Int32} {x2 : Int32} {z0 : Int32} {M : px_M} {L : px_L} {R : px_R} {e : (Int32 × px_M)} (hS : SR sh R) (hd : 1 ≤ d) (hcu : cu ≤ mc) (hsu : su ≤ ms) (h : f_X12_coat_39 M x1 x2 z0 = some e) (g : Post (some (.int (e.1))) sh (e.2) L R n) : WX RX12 cX12_coat 3 (some .int) ("coat", []) d mc ms X (px_QF Post mc ms) 39 [(0, .ref 73), (1, .int x1), (2, .int x2)] [.int z0, .ref 73] sh M L R n cu su := by
  unfold f_X12_coat_39 at h
  refine wx_iconst (v := 1) dX12_coat_39 (by decide) ?_
  obtain ⟨e_40, k_40, h⟩ := bd1_some h
  refine wx_cVi dX12_coat_40 ml_X12_207 my_X12_bad iv_X12_bad (sc_73 hS) (by decide) (s_X12_bad (d := d - 1) hS (by omega) k_40) rfl (by omega) (by exact Nat.le_of_ble_eq_true rfl) hcu hsu ?_
  refine wx_if_eq (tgt := 48) dX12_coat_43 (by decide) (fun c_43 => ?_) (fun c_43 => ?_)
  · replace h := it_t h c_43
    refine wx_aload_n dX12_coat_48 rfl ?_
    refine wx_getI dX12_coat_49 fl_X12_433 (sc_73 hS) rfl ?_
    refine wx_iconst (v := 5) dX12_coat_52 (by decide) ?_
    refine wx_icmp_ne (tgt := 58) dX12_coat_53 (by decide) (fun c_53 => ?_) (fun c_53 => ?_)
    · replace h := it_f h c_53
      refine wx_aload_n dX12_coat_58 rfl ?_
      refine wx_getR dX12_coat_59 fl_X12_110 (sc_73 hS) rfl (rr_73_50 hS) ?_
      refine wx_aload_n dX12_coat_62 rfl ?_
      refine wx_getI dX12_coat_63 fl_X12_433 (sc_73 hS) rfl ?_
      refine wx_iload_n dX12_coat_66 rfl ?_
      obtain ⟨w_67, h⟩ := ok_some h
      refine wx_iast dX12_coat_67 (sc_185 hS) (ix_in w_67) ?_
      refine wx_namM (fun M_67 q_67 => ?_)
      replace h := nm_at h q_67
      refine wx_aload_n dX12_coat_68 rfl ?_
      refine wx_getR dX12_coat_69 fl_X12_113 (sc_73 hS) rfl (rr_73_51 hS) ?_
      refine wx_aload_n dX12_coat_72 rfl ?_
      refine wx_getI dX12_coat_73 fl_X12_433 (sc_73 hS) rfl ?_
      refine wx_iload_n dX12_coat_76 rfl ?_
      obtain ⟨w_77, h⟩ := ok_some h
      refine wx_iast dX12_coat_77 (sc_186 hS) (ix_in w_77) ?_
      refine wx_namM (fun M_77 q_77 => ?_)
      replace h := nm_at h q_77
      refine wx_aload_n dX12_coat_78 rfl ?_
      refine wx_dup dX12_coat_79 rfl ?_
      refine wx_getI dX12_coat_80 fl_X12_433 (sc_73 hS) rfl ?_
      refine wx_iconst (v := 1) dX12_coat_83 (by decide) ?_
      refine wx_iadd dX12_coat_84 ?_
      refine wx_nami (fun v_85 q_85 => ?_)
      replace h := nm_at h q_85
      refine wx_putI dX12_coat_85 fl_X12_433 (sc_73 hS) (Or.inl rfl) rfl ⟨rfl, rfl⟩ ?_
      refine wx_namM (fun M_85 q_85 => ?_)
      replace h := nm_at h q_85
      refine wx_aload_n dX12_coat_88 rfl ?_
      refine wx_getI dX12_coat_89 fl_X12_433 (sc_73 hS) rfl ?_
      refine wx_iconst (v := 1) dX12_coat_92 (by decide) ?_
      refine wx_isub dX12_coat_93 ?_
      refine wx_iret dX12_coat_94 hcu hsu ?_
      obtain rfl := Option.some.inj h
      exact g
    · replace h := it_t h c_53
      refine wx_iconst (v := (-1)) dX12_coat_56 (by decide) ?_
      refine wx_iret dX12_coat_57 hcu hsu ?_
      obtain rfl := Option.some.inj h
      exact g
  · replace h := it_f h c_43
    refine wx_iconst (v := 0) dX12_coat_46 (by decide) ?_
    refine wx_iret dX12_coat_47 hcu hsu ?_
    obtain rfl := Option.some.inj h
    exact g
noncomputable def f_X12_coat_34 (M : px_M) (x1 : Int32) (x2 : Int32) : Option (Int32 × px_M) :=
  f_X12_coat_39 M x1 x2 1
theorem s_X12_coat_34 {x1 : Int32} {x2 : Int32} {M : px_M} {L : px_L} {R : px_R} {e : (Int32 × px_M)} (hS : SR sh R) (hd : 1 ≤ d) (hcu : cu ≤ mc) (hsu : su ≤ ms) (h : f_X12_coat_34 M x1 x2 = some e) (g : Post (some (.int (e.1))) sh (e.2) L R n) : WX RX12 cX12_coat 3 (some .int) ("coat", []) d mc ms X (px_QF Post mc ms) 34 [(0, .ref 73), (1, .int x1), (2, .int x2)] [.ref 73] sh M L R n cu su := by
  unfold f_X12_coat_34 at h
  refine wx_iconst (v := 1) dX12_coat_34 (by decide) ?_
  refine wx_goto (tgt := 39) dX12_coat_35 (by decide) ?_
  exact wx_sub (s_X12_coat_39 hS hd hcu hsu h g) (px_s rfl (px_s rfl (px_s rfl px_0)))
noncomputable def f_X12_coat (M : px_M) (p1 : Int32) (p2 : Int32) : Option (Int32 × px_M) :=
  nm (px_u M 73 0 0) fun M_2 =>
  bd1 (f_X12_in p1 0 100) fun e_10 =>
  if e_10 = 0 then
    f_X12_coat_34 M_2 p1 p2
  else
    bd1 (f_X12_in p2 0 100) fun e_20 =>
    if e_20 = 0 then
      f_X12_coat_34 M_2 p1 p2
    else
      if (p1 + p2) ≤ 100 then
        f_X12_coat_39 M_2 p1 p2 0
      else
        f_X12_coat_34 M_2 p1 p2
theorem s_X12_coat {d : Nat} {X : Nat × (Nat → Int32)} {sh : px_Sh} {M : px_M} {L : px_L} {R : px_R} {n : Nat} {p1 : Int32} {p2 : Int32} {e : Int32 × px_M} (hS : SR sh R) (hd : 1 ≤ d) (h : f_X12_coat M p1 p2 = some e) : MX yX12_coat cX12_coat 3 (some .int) d 0 0 X [.ref 73, .int p1, .int p2] sh M L R n (px_pu (some (.int e.1)) sh e.2 L R n) := by
  refine MX.of (by decide +kernel) (by exact Nat.le_of_ble_eq_true rfl) ?_
  have hcu : 0 ≤ 0 := Nat.zero_le _
  have hsu : 0 ≤ 0 := Nat.zero_le _
  have g : px_pu (some (.int e.1)) sh e.2 L R n (some (.int e.1)) sh e.2 L R n := ⟨rfl, rfl, rfl, rfl, rfl, rfl⟩
  unfold f_X12_coat at h
  refine wx_aload_n dX12_coat_0 rfl ?_
  refine wx_iconst (v := 0) dX12_coat_1 (by decide) ?_
  refine wx_putI dX12_coat_2 fl_X12_179 (sc_73 hS) (Or.inl rfl) rfl ⟨rfl, rfl⟩ ?_
  refine wx_namM (fun M_2 q_2 => ?_)
  replace h := nm_at h q_2
  refine wx_aload_n dX12_coat_5 rfl ?_
  refine wx_iload_n dX12_coat_6 rfl ?_
  refine wx_iconst (v := 0) dX12_coat_7 (by decide) ?_
  refine wx_bipush (v := 100) dX12_coat_8 (by decide) ?_
  obtain ⟨e_10, k_10, h⟩ := bd1_some h
  refine wx_cSi dX12_coat_10 ml_X12_203 my_X12_in sv_X12_in (s_X12_in (d := d - 1) hS (by omega) k_10) rfl (by omega) (by exact Nat.le_of_ble_eq_true rfl) hcu hsu ?_
  refine wx_if_eq (tgt := 34) dX12_coat_13 (by decide) (fun c_13 => ?_) (fun c_13 => ?_)
  · replace h := it_t h c_13
    exact wx_sub (s_X12_coat_34 hS hd hcu hsu h g) (px_s rfl (px_s rfl (px_s rfl px_0)))
  · replace h := it_f h c_13
    refine wx_iload_n dX12_coat_16 rfl ?_
    refine wx_iconst (v := 0) dX12_coat_17 (by decide) ?_
    refine wx_bipush (v := 100) dX12_coat_18 (by decide) ?_
    obtain ⟨e_20, k_20, h⟩ := bd1_some h
    refine wx_cSi dX12_coat_20 ml_X12_203 my_X12_in sv_X12_in (s_X12_in (d := d - 1) hS (by omega) k_20) rfl (by omega) (by exact Nat.le_of_ble_eq_true rfl) hcu hsu ?_
    refine wx_if_eq (tgt := 34) dX12_coat_23 (by decide) (fun c_23 => ?_) (fun c_23 => ?_)
    · replace h := it_t h c_23
      exact wx_sub (s_X12_coat_34 hS hd hcu hsu h g) (px_s rfl (px_s rfl (px_s rfl px_0)))
    · replace h := it_f h c_23
      refine wx_iload_n dX12_coat_26 rfl ?_
      refine wx_iload_n dX12_coat_27 rfl ?_
      refine wx_iadd dX12_coat_28 ?_
      refine wx_bipush (v := 100) dX12_coat_29 (by decide) ?_
      refine wx_icmp_le (tgt := 38) dX12_coat_31 (by decide) (fun c_31 => ?_) (fun c_31 => ?_)
      · replace h := it_t h c_31
        refine wx_iconst (v := 0) dX12_coat_38 (by decide) ?_
        exact wx_sub (s_X12_coat_39 hS hd hcu hsu h g) (px_s rfl (px_s rfl (px_s rfl px_0)))
      · replace h := it_f h c_31
        exact wx_sub (s_X12_coat_34 hS hd hcu hsu h g) (px_s rfl (px_s rfl (px_s rfl px_0)))
noncomputable def f_X12_sight_44 (M : px_M) (x1 : Int32) (x2 : Int32) (x3 : Int32) (z0 : Int32) : Option (Int32 × px_M) :=
  bd1 (f_X12_bad M z0 1) fun e_45 =>
  if e_45.1 = 0 then
    if (e_45.2 73 49) = 6 then
      some ((-1), e_45.2)
    else
      ok (ix (e_45.2 73 49) 6) <|
      nm (px_u e_45.2 187 (e_45.2 73 49).toNatClampNeg x1) fun M_73 =>
      ok (ix (M_73 73 49) 6) <|
      nm (px_u M_73 188 (M_73 73 49).toNatClampNeg x2) fun M_83 =>
      ok (ix (M_83 73 49) 6) <|
      nm (px_u M_83 189 (M_83 73 49).toNatClampNeg x3) fun M_93 =>
      nm ((M_93 73 49) + 1) fun v_101 =>
      nm (px_u M_93 73 49 v_101) fun M_101 =>
      some ((M_101 73 49), M_101)
  else
    some (0, e_45.2)
theorem s_X12_sight_44 {x1 : Int32} {x2 : Int32} {x3 : Int32} {z0 : Int32} {M : px_M} {L : px_L} {R : px_R} {e : (Int32 × px_M)} (hS : SR sh R) (hd : 1 ≤ d) (hcu : cu ≤ mc) (hsu : su ≤ ms) (h : f_X12_sight_44 M x1 x2 x3 z0 = some e) (g : Post (some (.int (e.1))) sh (e.2) L R n) : WX RX12 cX12_sight 4 (some .int) ("sight", []) d mc ms X (px_QF Post mc ms) 44 [(0, .ref 73), (1, .int x1), (2, .int x2), (3, .int x3)] [.int z0, .ref 73] sh M L R n cu su := by
  unfold f_X12_sight_44 at h
  refine wx_iconst (v := 1) dX12_sight_44 (by decide) ?_
  obtain ⟨e_45, k_45, h⟩ := bd1_some h
  refine wx_cVi dX12_sight_45 ml_X12_207 my_X12_bad iv_X12_bad (sc_73 hS) (by decide) (s_X12_bad (d := d - 1) hS (by omega) k_45) rfl (by omega) (by exact Nat.le_of_ble_eq_true rfl) hcu hsu ?_
  refine wx_if_eq (tgt := 53) dX12_sight_48 (by decide) (fun c_48 => ?_) (fun c_48 => ?_)
  · replace h := it_t h c_48
    refine wx_aload_n dX12_sight_53 rfl ?_
    refine wx_getI dX12_sight_54 fl_X12_437 (sc_73 hS) rfl ?_
    refine wx_bipush (v := 6) dX12_sight_57 (by decide) ?_
    refine wx_icmp_ne (tgt := 64) dX12_sight_59 (by decide) (fun c_59 => ?_) (fun c_59 => ?_)
    · replace h := it_f h c_59
      refine wx_aload_n dX12_sight_64 rfl ?_
      refine wx_getR dX12_sight_65 fl_X12_116 (sc_73 hS) rfl (rr_73_52 hS) ?_
      refine wx_aload_n dX12_sight_68 rfl ?_
      refine wx_getI dX12_sight_69 fl_X12_437 (sc_73 hS) rfl ?_
      refine wx_iload_n dX12_sight_72 rfl ?_
      obtain ⟨w_73, h⟩ := ok_some h
      refine wx_iast dX12_sight_73 (sc_187 hS) (ix_in w_73) ?_
      refine wx_namM (fun M_73 q_73 => ?_)
      replace h := nm_at h q_73
      refine wx_aload_n dX12_sight_74 rfl ?_
      refine wx_getR dX12_sight_75 fl_X12_119 (sc_73 hS) rfl (rr_73_53 hS) ?_
      refine wx_aload_n dX12_sight_78 rfl ?_
      refine wx_getI dX12_sight_79 fl_X12_437 (sc_73 hS) rfl ?_
      refine wx_iload_n dX12_sight_82 rfl ?_
      obtain ⟨w_83, h⟩ := ok_some h
      refine wx_iast dX12_sight_83 (sc_188 hS) (ix_in w_83) ?_
      refine wx_namM (fun M_83 q_83 => ?_)
      replace h := nm_at h q_83
      refine wx_aload_n dX12_sight_84 rfl ?_
      refine wx_getR dX12_sight_85 fl_X12_122 (sc_73 hS) rfl (rr_73_54 hS) ?_
      refine wx_aload_n dX12_sight_88 rfl ?_
      refine wx_getI dX12_sight_89 fl_X12_437 (sc_73 hS) rfl ?_
      refine wx_iload_n dX12_sight_92 rfl ?_
      obtain ⟨w_93, h⟩ := ok_some h
      refine wx_iast dX12_sight_93 (sc_189 hS) (ix_in w_93) ?_
      refine wx_namM (fun M_93 q_93 => ?_)
      replace h := nm_at h q_93
      refine wx_aload_n dX12_sight_94 rfl ?_
      refine wx_dup dX12_sight_95 rfl ?_
      refine wx_getI dX12_sight_96 fl_X12_437 (sc_73 hS) rfl ?_
      refine wx_iconst (v := 1) dX12_sight_99 (by decide) ?_
      refine wx_iadd dX12_sight_100 ?_
      refine wx_nami (fun v_101 q_101 => ?_)
      replace h := nm_at h q_101
      refine wx_putI dX12_sight_101 fl_X12_437 (sc_73 hS) (Or.inl rfl) rfl ⟨rfl, rfl⟩ ?_
      refine wx_namM (fun M_101 q_101 => ?_)
      replace h := nm_at h q_101
      refine wx_aload_n dX12_sight_104 rfl ?_
      refine wx_getI dX12_sight_105 fl_X12_437 (sc_73 hS) rfl ?_
      refine wx_iret dX12_sight_108 hcu hsu ?_
      obtain rfl := Option.some.inj h
      exact g
    · replace h := it_t h c_59
      refine wx_iconst (v := (-1)) dX12_sight_62 (by decide) ?_
      refine wx_iret dX12_sight_63 hcu hsu ?_
      obtain rfl := Option.some.inj h
      exact g
  · replace h := it_f h c_48
    refine wx_iconst (v := 0) dX12_sight_51 (by decide) ?_
    refine wx_iret dX12_sight_52 hcu hsu ?_
    obtain rfl := Option.some.inj h
    exact g
noncomputable def f_X12_sight_39 (M : px_M) (x1 : Int32) (x2 : Int32) (x3 : Int32) : Option (Int32 × px_M) :=
  f_X12_sight_44 M x1 x2 x3 1
theorem s_X12_sight_39 {x1 : Int32} {x2 : Int32} {x3 : Int32} {M : px_M} {L : px_L} {R : px_R} {e : (Int32 × px_M)} (hS : SR sh R) (hd : 1 ≤ d) (hcu : cu ≤ mc) (hsu : su ≤ ms) (h : f_X12_sight_39 M x1 x2 x3 = some e) (g : Post (some (.int (e.1))) sh (e.2) L R n) : WX RX12 cX12_sight 4 (some .int) ("sight", []) d mc ms X (px_QF Post mc ms) 39 [(0, .ref 73), (1, .int x1), (2, .int x2), (3, .int x3)] [.ref 73] sh M L R n cu su := by
  unfold f_X12_sight_39 at h
  refine wx_iconst (v := 1) dX12_sight_39 (by decide) ?_
  refine wx_goto (tgt := 44) dX12_sight_40 (by decide) ?_
  exact wx_sub (s_X12_sight_44 hS hd hcu hsu h g) (px_s rfl (px_s rfl (px_s rfl (px_s rfl px_0))))
noncomputable def f_X12_sight (M : px_M) (p1 : Int32) (p2 : Int32) (p3 : Int32) : Option (Int32 × px_M) :=
  nm (px_u M 73 0 0) fun M_2 =>
  bd1 (f_X12_in p1 (-8) 8) fun e_11 =>
  if e_11 = 0 then
    f_X12_sight_39 M_2 p1 p2 p3
  else
    bd1 (f_X12_in p2 0 1000000) fun e_22 =>
    if e_22 = 0 then
      f_X12_sight_39 M_2 p1 p2 p3
    else
      bd1 (f_X12_in p3 0 10000) fun e_33 =>
      if e_33 = 0 then
        f_X12_sight_39 M_2 p1 p2 p3
      else
        f_X12_sight_44 M_2 p1 p2 p3 0
theorem s_X12_sight {d : Nat} {X : Nat × (Nat → Int32)} {sh : px_Sh} {M : px_M} {L : px_L} {R : px_R} {n : Nat} {p1 : Int32} {p2 : Int32} {p3 : Int32} {e : Int32 × px_M} (hS : SR sh R) (hd : 1 ≤ d) (h : f_X12_sight M p1 p2 p3 = some e) : MX yX12_sight cX12_sight 4 (some .int) d 0 0 X [.ref 73, .int p1, .int p2, .int p3] sh M L R n (px_pu (some (.int e.1)) sh e.2 L R n) := by
  refine MX.of (by decide +kernel) (by exact Nat.le_of_ble_eq_true rfl) ?_
  have hcu : 0 ≤ 0 := Nat.zero_le _
  have hsu : 0 ≤ 0 := Nat.zero_le _
  have g : px_pu (some (.int e.1)) sh e.2 L R n (some (.int e.1)) sh e.2 L R n := ⟨rfl, rfl, rfl, rfl, rfl, rfl⟩
  unfold f_X12_sight at h
  refine wx_aload_n dX12_sight_0 rfl ?_
  refine wx_iconst (v := 0) dX12_sight_1 (by decide) ?_
  refine wx_putI dX12_sight_2 fl_X12_179 (sc_73 hS) (Or.inl rfl) rfl ⟨rfl, rfl⟩ ?_
  refine wx_namM (fun M_2 q_2 => ?_)
  replace h := nm_at h q_2
  refine wx_aload_n dX12_sight_5 rfl ?_
  refine wx_iload_n dX12_sight_6 rfl ?_
  refine wx_bipush (v := (-8)) dX12_sight_7 (by decide) ?_
  refine wx_bipush (v := 8) dX12_sight_9 (by decide) ?_
  obtain ⟨e_11, k_11, h⟩ := bd1_some h
  refine wx_cSi dX12_sight_11 ml_X12_203 my_X12_in sv_X12_in (s_X12_in (d := d - 1) hS (by omega) k_11) rfl (by omega) (by exact Nat.le_of_ble_eq_true rfl) hcu hsu ?_
  refine wx_if_eq (tgt := 39) dX12_sight_14 (by decide) (fun c_14 => ?_) (fun c_14 => ?_)
  · replace h := it_t h c_14
    exact wx_sub (s_X12_sight_39 hS hd hcu hsu h g) (px_s rfl (px_s rfl (px_s rfl (px_s rfl px_0))))
  · replace h := it_f h c_14
    refine wx_iload_n dX12_sight_17 rfl ?_
    refine wx_iconst (v := 0) dX12_sight_18 (by decide) ?_
    refine wx_ldcw dX12_sight_19 ki_X12_436 ?_
    obtain ⟨e_22, k_22, h⟩ := bd1_some h
    refine wx_cSi dX12_sight_22 ml_X12_203 my_X12_in sv_X12_in (s_X12_in (d := d - 1) hS (by omega) k_22) rfl (by omega) (by exact Nat.le_of_ble_eq_true rfl) hcu hsu ?_
    refine wx_if_eq (tgt := 39) dX12_sight_25 (by decide) (fun c_25 => ?_) (fun c_25 => ?_)
    · replace h := it_t h c_25
      exact wx_sub (s_X12_sight_39 hS hd hcu hsu h g) (px_s rfl (px_s rfl (px_s rfl (px_s rfl px_0))))
    · replace h := it_f h c_25
      refine wx_iload_n dX12_sight_28 rfl ?_
      refine wx_iconst (v := 0) dX12_sight_29 (by decide) ?_
      refine wx_sipush (v := 10000) dX12_sight_30 (by decide) ?_
      obtain ⟨e_33, k_33, h⟩ := bd1_some h
      refine wx_cSi dX12_sight_33 ml_X12_203 my_X12_in sv_X12_in (s_X12_in (d := d - 1) hS (by omega) k_33) rfl (by omega) (by exact Nat.le_of_ble_eq_true rfl) hcu hsu ?_
      refine wx_if_ne (tgt := 43) dX12_sight_36 (by decide) (fun c_36 => ?_) (fun c_36 => ?_)
      · replace h := it_f h c_36
        refine wx_iconst (v := 0) dX12_sight_43 (by decide) ?_
        exact wx_sub (s_X12_sight_44 hS hd hcu hsu h g) (px_s rfl (px_s rfl (px_s rfl (px_s rfl px_0))))
      · replace h := it_t h c_36
        exact wx_sub (s_X12_sight_39 hS hd hcu hsu h g) (px_s rfl (px_s rfl (px_s rfl (px_s rfl px_0))))
noncomputable def f_X12_waysOf_4 (M : px_M) (x1 : Int32) (x2 : Int32) (x3 : Int32) : Option ((Int32 × Int32) ⊕ (Int32)) :=
  if x1 ≤ x3 then
    some (.inr x2)
  else
    nm (x2 * (M 73 48)) fun v_15 =>
    some (.inl (v_15, (x3 + 1)))
theorem s_X12_waysOf_4b {x1 : Int32} {x2 : Int32} {x3 : Int32} {M : px_M} {L : px_L} {R : px_R} {e : ((Int32 × Int32) ⊕ (Int32))} (hS : SR sh R) (hd : 0 ≤ d) (hcu : cu ≤ mc) (hsu : su ≤ ms) (h : f_X12_waysOf_4 M x1 x2 x3 = some e) (g : (sE (fun a => WX RX12 cX12_waysOf 4 (some .int) ("waysOf", []) d mc ms X (px_QF Post mc ms) 4 [(0, .ref 73), (1, .int x1), (2, .int a.1), (3, .int a.2)] [] sh M L R n cu su) (fun t => WX RX12 cX12_waysOf 4 (some .int) ("waysOf", []) d mc ms X (px_QF Post mc ms) 22 [(2, .int t)] [] sh M L R n cu su)) e) : WX RX12 cX12_waysOf 4 (some .int) ("waysOf", []) d mc ms X (px_QF Post mc ms) 4 [(0, .ref 73), (1, .int x1), (2, .int x2), (3, .int x3)] [] sh M L R n cu su := by
  unfold f_X12_waysOf_4 at h
  refine wx_iload_n dX12_waysOf_4 rfl ?_
  refine wx_iload_n dX12_waysOf_5 rfl ?_
  refine wx_icmp_ge (tgt := 22) dX12_waysOf_6 (by decide) (fun c_6 => ?_) (fun c_6 => ?_)
  · replace h := it_t h c_6
    obtain rfl := Option.some.inj h
    replace g := sE_r g
    exact wx_sub g (px_s rfl px_0)
  · replace h := it_f h c_6
    refine wx_iload_n dX12_waysOf_9 rfl ?_
    refine wx_aload_n dX12_waysOf_10 rfl ?_
    refine wx_getI dX12_waysOf_11 fl_X12_433 (sc_73 hS) rfl ?_
    refine wx_imul dX12_waysOf_14 ?_
    refine wx_nami (fun v_15 q_15 => ?_)
    replace h := nm_at h q_15
    refine wx_istore_n (lv' := [(2, _), (0, _), (1, _), (3, _)]) dX12_waysOf_15 (by decide) rfl ?_
    refine wx_iinc (lv' := [(3, _), (2, _), (0, _), (1, _)]) dX12_waysOf_16 rfl (i_1 _) (by decide) rfl ?_
    refine wx_goto (tgt := 4) dX12_waysOf_19 (by decide) ?_
    obtain rfl := Option.some.inj h
    replace g := sE_l g
    exact wx_sub g (px_s rfl (px_s rfl (px_s rfl (px_s rfl px_0))))
theorem s_X12_waysOf_4 {x1 : Int32} {x2 : Int32} {x3 : Int32} {M : px_M} {L : px_L} {R : px_R} {e : (Int32)} (hS : SR sh R) (hd : 0 ≤ d) (hcu : cu ≤ mc) (hsu : su ≤ ms) (h : lpf (fun a : Int32 × Int32 => f_X12_waysOf_4 M x1 a.1 a.2) (x2, x3) = some e) (g : WX RX12 cX12_waysOf 4 (some .int) ("waysOf", []) d mc ms X (px_QF Post mc ms) 22 [(2, .int e)] [] sh M L R n cu su) : WX RX12 cX12_waysOf 4 (some .int) ("waysOf", []) d mc ms X (px_QF Post mc ms) 4 [(0, .ref 73), (1, .int x1), (2, .int x2), (3, .int x3)] [] sh M L R n cu su := by
  have key := lpf_wp (P := (fun a => WX RX12 cX12_waysOf 4 (some .int) ("waysOf", []) d mc ms X (px_QF Post mc ms) 4 [(0, .ref 73), (1, .int x1), (2, .int a.1), (3, .int a.2)] [] sh M L R n cu su)) (G := (fun t => WX RX12 cX12_waysOf 4 (some .int) ("waysOf", []) d mc ms X (px_QF Post mc ms) 22 [(2, .int t)] [] sh M L R n cu su)) (fun a r h g => s_X12_waysOf_4b (x1 := x1) (x2 := a.1) (x3 := a.2) (M := M) (L := L) (R := R) hS hd hcu hsu h g) (a := (x2, x3)) h g
  exact key
noncomputable def f_X12_waysOf (M : px_M) (p1 : Int32) : Option (Int32) :=
  bd1 (lpf (fun a : Int32 × Int32 => f_X12_waysOf_4 M p1 a.1 a.2) (1, 0)) fun e_4 =>
  some e_4
theorem s_X12_waysOf {d : Nat} {X : Nat × (Nat → Int32)} {sh : px_Sh} {M : px_M} {L : px_L} {R : px_R} {n : Nat} {p1 : Int32} {e : Int32} (hS : SR sh R) (hd : 0 ≤ d) (h : f_X12_waysOf M p1 = some e) : MX yX12_waysOf cX12_waysOf 4 (some .int) d 0 0 X [.ref 73, .int p1] sh M L R n (px_pu (some (.int e)) sh M L R n) := by
  refine MX.of (by decide +kernel) (by exact Nat.le_of_ble_eq_true rfl) ?_
  have hcu : 0 ≤ 0 := Nat.zero_le _
  have hsu : 0 ≤ 0 := Nat.zero_le _
  have g : px_pu (some (.int e)) sh M L R n (some (.int e)) sh M L R n := ⟨rfl, rfl, rfl, rfl, rfl, rfl⟩
  unfold f_X12_waysOf at h
  refine wx_iconst (v := 1) dX12_waysOf_0 (by decide) ?_
  refine wx_istore_n (lv' := [(2, _), (0, _), (1, _)]) dX12_waysOf_1 (by decide) rfl ?_
  refine wx_iconst (v := 0) dX12_waysOf_2 (by decide) ?_
  refine wx_istore_n (lv' := [(3, _), (2, _), (0, _), (1, _)]) dX12_waysOf_3 (by decide) rfl ?_
  obtain ⟨e_4, k_4, h⟩ := bd1_some h
  refine wx_sub (s_X12_waysOf_4 hS hd hcu hsu k_4 ?_) (px_s rfl (px_s rfl (px_s rfl (px_s rfl px_0))))
  refine wx_iload_n dX12_waysOf_22 rfl ?_
  refine wx_iret dX12_waysOf_23 hcu hsu ?_
  obtain rfl := Option.some.inj h
  exact g
noncomputable def f_X12_seen_76 (M : px_M) (x1 : Int32) (x2 : Int32) (x4 : Int32) (z0 : Int32) (z1 : Int32) : Option ((Int32 × Int32) ⊕ (Int32)) :=
  nm (z1 + z0) fun v_77 =>
  some (.inl (v_77, (x4 + 1)))
theorem s_X12_seen_76 {x1 : Int32} {x2 : Int32} {x4 : Int32} {z0 : Int32} {z1 : Int32} {M : px_M} {L : px_L} {R : px_R} {e : ((Int32 × Int32) ⊕ (Int32))} (hS : SR sh R) (hd : 3 ≤ d) (hcu : cu ≤ mc) (hsu : su ≤ ms) (h : f_X12_seen_76 M x1 x2 x4 z0 z1 = some e) (g : (sE (fun a => WX RX12 cX12_seen 5 (some .int) ("seen", []) d mc ms X (px_QF Post mc ms) 5 [(0, .ref 73), (1, .int x1), (2, .int x2), (3, .int a.1), (4, .int a.2)] [] sh M L R n cu su) (fun t => WX RX12 cX12_seen 5 (some .int) ("seen", []) d mc ms X (px_QF Post mc ms) 84 [(3, .int t)] [] sh M L R n cu su)) e) : WX RX12 cX12_seen 5 (some .int) ("seen", []) d mc ms X (px_QF Post mc ms) 76 [(0, .ref 73), (1, .int x1), (2, .int x2), (4, .int x4)] [.int z0, .int z1] sh M L R n cu su := by
  unfold f_X12_seen_76 at h
  refine wx_iadd dX12_seen_76 ?_
  refine wx_nami (fun v_77 q_77 => ?_)
  replace h := nm_at h q_77
  refine wx_istore_n (lv' := [(3, _), (0, _), (1, _), (2, _), (4, _)]) dX12_seen_77 (by decide) rfl ?_
  refine wx_iinc (lv' := [(4, _), (3, _), (0, _), (1, _), (2, _)]) dX12_seen_78 rfl (i_1 _) (by decide) rfl ?_
  refine wx_goto (tgt := 5) dX12_seen_81 (by decide) ?_
  obtain rfl := Option.some.inj h
  replace g := sE_l g
  exact wx_sub g (px_s rfl (px_s rfl (px_s rfl (px_s rfl (px_s rfl px_0)))))
noncomputable def f_X12_seen_5 (M : px_M) (x1 : Int32) (x2 : Int32) (x3 : Int32) (x4 : Int32) : Option ((Int32 × Int32) ⊕ (Int32)) :=
  if (M 73 9) ≤ x4 then
    some (.inr x3)
  else
    if x1 ≤ x4 then
      ok (ix x4 16) <|
      ok (ix x4 16) <|
      bd1 (f_X12_pushX M x4 x2 (M 82 x4.toNatClampNeg) (M 83 x4.toNatClampNeg)) fun e_73 =>
      f_X12_seen_76 M x1 x2 x4 e_73 x3
    else
      ok (ix x4 4) <|
      nm (M 190 x4.toNatClampNeg) fun v_36 =>
      ok (ix v_36 5) <|
      ok (ix x4 4) <|
      nm (M 190 x4.toNatClampNeg) fun v_48 =>
      ok (ix v_48 5) <|
      bd1 (f_X12_pushX M x4 x2 (M 185 v_36.toNatClampNeg) (M 186 v_48.toNatClampNeg)) fun e_49 =>
      f_X12_seen_76 M x1 x2 x4 e_49 x3
theorem s_X12_seen_5b {x1 : Int32} {x2 : Int32} {x3 : Int32} {x4 : Int32} {M : px_M} {L : px_L} {R : px_R} {e : ((Int32 × Int32) ⊕ (Int32))} (hS : SR sh R) (hd : 3 ≤ d) (hcu : cu ≤ mc) (hsu : su ≤ ms) (h : f_X12_seen_5 M x1 x2 x3 x4 = some e) (g : (sE (fun a => WX RX12 cX12_seen 5 (some .int) ("seen", []) d mc ms X (px_QF Post mc ms) 5 [(0, .ref 73), (1, .int x1), (2, .int x2), (3, .int a.1), (4, .int a.2)] [] sh M L R n cu su) (fun t => WX RX12 cX12_seen 5 (some .int) ("seen", []) d mc ms X (px_QF Post mc ms) 84 [(3, .int t)] [] sh M L R n cu su)) e) : WX RX12 cX12_seen 5 (some .int) ("seen", []) d mc ms X (px_QF Post mc ms) 5 [(0, .ref 73), (1, .int x1), (2, .int x2), (3, .int x3), (4, .int x4)] [] sh M L R n cu su := by
  unfold f_X12_seen_5 at h
  refine wx_iload dX12_seen_5 rfl ?_
  refine wx_aload_n dX12_seen_7 rfl ?_
  refine wx_getI dX12_seen_8 fl_X12_222 (sc_73 hS) rfl ?_
  refine wx_icmp_ge (tgt := 84) dX12_seen_11 (by decide) (fun c_11 => ?_) (fun c_11 => ?_)
  · replace h := it_t h c_11
    obtain rfl := Option.some.inj h
    replace g := sE_r g
    exact wx_sub g (px_s rfl px_0)
  · replace h := it_f h c_11
    refine wx_iload_n dX12_seen_14 rfl ?_
    refine wx_iload dX12_seen_15 rfl ?_
    refine wx_iload_n dX12_seen_17 rfl ?_
    refine wx_icmp_ge (tgt := 55) dX12_seen_18 (by decide) (fun c_18 => ?_) (fun c_18 => ?_)
    · replace h := it_t h c_18
      refine wx_aload_n dX12_seen_55 rfl ?_
      refine wx_iload dX12_seen_56 rfl ?_
      refine wx_iload_n dX12_seen_58 rfl ?_
      refine wx_aload_n dX12_seen_59 rfl ?_
      refine wx_getR dX12_seen_60 fl_X12_35 (sc_73 hS) rfl (rr_73_16 hS) ?_
      refine wx_iload dX12_seen_63 rfl ?_
      obtain ⟨w_65, h⟩ := ok_some h
      refine wx_iald dX12_seen_65 (sc_82 hS) (ix_in w_65) ?_
      refine wx_aload_n dX12_seen_66 rfl ?_
      refine wx_getR dX12_seen_67 fl_X12_38 (sc_73 hS) rfl (rr_73_17 hS) ?_
      refine wx_iload dX12_seen_70 rfl ?_
      obtain ⟨w_72, h⟩ := ok_some h
      refine wx_iald dX12_seen_72 (sc_83 hS) (ix_in w_72) ?_
      obtain ⟨e_73, k_73, h⟩ := bd1_some h
      refine wx_cVi dX12_seen_73 ml_X12_279 my_X12_pushX iv_X12_pushX (sc_73 hS) (by decide) (s_X12_pushX (d := d - 1) hS (by omega) k_73) rfl (by omega) (by exact Nat.le_of_ble_eq_true rfl) hcu hsu ?_
      exact wx_sub (s_X12_seen_76 hS hd hcu hsu h g) (px_s rfl (px_s rfl (px_s rfl (px_s rfl px_0))))
    · replace h := it_f h c_18
      refine wx_aload_n dX12_seen_21 rfl ?_
      refine wx_iload dX12_seen_22 rfl ?_
      refine wx_iload_n dX12_seen_24 rfl ?_
      refine wx_aload_n dX12_seen_25 rfl ?_
      refine wx_getR dX12_seen_26 fl_X12_110 (sc_73 hS) rfl (rr_73_50 hS) ?_
      refine wx_aload_n dX12_seen_29 rfl ?_
      refine wx_getR dX12_seen_30 fl_X12_125 (sc_73 hS) rfl (rr_73_55 hS) ?_
      refine wx_iload dX12_seen_33 rfl ?_
      obtain ⟨w_35, h⟩ := ok_some h
      refine wx_iald dX12_seen_35 (sc_190 hS) (ix_in w_35) ?_
      refine wx_nami (fun v_36 q_36 => ?_)
      replace h := nm_at h q_36
      obtain ⟨w_36, h⟩ := ok_some h
      refine wx_iald dX12_seen_36 (sc_185 hS) (ix_in w_36) ?_
      refine wx_aload_n dX12_seen_37 rfl ?_
      refine wx_getR dX12_seen_38 fl_X12_113 (sc_73 hS) rfl (rr_73_51 hS) ?_
      refine wx_aload_n dX12_seen_41 rfl ?_
      refine wx_getR dX12_seen_42 fl_X12_125 (sc_73 hS) rfl (rr_73_55 hS) ?_
      refine wx_iload dX12_seen_45 rfl ?_
      obtain ⟨w_47, h⟩ := ok_some h
      refine wx_iald dX12_seen_47 (sc_190 hS) (ix_in w_47) ?_
      refine wx_nami (fun v_48 q_48 => ?_)
      replace h := nm_at h q_48
      obtain ⟨w_48, h⟩ := ok_some h
      refine wx_iald dX12_seen_48 (sc_186 hS) (ix_in w_48) ?_
      obtain ⟨e_49, k_49, h⟩ := bd1_some h
      refine wx_cVi dX12_seen_49 ml_X12_279 my_X12_pushX iv_X12_pushX (sc_73 hS) (by decide) (s_X12_pushX (d := d - 1) hS (by omega) k_49) rfl (by omega) (by exact Nat.le_of_ble_eq_true rfl) hcu hsu ?_
      refine wx_goto (tgt := 76) dX12_seen_52 (by decide) ?_
      exact wx_sub (s_X12_seen_76 hS hd hcu hsu h g) (px_s rfl (px_s rfl (px_s rfl (px_s rfl px_0))))
theorem s_X12_seen_5 {x1 : Int32} {x2 : Int32} {x3 : Int32} {x4 : Int32} {M : px_M} {L : px_L} {R : px_R} {e : (Int32)} (hS : SR sh R) (hd : 3 ≤ d) (hcu : cu ≤ mc) (hsu : su ≤ ms) (h : lpf (fun a : Int32 × Int32 => f_X12_seen_5 M x1 x2 a.1 a.2) (x3, x4) = some e) (g : WX RX12 cX12_seen 5 (some .int) ("seen", []) d mc ms X (px_QF Post mc ms) 84 [(3, .int e)] [] sh M L R n cu su) : WX RX12 cX12_seen 5 (some .int) ("seen", []) d mc ms X (px_QF Post mc ms) 5 [(0, .ref 73), (1, .int x1), (2, .int x2), (3, .int x3), (4, .int x4)] [] sh M L R n cu su := by
  have key := lpf_wp (P := (fun a => WX RX12 cX12_seen 5 (some .int) ("seen", []) d mc ms X (px_QF Post mc ms) 5 [(0, .ref 73), (1, .int x1), (2, .int x2), (3, .int a.1), (4, .int a.2)] [] sh M L R n cu su)) (G := (fun t => WX RX12 cX12_seen 5 (some .int) ("seen", []) d mc ms X (px_QF Post mc ms) 84 [(3, .int t)] [] sh M L R n cu su)) (fun a r h g => s_X12_seen_5b (x1 := x1) (x2 := x2) (x3 := a.1) (x4 := a.2) (M := M) (L := L) (R := R) hS hd hcu hsu h g) (a := (x3, x4)) h g
  exact key
noncomputable def f_X12_seen (M : px_M) (p1 : Int32) (p2 : Int32) : Option (Int32) :=
  bd1 (lpf (fun a : Int32 × Int32 => f_X12_seen_5 M p1 p2 a.1 a.2) (0, 0)) fun e_5 =>
  some e_5
theorem s_X12_seen {d : Nat} {X : Nat × (Nat → Int32)} {sh : px_Sh} {M : px_M} {L : px_L} {R : px_R} {n : Nat} {p1 : Int32} {p2 : Int32} {e : Int32} (hS : SR sh R) (hd : 3 ≤ d) (h : f_X12_seen M p1 p2 = some e) : MX yX12_seen cX12_seen 5 (some .int) d 0 0 X [.ref 73, .int p1, .int p2] sh M L R n (px_pu (some (.int e)) sh M L R n) := by
  refine MX.of (by decide +kernel) (by exact Nat.le_of_ble_eq_true rfl) ?_
  have hcu : 0 ≤ 0 := Nat.zero_le _
  have hsu : 0 ≤ 0 := Nat.zero_le _
  have g : px_pu (some (.int e)) sh M L R n (some (.int e)) sh M L R n := ⟨rfl, rfl, rfl, rfl, rfl, rfl⟩
  unfold f_X12_seen at h
  refine wx_iconst (v := 0) dX12_seen_0 (by decide) ?_
  refine wx_istore_n (lv' := [(3, _), (0, _), (1, _), (2, _)]) dX12_seen_1 (by decide) rfl ?_
  refine wx_iconst (v := 0) dX12_seen_2 (by decide) ?_
  refine wx_istore (lv' := [(4, _), (3, _), (0, _), (1, _), (2, _)]) dX12_seen_3 (by decide) rfl ?_
  obtain ⟨e_5, k_5, h⟩ := bd1_some h
  refine wx_sub (s_X12_seen_5 hS hd hcu hsu k_5 ?_) (px_s rfl (px_s rfl (px_s rfl (px_s rfl (px_s rfl px_0)))))
  refine wx_iload_n dX12_seen_84 rfl ?_
  refine wx_iret dX12_seen_85 hcu hsu ?_
  obtain rfl := Option.some.inj h
  exact g
noncomputable def f_X12_takes_41 (M : px_M) (x1 : Int32) (x4 : Int32) : Option ((Int32) ⊕ ((Unit) ⊕ (Unit))) :=
  if (M 73 49) ≤ x4 then
    some (.inr (.inr ()))
  else
    ok (ix x4 6) <|
    bd1 (f_X12_seen M x1 (M 187 x4.toNatClampNeg)) fun e_59 =>
    ok (ix x4 6) <|
    bd1 (f_X12_amount (e_59 - (M 188 x4.toNatClampNeg))) fun e_70 =>
    ok (ix x4 6) <|
    if e_70 ≤ (M 189 x4.toNatClampNeg) then
      some (.inl (x4 + 1))
    else
      some (.inr (.inl ()))
theorem s_X12_takes_41b {x1 : Int32} {x4 : Int32} {M : px_M} {L : px_L} {R : px_R} {e : ((Int32) ⊕ ((Unit) ⊕ (Unit)))} (hS : SR sh R) (hd : 4 ≤ d) (hcu : cu ≤ mc) (hsu : su ≤ ms) (h : f_X12_takes_41 M x1 x4 = some e) (g : (sE (fun a => WX RX12 cX12_takes 5 (some .boolean) ("takes", []) d mc ms X (px_QF Post mc ms) 41 [(0, .ref 73), (1, .int x1), (4, .int a)] [] sh M L R n cu su) (sE (fun t => WX RX12 cX12_takes 5 (some .boolean) ("takes", []) d mc ms X (px_QF Post mc ms) 83 [] [] sh M L R n cu su) (fun t => WX RX12 cX12_takes 5 (some .boolean) ("takes", []) d mc ms X (px_QF Post mc ms) 91 [] [] sh M L R n cu su))) e) : WX RX12 cX12_takes 5 (some .boolean) ("takes", []) d mc ms X (px_QF Post mc ms) 41 [(0, .ref 73), (1, .int x1), (4, .int x4)] [] sh M L R n cu su := by
  unfold f_X12_takes_41 at h
  refine wx_iload dX12_takes_41 rfl ?_
  refine wx_aload_n dX12_takes_43 rfl ?_
  refine wx_getI dX12_takes_44 fl_X12_437 (sc_73 hS) rfl ?_
  refine wx_icmp_ge (tgt := 91) dX12_takes_47 (by decide) (fun c_47 => ?_) (fun c_47 => ?_)
  · replace h := it_t h c_47
    obtain rfl := Option.some.inj h
    replace g := sE_r (sE_r g)
    exact wx_sub g px_0
  · replace h := it_f h c_47
    refine wx_aload_n dX12_takes_50 rfl ?_
    refine wx_iload_n dX12_takes_51 rfl ?_
    refine wx_aload_n dX12_takes_52 rfl ?_
    refine wx_getR dX12_takes_53 fl_X12_116 (sc_73 hS) rfl (rr_73_52 hS) ?_
    refine wx_iload dX12_takes_56 rfl ?_
    obtain ⟨w_58, h⟩ := ok_some h
    refine wx_iald dX12_takes_58 (sc_187 hS) (ix_in w_58) ?_
    obtain ⟨e_59, k_59, h⟩ := bd1_some h
    refine wx_cVi dX12_takes_59 ml_X12_440 my_X12_seen iv_X12_seen (sc_73 hS) (by decide) (s_X12_seen (d := d - 1) hS (by omega) k_59) rfl (by omega) (by exact Nat.le_of_ble_eq_true rfl) hcu hsu ?_
    refine wx_aload_n dX12_takes_62 rfl ?_
    refine wx_getR dX12_takes_63 fl_X12_119 (sc_73 hS) rfl (rr_73_53 hS) ?_
    refine wx_iload dX12_takes_66 rfl ?_
    obtain ⟨w_68, h⟩ := ok_some h
    refine wx_iald dX12_takes_68 (sc_188 hS) (ix_in w_68) ?_
    refine wx_isub dX12_takes_69 ?_
    obtain ⟨e_70, k_70, h⟩ := bd1_some h
    refine wx_cSi dX12_takes_70 ml_X12_237 my_X12_amount sv_X12_amount (s_X12_amount (d := d - 1) hS (by omega) k_70) rfl (by omega) (by exact Nat.le_of_ble_eq_true rfl) hcu hsu ?_
    refine wx_aload_n dX12_takes_73 rfl ?_
    refine wx_getR dX12_takes_74 fl_X12_122 (sc_73 hS) rfl (rr_73_54 hS) ?_
    refine wx_iload dX12_takes_77 rfl ?_
    obtain ⟨w_79, h⟩ := ok_some h
    refine wx_iald dX12_takes_79 (sc_189 hS) (ix_in w_79) ?_
    refine wx_icmp_le (tgt := 85) dX12_takes_80 (by decide) (fun c_80 => ?_) (fun c_80 => ?_)
    · replace h := it_t h c_80
      refine wx_iinc (lv' := [(4, _), (0, _), (1, _)]) dX12_takes_85 rfl (i_1 _) (by decide) rfl ?_
      refine wx_goto (tgt := 41) dX12_takes_88 (by decide) ?_
      obtain rfl := Option.some.inj h
      replace g := sE_l g
      exact wx_sub g (px_s rfl (px_s rfl (px_s rfl px_0)))
    · replace h := it_f h c_80
      obtain rfl := Option.some.inj h
      replace g := sE_l (sE_r g)
      exact wx_sub g px_0
theorem s_X12_takes_41 {x1 : Int32} {x4 : Int32} {M : px_M} {L : px_L} {R : px_R} {e : ((Unit) ⊕ (Unit))} (hS : SR sh R) (hd : 4 ≤ d) (hcu : cu ≤ mc) (hsu : su ≤ ms) (h : lpf (fun a : Int32 => f_X12_takes_41 M x1 a) x4 = some e) (g : (sE (fun t => WX RX12 cX12_takes 5 (some .boolean) ("takes", []) d mc ms X (px_QF Post mc ms) 83 [] [] sh M L R n cu su) (fun t => WX RX12 cX12_takes 5 (some .boolean) ("takes", []) d mc ms X (px_QF Post mc ms) 91 [] [] sh M L R n cu su)) e) : WX RX12 cX12_takes 5 (some .boolean) ("takes", []) d mc ms X (px_QF Post mc ms) 41 [(0, .ref 73), (1, .int x1), (4, .int x4)] [] sh M L R n cu su := by
  have key := lpf_wp (P := (fun a => WX RX12 cX12_takes 5 (some .boolean) ("takes", []) d mc ms X (px_QF Post mc ms) 41 [(0, .ref 73), (1, .int x1), (4, .int a)] [] sh M L R n cu su)) (G := (sE (fun t => WX RX12 cX12_takes 5 (some .boolean) ("takes", []) d mc ms X (px_QF Post mc ms) 83 [] [] sh M L R n cu su) (fun t => WX RX12 cX12_takes 5 (some .boolean) ("takes", []) d mc ms X (px_QF Post mc ms) 91 [] [] sh M L R n cu su))) (fun a r h g => s_X12_takes_41b (x1 := x1) (x4 := a) (M := M) (L := L) (R := R) hS hd hcu hsu h g) (a := x4) h g
  exact key
noncomputable def f_X12_takes_7 (M : px_M) (x1 : Int32) (x3 : Int32) (x4 : Int32) : Option ((Int32 × Int32 × px_M) ⊕ (px_M)) :=
  if x4 < 0 then
    some (.inr M)
  else
    ok (nz (M 73 48) 0) <|
    nm (x3 - x3 / (M 73 48) * (M 73 48)) fun v_24 =>
    ok (ix x4 4) <|
    nm (px_u M 190 x4.toNatClampNeg v_24) fun M_24 =>
    ok (nz (M_24 73 48) 0) <|
    nm (x3 / (M_24 73 48)) fun v_31 =>
    some (.inl (v_31, (x4 + -1), M_24))
theorem s_X12_takes_7b {x1 : Int32} {x3 : Int32} {x4 : Int32} {M : px_M} {L : px_L} {R : px_R} {e : ((Int32 × Int32 × px_M) ⊕ (px_M))} (hS : SR sh R) (hd : 4 ≤ d) (hcu : cu ≤ mc) (hsu : su ≤ ms) (h : f_X12_takes_7 M x1 x3 x4 = some e) (g : (sE (fun a => WX RX12 cX12_takes 5 (some .boolean) ("takes", []) d mc ms X (px_QF Post mc ms) 7 [(0, .ref 73), (1, .int x1), (3, .int a.1), (4, .int a.2.1)] [] sh (a.2.2) L R n cu su) (fun t => WX RX12 cX12_takes 5 (some .boolean) ("takes", []) d mc ms X (px_QF Post mc ms) 38 [(0, .ref 73), (1, .int x1)] [] sh t L R n cu su)) e) : WX RX12 cX12_takes 5 (some .boolean) ("takes", []) d mc ms X (px_QF Post mc ms) 7 [(0, .ref 73), (1, .int x1), (3, .int x3), (4, .int x4)] [] sh M L R n cu su := by
  unfold f_X12_takes_7 at h
  refine wx_iload dX12_takes_7 rfl ?_
  refine wx_if_lt (tgt := 38) dX12_takes_9 (by decide) (fun c_9 => ?_) (fun c_9 => ?_)
  · replace h := it_t h c_9
    obtain rfl := Option.some.inj h
    replace g := sE_r g
    exact wx_sub g (px_s rfl (px_s rfl px_0))
  · replace h := it_f h c_9
    refine wx_aload_n dX12_takes_12 rfl ?_
    refine wx_getR dX12_takes_13 fl_X12_125 (sc_73 hS) rfl (rr_73_55 hS) ?_
    refine wx_iload dX12_takes_16 rfl ?_
    refine wx_iload_n dX12_takes_18 rfl ?_
    refine wx_aload_n dX12_takes_19 rfl ?_
    refine wx_getI dX12_takes_20 fl_X12_433 (sc_73 hS) rfl ?_
    obtain ⟨w_23, h⟩ := ok_some h
    refine wx_irem dX12_takes_23 (nz_n w_23) ?_
    refine wx_nami (fun v_24 q_24 => ?_)
    replace h := nm_at h q_24
    obtain ⟨w_24, h⟩ := ok_some h
    refine wx_iast dX12_takes_24 (sc_190 hS) (ix_in w_24) ?_
    refine wx_namM (fun M_24 q_24 => ?_)
    replace h := nm_at h q_24
    refine wx_iload_n dX12_takes_25 rfl ?_
    refine wx_aload_n dX12_takes_26 rfl ?_
    refine wx_getI dX12_takes_27 fl_X12_433 (sc_73 hS) rfl ?_
    obtain ⟨w_30, h⟩ := ok_some h
    refine wx_idiv dX12_takes_30 (nz_n w_30) ?_
    refine wx_nami (fun v_31 q_31 => ?_)
    replace h := nm_at h q_31
    refine wx_istore_n (lv' := [(3, _), (0, _), (1, _), (4, _)]) dX12_takes_31 (by decide) rfl ?_
    refine wx_iinc (lv' := [(4, _), (3, _), (0, _), (1, _)]) dX12_takes_32 rfl (i_m1 _) (by decide) rfl ?_
    refine wx_goto (tgt := 7) dX12_takes_35 (by decide) ?_
    obtain rfl := Option.some.inj h
    replace g := sE_l g
    exact wx_sub g (px_s rfl (px_s rfl (px_s rfl (px_s rfl px_0))))
theorem s_X12_takes_7 {x1 : Int32} {x3 : Int32} {x4 : Int32} {M : px_M} {L : px_L} {R : px_R} {e : (px_M)} (hS : SR sh R) (hd : 4 ≤ d) (hcu : cu ≤ mc) (hsu : su ≤ ms) (h : lpf (fun a : Int32 × Int32 × px_M => f_X12_takes_7 a.2.2 x1 a.1 a.2.1) (x3, x4, M) = some e) (g : WX RX12 cX12_takes 5 (some .boolean) ("takes", []) d mc ms X (px_QF Post mc ms) 38 [(0, .ref 73), (1, .int x1)] [] sh e L R n cu su) : WX RX12 cX12_takes 5 (some .boolean) ("takes", []) d mc ms X (px_QF Post mc ms) 7 [(0, .ref 73), (1, .int x1), (3, .int x3), (4, .int x4)] [] sh M L R n cu su := by
  have key := lpf_wp (P := (fun a => WX RX12 cX12_takes 5 (some .boolean) ("takes", []) d mc ms X (px_QF Post mc ms) 7 [(0, .ref 73), (1, .int x1), (3, .int a.1), (4, .int a.2.1)] [] sh (a.2.2) L R n cu su)) (G := (fun t => WX RX12 cX12_takes 5 (some .boolean) ("takes", []) d mc ms X (px_QF Post mc ms) 38 [(0, .ref 73), (1, .int x1)] [] sh t L R n cu su)) (fun a r h g => s_X12_takes_7b (x1 := x1) (x3 := a.1) (x4 := a.2.1) (M := a.2.2) (L := L) (R := R) hS hd hcu hsu h g) (a := (x3, x4, M)) h g
  exact key
noncomputable def f_X12_takes (M : px_M) (p1 : Int32) (p2 : Int32) : Option (Int32 × px_M) :=
  nm (p1 - 1) fun v_5 =>
  bd1 (lpf (fun a : Int32 × Int32 × px_M => f_X12_takes_7 a.2.2 p1 a.1 a.2.1) (p2, v_5, M)) fun e_7 =>
  bdS (lpf (fun a : Int32 => f_X12_takes_41 e_7 p1 a) 0) (fun t_41_0 =>
  some (0, e_7)) (fun u_41_0 =>
  some (1, e_7))
theorem s_X12_takes {d : Nat} {X : Nat × (Nat → Int32)} {sh : px_Sh} {M : px_M} {L : px_L} {R : px_R} {n : Nat} {p1 : Int32} {p2 : Int32} {e : Int32 × px_M} (hS : SR sh R) (hd : 4 ≤ d) (h : f_X12_takes M p1 p2 = some e) : MX yX12_takes cX12_takes 5 (some .boolean) d 0 0 X [.ref 73, .int p1, .int p2] sh M L R n (px_pu (some (.int e.1)) sh e.2 L R n) := by
  refine MX.of (by decide +kernel) (by exact Nat.le_of_ble_eq_true rfl) ?_
  have hcu : 0 ≤ 0 := Nat.zero_le _
  have hsu : 0 ≤ 0 := Nat.zero_le _
  have g : px_pu (some (.int e.1)) sh e.2 L R n (some (.int e.1)) sh e.2 L R n := ⟨rfl, rfl, rfl, rfl, rfl, rfl⟩
  unfold f_X12_takes at h
  refine wx_iload_n dX12_takes_0 rfl ?_
  refine wx_istore_n (lv' := [(3, _), (0, _), (1, _), (2, _)]) dX12_takes_1 (by decide) rfl ?_
  refine wx_iload_n dX12_takes_2 rfl ?_
  refine wx_iconst (v := 1) dX12_takes_3 (by decide) ?_
  refine wx_isub dX12_takes_4 ?_
  refine wx_nami (fun v_5 q_5 => ?_)
  replace h := nm_at h q_5
  refine wx_istore (lv' := [(4, _), (3, _), (0, _), (1, _), (2, _)]) dX12_takes_5 (by decide) rfl ?_
  obtain ⟨e_7, k_7, h⟩ := bd1_some h
  refine wx_sub (s_X12_takes_7 hS hd hcu hsu k_7 ?_) (px_s rfl (px_s rfl (px_s rfl (px_s rfl px_0))))
  refine wx_iconst (v := 0) dX12_takes_38 (by decide) ?_
  refine wx_istore (lv' := [(4, _), (0, _), (1, _)]) dX12_takes_39 (by decide) rfl ?_
  rcases bdS_some h with ⟨t_41_0, k_41_0, h⟩ | ⟨u_41_0, k_41_0, h⟩
  · refine wx_sub (s_X12_takes_41 hS hd hcu hsu k_41_0 (sE_li ?_)) (px_s rfl (px_s rfl (px_s rfl px_0)))
    refine wx_iconst (v := 0) dX12_takes_83 (by decide) ?_
    refine wx_zret dX12_takes_84 rfl hcu hsu ?_
    obtain rfl := Option.some.inj h
    exact g
  · refine wx_sub (s_X12_takes_41 hS hd hcu hsu k_41_0 (sE_ri ?_)) (px_s rfl (px_s rfl (px_s rfl px_0)))
    refine wx_iconst (v := 1) dX12_takes_91 (by decide) ?_
    refine wx_zret dX12_takes_92 rfl hcu hsu ?_
    obtain rfl := Option.some.inj h
    exact g
noncomputable def f_X12_fits_65 (M : px_M) (x1 : Int32) (x3 : Int32) (z0 : Int32) (z1 : Int32) : Option ((Int32 × Int32 × px_M) ⊕ (Int32 × px_M)) :=
  nm (z1 + z0) fun v_66 =>
  some (.inl (v_66, (x3 + 1), M))
theorem s_X12_fits_65 {x1 : Int32} {x3 : Int32} {z0 : Int32} {z1 : Int32} {M : px_M} {L : px_L} {R : px_R} {e : ((Int32 × Int32 × px_M) ⊕ (Int32 × px_M))} (hS : SR sh R) (hd : 5 ≤ d) (hcu : cu ≤ mc) (hsu : su ≤ ms) (h : f_X12_fits_65 M x1 x3 z0 z1 = some e) (g : (sE (fun a => WX RX12 cX12_fits 4 (some .int) ("fits", []) d mc ms X (px_QF Post mc ms) 41 [(0, .ref 73), (1, .int x1), (2, .int a.1), (3, .int a.2.1)] [] sh (a.2.2) L R n cu su) (fun t => WX RX12 cX12_fits 4 (some .int) ("fits", []) d mc ms X (px_QF Post mc ms) 73 [(2, .int t.1)] [] sh (t.2) L R n cu su)) e) : WX RX12 cX12_fits 4 (some .int) ("fits", []) d mc ms X (px_QF Post mc ms) 65 [(0, .ref 73), (1, .int x1), (3, .int x3)] [.int z0, .int z1] sh M L R n cu su := by
  unfold f_X12_fits_65 at h
  refine wx_iadd dX12_fits_65 ?_
  refine wx_nami (fun v_66 q_66 => ?_)
  replace h := nm_at h q_66
  refine wx_istore_n (lv' := [(2, _), (0, _), (1, _), (3, _)]) dX12_fits_66 (by decide) rfl ?_
  refine wx_iinc (lv' := [(3, _), (2, _), (0, _), (1, _)]) dX12_fits_67 rfl (i_1 _) (by decide) rfl ?_
  refine wx_goto (tgt := 41) dX12_fits_70 (by decide) ?_
  obtain rfl := Option.some.inj h
  replace g := sE_l g
  exact wx_sub g (px_s rfl (px_s rfl (px_s rfl (px_s rfl px_0))))
noncomputable def f_X12_fits_41 (M : px_M) (x1 : Int32) (x2 : Int32) (x3 : Int32) : Option ((Int32 × Int32 × px_M) ⊕ (Int32 × px_M)) :=
  bd1 (f_X12_waysOf M x1) fun e_44 =>
  if e_44 ≤ x3 then
    some (.inr (x2, M))
  else
    bd1 (f_X12_takes M x1 x3) fun e_54 =>
    if e_54.1 = 0 then
      f_X12_fits_65 e_54.2 x1 x3 0 x2
    else
      f_X12_fits_65 e_54.2 x1 x3 1 x2
theorem s_X12_fits_41b {x1 : Int32} {x2 : Int32} {x3 : Int32} {M : px_M} {L : px_L} {R : px_R} {e : ((Int32 × Int32 × px_M) ⊕ (Int32 × px_M))} (hS : SR sh R) (hd : 5 ≤ d) (hcu : cu ≤ mc) (hsu : su ≤ ms) (h : f_X12_fits_41 M x1 x2 x3 = some e) (g : (sE (fun a => WX RX12 cX12_fits 4 (some .int) ("fits", []) d mc ms X (px_QF Post mc ms) 41 [(0, .ref 73), (1, .int x1), (2, .int a.1), (3, .int a.2.1)] [] sh (a.2.2) L R n cu su) (fun t => WX RX12 cX12_fits 4 (some .int) ("fits", []) d mc ms X (px_QF Post mc ms) 73 [(2, .int t.1)] [] sh (t.2) L R n cu su)) e) : WX RX12 cX12_fits 4 (some .int) ("fits", []) d mc ms X (px_QF Post mc ms) 41 [(0, .ref 73), (1, .int x1), (2, .int x2), (3, .int x3)] [] sh M L R n cu su := by
  unfold f_X12_fits_41 at h
  refine wx_iload_n dX12_fits_41 rfl ?_
  refine wx_aload_n dX12_fits_42 rfl ?_
  refine wx_iload_n dX12_fits_43 rfl ?_
  obtain ⟨e_44, k_44, h⟩ := bd1_some h
  refine wx_cVi dX12_fits_44 ml_X12_443 my_X12_waysOf iv_X12_waysOf (sc_73 hS) (by decide) (s_X12_waysOf (d := d - 1) hS (by omega) k_44) rfl (by omega) (by exact Nat.le_of_ble_eq_true rfl) hcu hsu ?_
  refine wx_icmp_ge (tgt := 73) dX12_fits_47 (by decide) (fun c_47 => ?_) (fun c_47 => ?_)
  · replace h := it_t h c_47
    obtain rfl := Option.some.inj h
    replace g := sE_r g
    exact wx_sub g (px_s rfl px_0)
  · replace h := it_f h c_47
    refine wx_iload_n dX12_fits_50 rfl ?_
    refine wx_aload_n dX12_fits_51 rfl ?_
    refine wx_iload_n dX12_fits_52 rfl ?_
    refine wx_iload_n dX12_fits_53 rfl ?_
    obtain ⟨e_54, k_54, h⟩ := bd1_some h
    refine wx_cVi dX12_fits_54 ml_X12_446 my_X12_takes iv_X12_takes (sc_73 hS) (by decide) (s_X12_takes (d := d - 1) hS (by omega) k_54) rfl (by omega) (by exact Nat.le_of_ble_eq_true rfl) hcu hsu ?_
    refine wx_if_eq (tgt := 64) dX12_fits_57 (by decide) (fun c_57 => ?_) (fun c_57 => ?_)
    · replace h := it_t h c_57
      refine wx_iconst (v := 0) dX12_fits_64 (by decide) ?_
      exact wx_sub (s_X12_fits_65 hS hd hcu hsu h g) (px_s rfl (px_s rfl (px_s rfl px_0)))
    · replace h := it_f h c_57
      refine wx_iconst (v := 1) dX12_fits_60 (by decide) ?_
      refine wx_goto (tgt := 65) dX12_fits_61 (by decide) ?_
      exact wx_sub (s_X12_fits_65 hS hd hcu hsu h g) (px_s rfl (px_s rfl (px_s rfl px_0)))
theorem s_X12_fits_41 {x1 : Int32} {x2 : Int32} {x3 : Int32} {M : px_M} {L : px_L} {R : px_R} {e : (Int32 × px_M)} (hS : SR sh R) (hd : 5 ≤ d) (hcu : cu ≤ mc) (hsu : su ≤ ms) (h : lpf (fun a : Int32 × Int32 × px_M => f_X12_fits_41 a.2.2 x1 a.1 a.2.1) (x2, x3, M) = some e) (g : WX RX12 cX12_fits 4 (some .int) ("fits", []) d mc ms X (px_QF Post mc ms) 73 [(2, .int e.1)] [] sh (e.2) L R n cu su) : WX RX12 cX12_fits 4 (some .int) ("fits", []) d mc ms X (px_QF Post mc ms) 41 [(0, .ref 73), (1, .int x1), (2, .int x2), (3, .int x3)] [] sh M L R n cu su := by
  have key := lpf_wp (P := (fun a => WX RX12 cX12_fits 4 (some .int) ("fits", []) d mc ms X (px_QF Post mc ms) 41 [(0, .ref 73), (1, .int x1), (2, .int a.1), (3, .int a.2.1)] [] sh (a.2.2) L R n cu su)) (G := (fun t => WX RX12 cX12_fits 4 (some .int) ("fits", []) d mc ms X (px_QF Post mc ms) 73 [(2, .int t.1)] [] sh (t.2) L R n cu su)) (fun a r h g => s_X12_fits_41b (x1 := x1) (x2 := a.1) (x3 := a.2.1) (M := a.2.2) (L := L) (R := R) hS hd hcu hsu h g) (a := (x2, x3, M)) h g
  exact key
noncomputable def f_X12_fits_28 (M : px_M) (x1 : Int32) (z0 : Int32) : Option (Int32 × px_M) :=
  bd1 (f_X12_bad M z0 1) fun e_29 =>
  if e_29.1 = 0 then
    bd1 (lpf (fun a : Int32 × Int32 × px_M => f_X12_fits_41 a.2.2 x1 a.1 a.2.1) (0, 0, e_29.2)) fun e_41 =>
    some (e_41.1, e_41.2)
  else
    some (0, e_29.2)
theorem s_X12_fits_28 {x1 : Int32} {z0 : Int32} {M : px_M} {L : px_L} {R : px_R} {e : (Int32 × px_M)} (hS : SR sh R) (hd : 5 ≤ d) (hcu : cu ≤ mc) (hsu : su ≤ ms) (h : f_X12_fits_28 M x1 z0 = some e) (g : Post (some (.int (e.1))) sh (e.2) L R n) : WX RX12 cX12_fits 4 (some .int) ("fits", []) d mc ms X (px_QF Post mc ms) 28 [(0, .ref 73), (1, .int x1)] [.int z0, .ref 73] sh M L R n cu su := by
  unfold f_X12_fits_28 at h
  refine wx_iconst (v := 1) dX12_fits_28 (by decide) ?_
  obtain ⟨e_29, k_29, h⟩ := bd1_some h
  refine wx_cVi dX12_fits_29 ml_X12_207 my_X12_bad iv_X12_bad (sc_73 hS) (by decide) (s_X12_bad (d := d - 1) hS (by omega) k_29) rfl (by omega) (by exact Nat.le_of_ble_eq_true rfl) hcu hsu ?_
  refine wx_if_eq (tgt := 37) dX12_fits_32 (by decide) (fun c_32 => ?_) (fun c_32 => ?_)
  · replace h := it_t h c_32
    refine wx_iconst (v := 0) dX12_fits_37 (by decide) ?_
    refine wx_istore_n (lv' := [(2, _), (0, _), (1, _)]) dX12_fits_38 (by decide) rfl ?_
    refine wx_iconst (v := 0) dX12_fits_39 (by decide) ?_
    refine wx_istore_n (lv' := [(3, _), (2, _), (0, _), (1, _)]) dX12_fits_40 (by decide) rfl ?_
    obtain ⟨e_41, k_41, h⟩ := bd1_some h
    refine wx_sub (s_X12_fits_41 hS hd hcu hsu k_41 ?_) (px_s rfl (px_s rfl (px_s rfl (px_s rfl px_0))))
    refine wx_iload_n dX12_fits_73 rfl ?_
    refine wx_iret dX12_fits_74 hcu hsu ?_
    obtain rfl := Option.some.inj h
    exact g
  · replace h := it_f h c_32
    refine wx_iconst (v := 0) dX12_fits_35 (by decide) ?_
    refine wx_iret dX12_fits_36 hcu hsu ?_
    obtain rfl := Option.some.inj h
    exact g
noncomputable def f_X12_fits_23 (M : px_M) (x1 : Int32) : Option (Int32 × px_M) :=
  f_X12_fits_28 M x1 1
theorem s_X12_fits_23 {x1 : Int32} {M : px_M} {L : px_L} {R : px_R} {e : (Int32 × px_M)} (hS : SR sh R) (hd : 5 ≤ d) (hcu : cu ≤ mc) (hsu : su ≤ ms) (h : f_X12_fits_23 M x1 = some e) (g : Post (some (.int (e.1))) sh (e.2) L R n) : WX RX12 cX12_fits 4 (some .int) ("fits", []) d mc ms X (px_QF Post mc ms) 23 [(0, .ref 73), (1, .int x1)] [.ref 73] sh M L R n cu su := by
  unfold f_X12_fits_23 at h
  refine wx_iconst (v := 1) dX12_fits_23 (by decide) ?_
  refine wx_goto (tgt := 28) dX12_fits_24 (by decide) ?_
  exact wx_sub (s_X12_fits_28 hS hd hcu hsu h g) (px_s rfl (px_s rfl px_0))
noncomputable def f_X12_fits (M : px_M) (p1 : Int32) : Option (Int32 × px_M) :=
  nm (px_u M 73 0 0) fun M_2 =>
  bd1 (f_X12_in p1 1 4) fun e_9 =>
  if e_9 = 0 then
    f_X12_fits_23 M_2 p1
  else
    if p1 ≤ (M_2 73 9) then
      f_X12_fits_28 M_2 p1 0
    else
      f_X12_fits_23 M_2 p1
theorem s_X12_fits {d : Nat} {X : Nat × (Nat → Int32)} {sh : px_Sh} {M : px_M} {L : px_L} {R : px_R} {n : Nat} {p1 : Int32} {e : Int32 × px_M} (hS : SR sh R) (hd : 5 ≤ d) (h : f_X12_fits M p1 = some e) : MX yX12_fits cX12_fits 4 (some .int) d 0 0 X [.ref 73, .int p1] sh M L R n (px_pu (some (.int e.1)) sh e.2 L R n) := by
  refine MX.of (by decide +kernel) (by exact Nat.le_of_ble_eq_true rfl) ?_
  have hcu : 0 ≤ 0 := Nat.zero_le _
  have hsu : 0 ≤ 0 := Nat.zero_le _
  have g : px_pu (some (.int e.1)) sh e.2 L R n (some (.int e.1)) sh e.2 L R n := ⟨rfl, rfl, rfl, rfl, rfl, rfl⟩
  unfold f_X12_fits at h
  refine wx_aload_n dX12_fits_0 rfl ?_
  refine wx_iconst (v := 0) dX12_fits_1 (by decide) ?_
  refine wx_putI dX12_fits_2 fl_X12_179 (sc_73 hS) (Or.inl rfl) rfl ⟨rfl, rfl⟩ ?_
  refine wx_namM (fun M_2 q_2 => ?_)
  replace h := nm_at h q_2
  refine wx_aload_n dX12_fits_5 rfl ?_
  refine wx_iload_n dX12_fits_6 rfl ?_
  refine wx_iconst (v := 1) dX12_fits_7 (by decide) ?_
  refine wx_iconst (v := 4) dX12_fits_8 (by decide) ?_
  obtain ⟨e_9, k_9, h⟩ := bd1_some h
  refine wx_cSi dX12_fits_9 ml_X12_203 my_X12_in sv_X12_in (s_X12_in (d := d - 1) hS (by omega) k_9) rfl (by omega) (by exact Nat.le_of_ble_eq_true rfl) hcu hsu ?_
  refine wx_if_eq (tgt := 23) dX12_fits_12 (by decide) (fun c_12 => ?_) (fun c_12 => ?_)
  · replace h := it_t h c_12
    exact wx_sub (s_X12_fits_23 hS hd hcu hsu h g) (px_s rfl (px_s rfl px_0))
  · replace h := it_f h c_12
    refine wx_iload_n dX12_fits_15 rfl ?_
    refine wx_aload_n dX12_fits_16 rfl ?_
    refine wx_getI dX12_fits_17 fl_X12_222 (sc_73 hS) rfl ?_
    refine wx_icmp_le (tgt := 27) dX12_fits_20 (by decide) (fun c_20 => ?_) (fun c_20 => ?_)
    · replace h := it_t h c_20
      refine wx_iconst (v := 0) dX12_fits_27 (by decide) ?_
      exact wx_sub (s_X12_fits_28 hS hd hcu hsu h g) (px_s rfl (px_s rfl px_0))
    · replace h := it_f h c_20
      exact wx_sub (s_X12_fits_23 hS hd hcu hsu h g) (px_s rfl (px_s rfl px_0))
noncomputable def f_X12_fit_39 (M : px_M) (x1 : Int32) (x2 : Int32) (x3 : Int32) : Option ((Int32 × px_M) ⊕ ((px_M) ⊕ (px_M))) :=
  bd1 (f_X12_waysOf M x1) fun e_42 =>
  if e_42 ≤ x3 then
    some (.inr (.inr M))
  else
    bd1 (f_X12_in x2 0 (x1 - 1)) fun e_53 =>
    if e_53 = 0 then
      some (.inr (.inr M))
    else
      bd1 (f_X12_takes M x1 x3) fun e_62 =>
      if e_62.1 = 0 then
        some (.inl ((x3 + 1), e_62.2))
      else
        some (.inr (.inl e_62.2))
theorem s_X12_fit_39b {x1 : Int32} {x2 : Int32} {x3 : Int32} {M : px_M} {L : px_L} {R : px_R} {e : ((Int32 × px_M) ⊕ ((px_M) ⊕ (px_M)))} (hS : SR sh R) (hd : 5 ≤ d) (hcu : cu ≤ mc) (hsu : su ≤ ms) (h : f_X12_fit_39 M x1 x2 x3 = some e) (g : (sE (fun a => WX RX12 cX12_fit 4 (some .int) ("fit", []) d mc ms X (px_QF Post mc ms) 39 [(0, .ref 73), (1, .int x1), (2, .int x2), (3, .int a.1)] [] sh (a.2) L R n cu su) (sE (fun t => WX RX12 cX12_fit 4 (some .int) ("fit", []) d mc ms X (px_QF Post mc ms) 68 [(0, .ref 73), (2, .int x2)] [] sh t L R n cu su) (fun t => WX RX12 cX12_fit 4 (some .int) ("fit", []) d mc ms X (px_QF Post mc ms) 81 [] [] sh t L R n cu su))) e) : WX RX12 cX12_fit 4 (some .int) ("fit", []) d mc ms X (px_QF Post mc ms) 39 [(0, .ref 73), (1, .int x1), (2, .int x2), (3, .int x3)] [] sh M L R n cu su := by
  unfold f_X12_fit_39 at h
  refine wx_iload_n dX12_fit_39 rfl ?_
  refine wx_aload_n dX12_fit_40 rfl ?_
  refine wx_iload_n dX12_fit_41 rfl ?_
  obtain ⟨e_42, k_42, h⟩ := bd1_some h
  refine wx_cVi dX12_fit_42 ml_X12_443 my_X12_waysOf iv_X12_waysOf (sc_73 hS) (by decide) (s_X12_waysOf (d := d - 1) hS (by omega) k_42) rfl (by omega) (by exact Nat.le_of_ble_eq_true rfl) hcu hsu ?_
  refine wx_icmp_ge (tgt := 81) dX12_fit_45 (by decide) (fun c_45 => ?_) (fun c_45 => ?_)
  · replace h := it_t h c_45
    obtain rfl := Option.some.inj h
    replace g := sE_r (sE_r g)
    exact wx_sub g px_0
  · replace h := it_f h c_45
    refine wx_iload_n dX12_fit_48 rfl ?_
    refine wx_iconst (v := 0) dX12_fit_49 (by decide) ?_
    refine wx_iload_n dX12_fit_50 rfl ?_
    refine wx_iconst (v := 1) dX12_fit_51 (by decide) ?_
    refine wx_isub dX12_fit_52 ?_
    obtain ⟨e_53, k_53, h⟩ := bd1_some h
    refine wx_cSi dX12_fit_53 ml_X12_203 my_X12_in sv_X12_in (s_X12_in (d := d - 1) hS (by omega) k_53) rfl (by omega) (by exact Nat.le_of_ble_eq_true rfl) hcu hsu ?_
    refine wx_if_eq (tgt := 81) dX12_fit_56 (by decide) (fun c_56 => ?_) (fun c_56 => ?_)
    · replace h := it_t h c_56
      obtain rfl := Option.some.inj h
      replace g := sE_r (sE_r g)
      exact wx_sub g px_0
    · replace h := it_f h c_56
      refine wx_aload_n dX12_fit_59 rfl ?_
      refine wx_iload_n dX12_fit_60 rfl ?_
      refine wx_iload_n dX12_fit_61 rfl ?_
      obtain ⟨e_62, k_62, h⟩ := bd1_some h
      refine wx_cVi dX12_fit_62 ml_X12_446 my_X12_takes iv_X12_takes (sc_73 hS) (by decide) (s_X12_takes (d := d - 1) hS (by omega) k_62) rfl (by omega) (by exact Nat.le_of_ble_eq_true rfl) hcu hsu ?_
      refine wx_if_eq (tgt := 75) dX12_fit_65 (by decide) (fun c_65 => ?_) (fun c_65 => ?_)
      · replace h := it_t h c_65
        refine wx_iinc (lv' := [(3, _), (0, _), (1, _), (2, _)]) dX12_fit_75 rfl (i_1 _) (by decide) rfl ?_
        refine wx_goto (tgt := 39) dX12_fit_78 (by decide) ?_
        obtain rfl := Option.some.inj h
        replace g := sE_l g
        exact wx_sub g (px_s rfl (px_s rfl (px_s rfl (px_s rfl px_0))))
      · replace h := it_f h c_65
        obtain rfl := Option.some.inj h
        replace g := sE_l (sE_r g)
        exact wx_sub g (px_s rfl (px_s rfl px_0))
theorem s_X12_fit_39 {x1 : Int32} {x2 : Int32} {x3 : Int32} {M : px_M} {L : px_L} {R : px_R} {e : ((px_M) ⊕ (px_M))} (hS : SR sh R) (hd : 5 ≤ d) (hcu : cu ≤ mc) (hsu : su ≤ ms) (h : lpf (fun a : Int32 × px_M => f_X12_fit_39 a.2 x1 x2 a.1) (x3, M) = some e) (g : (sE (fun t => WX RX12 cX12_fit 4 (some .int) ("fit", []) d mc ms X (px_QF Post mc ms) 68 [(0, .ref 73), (2, .int x2)] [] sh t L R n cu su) (fun t => WX RX12 cX12_fit 4 (some .int) ("fit", []) d mc ms X (px_QF Post mc ms) 81 [] [] sh t L R n cu su)) e) : WX RX12 cX12_fit 4 (some .int) ("fit", []) d mc ms X (px_QF Post mc ms) 39 [(0, .ref 73), (1, .int x1), (2, .int x2), (3, .int x3)] [] sh M L R n cu su := by
  have key := lpf_wp (P := (fun a => WX RX12 cX12_fit 4 (some .int) ("fit", []) d mc ms X (px_QF Post mc ms) 39 [(0, .ref 73), (1, .int x1), (2, .int x2), (3, .int a.1)] [] sh (a.2) L R n cu su)) (G := (sE (fun t => WX RX12 cX12_fit 4 (some .int) ("fit", []) d mc ms X (px_QF Post mc ms) 68 [(0, .ref 73), (2, .int x2)] [] sh t L R n cu su) (fun t => WX RX12 cX12_fit 4 (some .int) ("fit", []) d mc ms X (px_QF Post mc ms) 81 [] [] sh t L R n cu su))) (fun a r h g => s_X12_fit_39b (x1 := x1) (x2 := x2) (x3 := a.1) (M := a.2) (L := L) (R := R) hS hd hcu hsu h g) (a := (x3, M)) h g
  exact key
noncomputable def f_X12_fit_28 (M : px_M) (x1 : Int32) (x2 : Int32) (z0 : Int32) : Option (Int32 × px_M) :=
  bd1 (f_X12_bad M z0 1) fun e_29 =>
  if e_29.1 = 0 then
    bdS (lpf (fun a : Int32 × px_M => f_X12_fit_39 a.2 x1 x2 a.1) (0, e_29.2)) (fun t_39_0 =>
    ok (ix x2 4) <|
      some ((t_39_0 190 x2.toNatClampNeg), t_39_0)) (fun u_39_0 =>
    some ((-1), u_39_0))
  else
    some (0, e_29.2)
theorem s_X12_fit_28 {x1 : Int32} {x2 : Int32} {z0 : Int32} {M : px_M} {L : px_L} {R : px_R} {e : (Int32 × px_M)} (hS : SR sh R) (hd : 5 ≤ d) (hcu : cu ≤ mc) (hsu : su ≤ ms) (h : f_X12_fit_28 M x1 x2 z0 = some e) (g : Post (some (.int (e.1))) sh (e.2) L R n) : WX RX12 cX12_fit 4 (some .int) ("fit", []) d mc ms X (px_QF Post mc ms) 28 [(0, .ref 73), (1, .int x1), (2, .int x2)] [.int z0, .ref 73] sh M L R n cu su := by
  unfold f_X12_fit_28 at h
  refine wx_iconst (v := 1) dX12_fit_28 (by decide) ?_
  obtain ⟨e_29, k_29, h⟩ := bd1_some h
  refine wx_cVi dX12_fit_29 ml_X12_207 my_X12_bad iv_X12_bad (sc_73 hS) (by decide) (s_X12_bad (d := d - 1) hS (by omega) k_29) rfl (by omega) (by exact Nat.le_of_ble_eq_true rfl) hcu hsu ?_
  refine wx_if_eq (tgt := 37) dX12_fit_32 (by decide) (fun c_32 => ?_) (fun c_32 => ?_)
  · replace h := it_t h c_32
    refine wx_iconst (v := 0) dX12_fit_37 (by decide) ?_
    refine wx_istore_n (lv' := [(3, _), (0, _), (1, _), (2, _)]) dX12_fit_38 (by decide) rfl ?_
    rcases bdS_some h with ⟨t_39_0, k_39_0, h⟩ | ⟨u_39_0, k_39_0, h⟩
    · refine wx_sub (s_X12_fit_39 hS hd hcu hsu k_39_0 (sE_li ?_)) (px_s rfl (px_s rfl (px_s rfl (px_s rfl px_0))))
      refine wx_aload_n dX12_fit_68 rfl ?_
      refine wx_getR dX12_fit_69 fl_X12_125 (sc_73 hS) rfl (rr_73_55 hS) ?_
      refine wx_iload_n dX12_fit_72 rfl ?_
      obtain ⟨w_73, h⟩ := ok_some h
      refine wx_iald dX12_fit_73 (sc_190 hS) (ix_in w_73) ?_
      refine wx_iret dX12_fit_74 hcu hsu ?_
      obtain rfl := Option.some.inj h
      exact g
    · refine wx_sub (s_X12_fit_39 hS hd hcu hsu k_39_0 (sE_ri ?_)) (px_s rfl (px_s rfl (px_s rfl (px_s rfl px_0))))
      refine wx_iconst (v := (-1)) dX12_fit_81 (by decide) ?_
      refine wx_iret dX12_fit_82 hcu hsu ?_
      obtain rfl := Option.some.inj h
      exact g
  · replace h := it_f h c_32
    refine wx_iconst (v := 0) dX12_fit_35 (by decide) ?_
    refine wx_iret dX12_fit_36 hcu hsu ?_
    obtain rfl := Option.some.inj h
    exact g
noncomputable def f_X12_fit_23 (M : px_M) (x1 : Int32) (x2 : Int32) : Option (Int32 × px_M) :=
  f_X12_fit_28 M x1 x2 1
theorem s_X12_fit_23 {x1 : Int32} {x2 : Int32} {M : px_M} {L : px_L} {R : px_R} {e : (Int32 × px_M)} (hS : SR sh R) (hd : 5 ≤ d) (hcu : cu ≤ mc) (hsu : su ≤ ms) (h : f_X12_fit_23 M x1 x2 = some e) (g : Post (some (.int (e.1))) sh (e.2) L R n) : WX RX12 cX12_fit 4 (some .int) ("fit", []) d mc ms X (px_QF Post mc ms) 23 [(0, .ref 73), (1, .int x1), (2, .int x2)] [.ref 73] sh M L R n cu su := by
  unfold f_X12_fit_23 at h
  refine wx_iconst (v := 1) dX12_fit_23 (by decide) ?_
  refine wx_goto (tgt := 28) dX12_fit_24 (by decide) ?_
  exact wx_sub (s_X12_fit_28 hS hd hcu hsu h g) (px_s rfl (px_s rfl (px_s rfl px_0)))
noncomputable def f_X12_fit (M : px_M) (p1 : Int32) (p2 : Int32) : Option (Int32 × px_M) :=
  nm (px_u M 73 0 0) fun M_2 =>
  bd1 (f_X12_in p1 1 4) fun e_9 =>
  if e_9 = 0 then
    f_X12_fit_23 M_2 p1 p2
  else
    if p1 ≤ (M_2 73 9) then
      f_X12_fit_28 M_2 p1 p2 0
    else
      f_X12_fit_23 M_2 p1 p2
theorem s_X12_fit {d : Nat} {X : Nat × (Nat → Int32)} {sh : px_Sh} {M : px_M} {L : px_L} {R : px_R} {n : Nat} {p1 : Int32} {p2 : Int32} {e : Int32 × px_M} (hS : SR sh R) (hd : 5 ≤ d) (h : f_X12_fit M p1 p2 = some e) : MX yX12_fit cX12_fit 4 (some .int) d 0 0 X [.ref 73, .int p1, .int p2] sh M L R n (px_pu (some (.int e.1)) sh e.2 L R n) := by
  refine MX.of (by decide +kernel) (by exact Nat.le_of_ble_eq_true rfl) ?_
  have hcu : 0 ≤ 0 := Nat.zero_le _
  have hsu : 0 ≤ 0 := Nat.zero_le _
  have g : px_pu (some (.int e.1)) sh e.2 L R n (some (.int e.1)) sh e.2 L R n := ⟨rfl, rfl, rfl, rfl, rfl, rfl⟩
  unfold f_X12_fit at h
  refine wx_aload_n dX12_fit_0 rfl ?_
  refine wx_iconst (v := 0) dX12_fit_1 (by decide) ?_
  refine wx_putI dX12_fit_2 fl_X12_179 (sc_73 hS) (Or.inl rfl) rfl ⟨rfl, rfl⟩ ?_
  refine wx_namM (fun M_2 q_2 => ?_)
  replace h := nm_at h q_2
  refine wx_aload_n dX12_fit_5 rfl ?_
  refine wx_iload_n dX12_fit_6 rfl ?_
  refine wx_iconst (v := 1) dX12_fit_7 (by decide) ?_
  refine wx_iconst (v := 4) dX12_fit_8 (by decide) ?_
  obtain ⟨e_9, k_9, h⟩ := bd1_some h
  refine wx_cSi dX12_fit_9 ml_X12_203 my_X12_in sv_X12_in (s_X12_in (d := d - 1) hS (by omega) k_9) rfl (by omega) (by exact Nat.le_of_ble_eq_true rfl) hcu hsu ?_
  refine wx_if_eq (tgt := 23) dX12_fit_12 (by decide) (fun c_12 => ?_) (fun c_12 => ?_)
  · replace h := it_t h c_12
    exact wx_sub (s_X12_fit_23 hS hd hcu hsu h g) (px_s rfl (px_s rfl (px_s rfl px_0)))
  · replace h := it_f h c_12
    refine wx_iload_n dX12_fit_15 rfl ?_
    refine wx_aload_n dX12_fit_16 rfl ?_
    refine wx_getI dX12_fit_17 fl_X12_222 (sc_73 hS) rfl ?_
    refine wx_icmp_le (tgt := 27) dX12_fit_20 (by decide) (fun c_20 => ?_) (fun c_20 => ?_)
    · replace h := it_t h c_20
      refine wx_iconst (v := 0) dX12_fit_27 (by decide) ?_
      exact wx_sub (s_X12_fit_28 hS hd hcu hsu h g) (px_s rfl (px_s rfl (px_s rfl px_0)))
    · replace h := it_f h c_20
      exact wx_sub (s_X12_fit_23 hS hd hcu hsu h g) (px_s rfl (px_s rfl (px_s rfl px_0)))
noncomputable def f_X12_shows_126 (M : px_M) (x1 : Int32) (x2 : Int32) (x3 : Int32) (x4 : Int32) (x5 : Int32) (x6 : Int32) (x7 : Int32) (x9 : Int32) (z0 : Int32) : Option ((Int32 × Int32) ⊕ (Int32)) :=
  some (.inl (z0, (x9 + 1)))
theorem s_X12_shows_126 {x1 : Int32} {x2 : Int32} {x3 : Int32} {x4 : Int32} {x5 : Int32} {x6 : Int32} {x7 : Int32} {x9 : Int32} {z0 : Int32} {M : px_M} {L : px_L} {R : px_R} {e : ((Int32 × Int32) ⊕ (Int32))} (hS : SR sh R) (hd : 5 ≤ d) (hcu : cu ≤ mc) (hsu : su ≤ ms) (h : f_X12_shows_126 M x1 x2 x3 x4 x5 x6 x7 x9 z0 = some e) (g : (sE (fun a => WX RX12 cX12_shows 10 (some .int) ("shows", []) d mc ms X (px_QF Post mc ms) 97 [(0, .ref 73), (1, .int x1), (2, .int x2), (3, .int x3), (4, .int x4), (5, .int x5), (6, .int x6), (7, .int x7), (8, .int a.1), (9, .int a.2)] [] sh M L R n cu su) (fun t => WX RX12 cX12_shows 10 (some .int) ("shows", []) d mc ms X (px_QF Post mc ms) 134 [(0, .ref 73), (1, .int x1), (2, .int x2), (3, .int x3), (4, .int x4), (5, .int x5), (6, .int x6), (7, .int x7), (8, .int t)] [] sh M L R n cu su)) e) : WX RX12 cX12_shows 10 (some .int) ("shows", []) d mc ms X (px_QF Post mc ms) 126 [(0, .ref 73), (1, .int x1), (2, .int x2), (3, .int x3), (4, .int x4), (5, .int x5), (6, .int x6), (7, .int x7), (9, .int x9)] [.int z0] sh M L R n cu su := by
  unfold f_X12_shows_126 at h
  refine wx_istore (lv' := [(8, _), (0, _), (1, _), (2, _), (3, _), (4, _), (5, _), (6, _), (7, _), (9, _)]) dX12_shows_126 (by decide) rfl ?_
  refine wx_iinc (lv' := [(9, _), (8, _), (0, _), (1, _), (2, _), (3, _), (4, _), (5, _), (6, _), (7, _)]) dX12_shows_128 rfl (i_1 _) (by decide) rfl ?_
  refine wx_goto (tgt := 97) dX12_shows_131 (by decide) ?_
  obtain rfl := Option.some.inj h
  replace g := sE_l g
  exact wx_sub g (px_s rfl (px_s rfl (px_s rfl (px_s rfl (px_s rfl (px_s rfl (px_s rfl (px_s rfl (px_s rfl (px_s rfl px_0))))))))))
noncomputable def f_X12_shows_125 (M : px_M) (x1 : Int32) (x2 : Int32) (x3 : Int32) (x4 : Int32) (x5 : Int32) (x6 : Int32) (x7 : Int32) (x9 : Int32) : Option ((Int32 × Int32) ⊕ (Int32)) :=
  f_X12_shows_126 M x1 x2 x3 x4 x5 x6 x7 x9 0
theorem s_X12_shows_125 {x1 : Int32} {x2 : Int32} {x3 : Int32} {x4 : Int32} {x5 : Int32} {x6 : Int32} {x7 : Int32} {x9 : Int32} {M : px_M} {L : px_L} {R : px_R} {e : ((Int32 × Int32) ⊕ (Int32))} (hS : SR sh R) (hd : 5 ≤ d) (hcu : cu ≤ mc) (hsu : su ≤ ms) (h : f_X12_shows_125 M x1 x2 x3 x4 x5 x6 x7 x9 = some e) (g : (sE (fun a => WX RX12 cX12_shows 10 (some .int) ("shows", []) d mc ms X (px_QF Post mc ms) 97 [(0, .ref 73), (1, .int x1), (2, .int x2), (3, .int x3), (4, .int x4), (5, .int x5), (6, .int x6), (7, .int x7), (8, .int a.1), (9, .int a.2)] [] sh M L R n cu su) (fun t => WX RX12 cX12_shows 10 (some .int) ("shows", []) d mc ms X (px_QF Post mc ms) 134 [(0, .ref 73), (1, .int x1), (2, .int x2), (3, .int x3), (4, .int x4), (5, .int x5), (6, .int x6), (7, .int x7), (8, .int t)] [] sh M L R n cu su)) e) : WX RX12 cX12_shows 10 (some .int) ("shows", []) d mc ms X (px_QF Post mc ms) 125 [(0, .ref 73), (1, .int x1), (2, .int x2), (3, .int x3), (4, .int x4), (5, .int x5), (6, .int x6), (7, .int x7), (9, .int x9)] [] sh M L R n cu su := by
  unfold f_X12_shows_125 at h
  refine wx_iconst (v := 0) dX12_shows_125 (by decide) ?_
  exact wx_sub (s_X12_shows_126 hS hd hcu hsu h g) (px_s rfl (px_s rfl (px_s rfl (px_s rfl (px_s rfl (px_s rfl (px_s rfl (px_s rfl (px_s rfl px_0)))))))))
noncomputable def f_X12_shows_97 (M : px_M) (x1 : Int32) (x2 : Int32) (x3 : Int32) (x4 : Int32) (x5 : Int32) (x6 : Int32) (x7 : Int32) (x8 : Int32) (x9 : Int32) : Option ((Int32 × Int32) ⊕ (Int32)) :=
  if x5 ≤ x9 then
    some (.inr x8)
  else
    if x8 = 0 then
      f_X12_shows_125 M x1 x2 x3 x4 x5 x6 x7 x9
    else
      ok (ix x9 625) <|
      if (M 191 x9.toNatClampNeg) = x7 then
        f_X12_shows_125 M x1 x2 x3 x4 x5 x6 x7 x9
      else
        f_X12_shows_126 M x1 x2 x3 x4 x5 x6 x7 x9 1
theorem s_X12_shows_97b {x1 : Int32} {x2 : Int32} {x3 : Int32} {x4 : Int32} {x5 : Int32} {x6 : Int32} {x7 : Int32} {x8 : Int32} {x9 : Int32} {M : px_M} {L : px_L} {R : px_R} {e : ((Int32 × Int32) ⊕ (Int32))} (hS : SR sh R) (hd : 5 ≤ d) (hcu : cu ≤ mc) (hsu : su ≤ ms) (h : f_X12_shows_97 M x1 x2 x3 x4 x5 x6 x7 x8 x9 = some e) (g : (sE (fun a => WX RX12 cX12_shows 10 (some .int) ("shows", []) d mc ms X (px_QF Post mc ms) 97 [(0, .ref 73), (1, .int x1), (2, .int x2), (3, .int x3), (4, .int x4), (5, .int x5), (6, .int x6), (7, .int x7), (8, .int a.1), (9, .int a.2)] [] sh M L R n cu su) (fun t => WX RX12 cX12_shows 10 (some .int) ("shows", []) d mc ms X (px_QF Post mc ms) 134 [(0, .ref 73), (1, .int x1), (2, .int x2), (3, .int x3), (4, .int x4), (5, .int x5), (6, .int x6), (7, .int x7), (8, .int t)] [] sh M L R n cu su)) e) : WX RX12 cX12_shows 10 (some .int) ("shows", []) d mc ms X (px_QF Post mc ms) 97 [(0, .ref 73), (1, .int x1), (2, .int x2), (3, .int x3), (4, .int x4), (5, .int x5), (6, .int x6), (7, .int x7), (8, .int x8), (9, .int x9)] [] sh M L R n cu su := by
  unfold f_X12_shows_97 at h
  refine wx_iload dX12_shows_97 rfl ?_
  refine wx_iload dX12_shows_99 rfl ?_
  refine wx_icmp_ge (tgt := 134) dX12_shows_101 (by decide) (fun c_101 => ?_) (fun c_101 => ?_)
  · replace h := it_t h c_101
    obtain rfl := Option.some.inj h
    replace g := sE_r g
    exact wx_sub g (px_s rfl (px_s rfl (px_s rfl (px_s rfl (px_s rfl (px_s rfl (px_s rfl (px_s rfl (px_s rfl px_0)))))))))
  · replace h := it_f h c_101
    refine wx_iload dX12_shows_104 rfl ?_
    refine wx_if_eq (tgt := 125) dX12_shows_106 (by decide) (fun c_106 => ?_) (fun c_106 => ?_)
    · replace h := it_t h c_106
      exact wx_sub (s_X12_shows_125 hS hd hcu hsu h g) (px_s rfl (px_s rfl (px_s rfl (px_s rfl (px_s rfl (px_s rfl (px_s rfl (px_s rfl (px_s rfl px_0)))))))))
    · replace h := it_f h c_106
      refine wx_aload_n dX12_shows_109 rfl ?_
      refine wx_getR dX12_shows_110 fl_X12_128 (sc_73 hS) rfl (rr_73_56 hS) ?_
      refine wx_iload dX12_shows_113 rfl ?_
      obtain ⟨w_115, h⟩ := ok_some h
      refine wx_iald dX12_shows_115 (sc_191 hS) (ix_in w_115) ?_
      refine wx_iload dX12_shows_116 rfl ?_
      refine wx_icmp_eq (tgt := 125) dX12_shows_118 (by decide) (fun c_118 => ?_) (fun c_118 => ?_)
      · replace h := it_t h c_118
        exact wx_sub (s_X12_shows_125 hS hd hcu hsu h g) (px_s rfl (px_s rfl (px_s rfl (px_s rfl (px_s rfl (px_s rfl (px_s rfl (px_s rfl (px_s rfl px_0)))))))))
      · replace h := it_f h c_118
        refine wx_iconst (v := 1) dX12_shows_121 (by decide) ?_
        refine wx_goto (tgt := 126) dX12_shows_122 (by decide) ?_
        exact wx_sub (s_X12_shows_126 hS hd hcu hsu h g) (px_s rfl (px_s rfl (px_s rfl (px_s rfl (px_s rfl (px_s rfl (px_s rfl (px_s rfl (px_s rfl px_0)))))))))
theorem s_X12_shows_97 {x1 : Int32} {x2 : Int32} {x3 : Int32} {x4 : Int32} {x5 : Int32} {x6 : Int32} {x7 : Int32} {x8 : Int32} {x9 : Int32} {M : px_M} {L : px_L} {R : px_R} {e : (Int32)} (hS : SR sh R) (hd : 5 ≤ d) (hcu : cu ≤ mc) (hsu : su ≤ ms) (h : lpf (fun a : Int32 × Int32 => f_X12_shows_97 M x1 x2 x3 x4 x5 x6 x7 a.1 a.2) (x8, x9) = some e) (g : WX RX12 cX12_shows 10 (some .int) ("shows", []) d mc ms X (px_QF Post mc ms) 134 [(0, .ref 73), (1, .int x1), (2, .int x2), (3, .int x3), (4, .int x4), (5, .int x5), (6, .int x6), (7, .int x7), (8, .int e)] [] sh M L R n cu su) : WX RX12 cX12_shows 10 (some .int) ("shows", []) d mc ms X (px_QF Post mc ms) 97 [(0, .ref 73), (1, .int x1), (2, .int x2), (3, .int x3), (4, .int x4), (5, .int x5), (6, .int x6), (7, .int x7), (8, .int x8), (9, .int x9)] [] sh M L R n cu su := by
  have key := lpf_wp (P := (fun a => WX RX12 cX12_shows 10 (some .int) ("shows", []) d mc ms X (px_QF Post mc ms) 97 [(0, .ref 73), (1, .int x1), (2, .int x2), (3, .int x3), (4, .int x4), (5, .int x5), (6, .int x6), (7, .int x7), (8, .int a.1), (9, .int a.2)] [] sh M L R n cu su)) (G := (fun t => WX RX12 cX12_shows 10 (some .int) ("shows", []) d mc ms X (px_QF Post mc ms) 134 [(0, .ref 73), (1, .int x1), (2, .int x2), (3, .int x3), (4, .int x4), (5, .int x5), (6, .int x6), (7, .int x7), (8, .int t)] [] sh M L R n cu su)) (fun a r h g => s_X12_shows_97b (x1 := x1) (x2 := x2) (x3 := x3) (x4 := x4) (x5 := x5) (x6 := x6) (x7 := x7) (x8 := a.1) (x9 := a.2) (M := M) (L := L) (R := R) hS hd hcu hsu h g) (a := (x8, x9)) h g
  exact key
noncomputable def f_X12_shows_151 (M : px_M) (x1 : Int32) (x2 : Int32) (x3 : Int32) (x4 : Int32) (x5 : Int32) (x6 : Int32) : Option ((Int32 × Int32 × px_M) ⊕ (Int32 × px_M)) :=
  some (.inl (x5, (x6 + 1), M))
theorem s_X12_shows_151 {x1 : Int32} {x2 : Int32} {x3 : Int32} {x4 : Int32} {x5 : Int32} {x6 : Int32} {M : px_M} {L : px_L} {R : px_R} {e : ((Int32 × Int32 × px_M) ⊕ (Int32 × px_M))} (hS : SR sh R) (hd : 5 ≤ d) (hcu : cu ≤ mc) (hsu : su ≤ ms) (h : f_X12_shows_151 M x1 x2 x3 x4 x5 x6 = some e) (g : (sE (fun a => WX RX12 cX12_shows 10 (some .int) ("shows", []) d mc ms X (px_QF Post mc ms) 59 [(0, .ref 73), (1, .int x1), (2, .int x2), (3, .int x3), (4, .int x4), (5, .int a.1), (6, .int a.2.1)] [] sh (a.2.2) L R n cu su) (fun t => WX RX12 cX12_shows 10 (some .int) ("shows", []) d mc ms X (px_QF Post mc ms) 157 [(0, .ref 73), (1, .int x1), (2, .int x2), (3, .int x3), (4, .int x4), (5, .int t.1)] [] sh (t.2) L R n cu su)) e) : WX RX12 cX12_shows 10 (some .int) ("shows", []) d mc ms X (px_QF Post mc ms) 151 [(0, .ref 73), (1, .int x1), (2, .int x2), (3, .int x3), (4, .int x4), (5, .int x5), (6, .int x6)] [] sh M L R n cu su := by
  unfold f_X12_shows_151 at h
  refine wx_iinc (lv' := [(6, _), (0, _), (1, _), (2, _), (3, _), (4, _), (5, _)]) dX12_shows_151 rfl (i_1 _) (by decide) rfl ?_
  refine wx_goto (tgt := 59) dX12_shows_154 (by decide) ?_
  obtain rfl := Option.some.inj h
  replace g := sE_l g
  exact wx_sub g (px_s rfl (px_s rfl (px_s rfl (px_s rfl (px_s rfl (px_s rfl (px_s rfl px_0)))))))
noncomputable def f_X12_shows_59 (M : px_M) (x1 : Int32) (x2 : Int32) (x3 : Int32) (x4 : Int32) (x5 : Int32) (x6 : Int32) : Option ((Int32 × Int32 × px_M) ⊕ (Int32 × px_M)) :=
  bd1 (f_X12_waysOf M x1) fun e_63 =>
  if e_63 ≤ x6 then
    some (.inr (x5, M))
  else
    bd1 (f_X12_takes M x1 x6) fun e_73 =>
    if e_73.1 = 0 then
      f_X12_shows_151 e_73.2 x1 x2 x3 x4 x5 x6
    else
      bd1 (f_X12_seen e_73.2 x1 x4) fun e_86 =>
      bd1 (lpf (fun a : Int32 × Int32 => f_X12_shows_97 e_73.2 x1 x2 x3 x4 x5 x6 e_86 a.1 a.2) (1, 0)) fun e_97 =>
      if e_97 = 0 then
        f_X12_shows_151 e_73.2 x1 x2 x3 x4 x5 x6
      else
        ok (ix x5 625) <|
        nm (px_u e_73.2 191 x5.toNatClampNeg e_86) fun M_147 =>
        f_X12_shows_151 M_147 x1 x2 x3 x4 (x5 + 1) x6
theorem s_X12_shows_59b {x1 : Int32} {x2 : Int32} {x3 : Int32} {x4 : Int32} {x5 : Int32} {x6 : Int32} {M : px_M} {L : px_L} {R : px_R} {e : ((Int32 × Int32 × px_M) ⊕ (Int32 × px_M))} (hS : SR sh R) (hd : 5 ≤ d) (hcu : cu ≤ mc) (hsu : su ≤ ms) (h : f_X12_shows_59 M x1 x2 x3 x4 x5 x6 = some e) (g : (sE (fun a => WX RX12 cX12_shows 10 (some .int) ("shows", []) d mc ms X (px_QF Post mc ms) 59 [(0, .ref 73), (1, .int x1), (2, .int x2), (3, .int x3), (4, .int x4), (5, .int a.1), (6, .int a.2.1)] [] sh (a.2.2) L R n cu su) (fun t => WX RX12 cX12_shows 10 (some .int) ("shows", []) d mc ms X (px_QF Post mc ms) 157 [(0, .ref 73), (1, .int x1), (2, .int x2), (3, .int x3), (4, .int x4), (5, .int t.1)] [] sh (t.2) L R n cu su)) e) : WX RX12 cX12_shows 10 (some .int) ("shows", []) d mc ms X (px_QF Post mc ms) 59 [(0, .ref 73), (1, .int x1), (2, .int x2), (3, .int x3), (4, .int x4), (5, .int x5), (6, .int x6)] [] sh M L R n cu su := by
  unfold f_X12_shows_59 at h
  refine wx_iload dX12_shows_59 rfl ?_
  refine wx_aload_n dX12_shows_61 rfl ?_
  refine wx_iload_n dX12_shows_62 rfl ?_
  obtain ⟨e_63, k_63, h⟩ := bd1_some h
  refine wx_cVi dX12_shows_63 ml_X12_443 my_X12_waysOf iv_X12_waysOf (sc_73 hS) (by decide) (s_X12_waysOf (d := d - 1) hS (by omega) k_63) rfl (by omega) (by exact Nat.le_of_ble_eq_true rfl) hcu hsu ?_
  refine wx_icmp_ge (tgt := 157) dX12_shows_66 (by decide) (fun c_66 => ?_) (fun c_66 => ?_)
  · replace h := it_t h c_66
    obtain rfl := Option.some.inj h
    replace g := sE_r g
    exact wx_sub g (px_s rfl (px_s rfl (px_s rfl (px_s rfl (px_s rfl (px_s rfl px_0))))))
  · replace h := it_f h c_66
    refine wx_aload_n dX12_shows_69 rfl ?_
    refine wx_iload_n dX12_shows_70 rfl ?_
    refine wx_iload dX12_shows_71 rfl ?_
    obtain ⟨e_73, k_73, h⟩ := bd1_some h
    refine wx_cVi dX12_shows_73 ml_X12_446 my_X12_takes iv_X12_takes (sc_73 hS) (by decide) (s_X12_takes (d := d - 1) hS (by omega) k_73) rfl (by omega) (by exact Nat.le_of_ble_eq_true rfl) hcu hsu ?_
    refine wx_if_ne (tgt := 82) dX12_shows_76 (by decide) (fun c_76 => ?_) (fun c_76 => ?_)
    · replace h := it_f h c_76
      refine wx_aload_n dX12_shows_82 rfl ?_
      refine wx_iload_n dX12_shows_83 rfl ?_
      refine wx_iload dX12_shows_84 rfl ?_
      obtain ⟨e_86, k_86, h⟩ := bd1_some h
      refine wx_cVi dX12_shows_86 ml_X12_440 my_X12_seen iv_X12_seen (sc_73 hS) (by decide) (s_X12_seen (d := d - 1) hS (by omega) k_86) rfl (by omega) (by exact Nat.le_of_ble_eq_true rfl) hcu hsu ?_
      refine wx_istore (lv' := [(7, _), (0, _), (1, _), (2, _), (3, _), (4, _), (5, _), (6, _)]) dX12_shows_89 (by decide) rfl ?_
      refine wx_iconst (v := 1) dX12_shows_91 (by decide) ?_
      refine wx_istore (lv' := [(8, _), (7, _), (0, _), (1, _), (2, _), (3, _), (4, _), (5, _), (6, _)]) dX12_shows_92 (by decide) rfl ?_
      refine wx_iconst (v := 0) dX12_shows_94 (by decide) ?_
      refine wx_istore (lv' := [(9, _), (8, _), (7, _), (0, _), (1, _), (2, _), (3, _), (4, _), (5, _), (6, _)]) dX12_shows_95 (by decide) rfl ?_
      obtain ⟨e_97, k_97, h⟩ := bd1_some h
      refine wx_sub (s_X12_shows_97 hS hd hcu hsu k_97 ?_) (px_s rfl (px_s rfl (px_s rfl (px_s rfl (px_s rfl (px_s rfl (px_s rfl (px_s rfl (px_s rfl (px_s rfl px_0))))))))))
      refine wx_iload dX12_shows_134 rfl ?_
      refine wx_if_eq (tgt := 151) dX12_shows_136 (by decide) (fun c_136 => ?_) (fun c_136 => ?_)
      · replace h := it_t h c_136
        exact wx_sub (s_X12_shows_151 hS hd hcu hsu h g) (px_s rfl (px_s rfl (px_s rfl (px_s rfl (px_s rfl (px_s rfl (px_s rfl px_0)))))))
      · replace h := it_f h c_136
        refine wx_aload_n dX12_shows_139 rfl ?_
        refine wx_getR dX12_shows_140 fl_X12_128 (sc_73 hS) rfl (rr_73_56 hS) ?_
        refine wx_iload dX12_shows_143 rfl ?_
        refine wx_iload dX12_shows_145 rfl ?_
        obtain ⟨w_147, h⟩ := ok_some h
        refine wx_iast dX12_shows_147 (sc_191 hS) (ix_in w_147) ?_
        refine wx_namM (fun M_147 q_147 => ?_)
        replace h := nm_at h q_147
        refine wx_iinc (lv' := [(5, _), (0, _), (1, _), (2, _), (3, _), (4, _), (6, _), (7, _), (8, _)]) dX12_shows_148 rfl (i_1 _) (by decide) rfl ?_
        exact wx_sub (s_X12_shows_151 hS hd hcu hsu h g) (px_s rfl (px_s rfl (px_s rfl (px_s rfl (px_s rfl (px_s rfl (px_s rfl px_0)))))))
    · replace h := it_t h c_76
      refine wx_goto (tgt := 151) dX12_shows_79 (by decide) ?_
      exact wx_sub (s_X12_shows_151 hS hd hcu hsu h g) (px_s rfl (px_s rfl (px_s rfl (px_s rfl (px_s rfl (px_s rfl (px_s rfl px_0)))))))
theorem s_X12_shows_59 {x1 : Int32} {x2 : Int32} {x3 : Int32} {x4 : Int32} {x5 : Int32} {x6 : Int32} {M : px_M} {L : px_L} {R : px_R} {e : (Int32 × px_M)} (hS : SR sh R) (hd : 5 ≤ d) (hcu : cu ≤ mc) (hsu : su ≤ ms) (h : lpf (fun a : Int32 × Int32 × px_M => f_X12_shows_59 a.2.2 x1 x2 x3 x4 a.1 a.2.1) (x5, x6, M) = some e) (g : WX RX12 cX12_shows 10 (some .int) ("shows", []) d mc ms X (px_QF Post mc ms) 157 [(0, .ref 73), (1, .int x1), (2, .int x2), (3, .int x3), (4, .int x4), (5, .int e.1)] [] sh (e.2) L R n cu su) : WX RX12 cX12_shows 10 (some .int) ("shows", []) d mc ms X (px_QF Post mc ms) 59 [(0, .ref 73), (1, .int x1), (2, .int x2), (3, .int x3), (4, .int x4), (5, .int x5), (6, .int x6)] [] sh M L R n cu su := by
  have key := lpf_wp (P := (fun a => WX RX12 cX12_shows 10 (some .int) ("shows", []) d mc ms X (px_QF Post mc ms) 59 [(0, .ref 73), (1, .int x1), (2, .int x2), (3, .int x3), (4, .int x4), (5, .int a.1), (6, .int a.2.1)] [] sh (a.2.2) L R n cu su)) (G := (fun t => WX RX12 cX12_shows 10 (some .int) ("shows", []) d mc ms X (px_QF Post mc ms) 157 [(0, .ref 73), (1, .int x1), (2, .int x2), (3, .int x3), (4, .int x4), (5, .int t.1)] [] sh (t.2) L R n cu su)) (fun a r h g => s_X12_shows_59b (x1 := x1) (x2 := x2) (x3 := x3) (x4 := x4) (x5 := a.1) (x6 := a.2.1) (M := a.2.2) (L := L) (R := R) hS hd hcu hsu h g) (a := (x5, x6, M)) h g
  exact key
noncomputable def f_X12_shows_169 (M : px_M) (x1 : Int32) (x2 : Int32) (x3 : Int32) (x4 : Int32) : Option ((Int32 × Int32 × Int32 × px_M) ⊕ (Int32 × px_M)) :=
  some (.inl (x2, x3, (x4 + 1), M))
theorem s_X12_shows_169 {x1 : Int32} {x2 : Int32} {x3 : Int32} {x4 : Int32} {M : px_M} {L : px_L} {R : px_R} {e : ((Int32 × Int32 × Int32 × px_M) ⊕ (Int32 × px_M))} (hS : SR sh R) (hd : 5 ≤ d) (hcu : cu ≤ mc) (hsu : su ≤ ms) (h : f_X12_shows_169 M x1 x2 x3 x4 = some e) (g : (sE (fun a => WX RX12 cX12_shows 10 (some .int) ("shows", []) d mc ms X (px_QF Post mc ms) 46 [(0, .ref 73), (1, .int x1), (2, .int a.1), (3, .int a.2.1), (4, .int a.2.2.1)] [] sh (a.2.2.2) L R n cu su) (fun t => WX RX12 cX12_shows 10 (some .int) ("shows", []) d mc ms X (px_QF Post mc ms) 175 [(2, .int t.1)] [] sh (t.2) L R n cu su)) e) : WX RX12 cX12_shows 10 (some .int) ("shows", []) d mc ms X (px_QF Post mc ms) 169 [(0, .ref 73), (1, .int x1), (2, .int x2), (3, .int x3), (4, .int x4)] [] sh M L R n cu su := by
  unfold f_X12_shows_169 at h
  refine wx_iinc (lv' := [(4, _), (0, _), (1, _), (2, _), (3, _)]) dX12_shows_169 rfl (i_1 _) (by decide) rfl ?_
  refine wx_goto (tgt := 46) dX12_shows_172 (by decide) ?_
  obtain rfl := Option.some.inj h
  replace g := sE_l g
  exact wx_sub g (px_s rfl (px_s rfl (px_s rfl (px_s rfl (px_s rfl px_0)))))
noncomputable def f_X12_shows_46 (M : px_M) (x1 : Int32) (x2 : Int32) (x3 : Int32) (x4 : Int32) : Option ((Int32 × Int32 × Int32 × px_M) ⊕ (Int32 × px_M)) :=
  if 8 < x4 then
    some (.inr (x2, M))
  else
    bd1 (lpf (fun a : Int32 × Int32 × px_M => f_X12_shows_59 a.2.2 x1 x2 x3 x4 a.1 a.2.1) (0, 0, M)) fun e_59 =>
    if e_59.1 ≤ x3 then
      f_X12_shows_169 e_59.2 x1 x2 x3 x4
    else
      f_X12_shows_169 e_59.2 x1 x4 e_59.1 x4
theorem s_X12_shows_46b {x1 : Int32} {x2 : Int32} {x3 : Int32} {x4 : Int32} {M : px_M} {L : px_L} {R : px_R} {e : ((Int32 × Int32 × Int32 × px_M) ⊕ (Int32 × px_M))} (hS : SR sh R) (hd : 5 ≤ d) (hcu : cu ≤ mc) (hsu : su ≤ ms) (h : f_X12_shows_46 M x1 x2 x3 x4 = some e) (g : (sE (fun a => WX RX12 cX12_shows 10 (some .int) ("shows", []) d mc ms X (px_QF Post mc ms) 46 [(0, .ref 73), (1, .int x1), (2, .int a.1), (3, .int a.2.1), (4, .int a.2.2.1)] [] sh (a.2.2.2) L R n cu su) (fun t => WX RX12 cX12_shows 10 (some .int) ("shows", []) d mc ms X (px_QF Post mc ms) 175 [(2, .int t.1)] [] sh (t.2) L R n cu su)) e) : WX RX12 cX12_shows 10 (some .int) ("shows", []) d mc ms X (px_QF Post mc ms) 46 [(0, .ref 73), (1, .int x1), (2, .int x2), (3, .int x3), (4, .int x4)] [] sh M L R n cu su := by
  unfold f_X12_shows_46 at h
  refine wx_iload dX12_shows_46 rfl ?_
  refine wx_bipush (v := 8) dX12_shows_48 (by decide) ?_
  refine wx_icmp_gt (tgt := 175) dX12_shows_50 (by decide) (fun c_50 => ?_) (fun c_50 => ?_)
  · replace h := it_t h c_50
    obtain rfl := Option.some.inj h
    replace g := sE_r g
    exact wx_sub g (px_s rfl px_0)
  · replace h := it_f h c_50
    refine wx_iconst (v := 0) dX12_shows_53 (by decide) ?_
    refine wx_istore (lv' := [(5, _), (0, _), (1, _), (2, _), (3, _), (4, _)]) dX12_shows_54 (by decide) rfl ?_
    refine wx_iconst (v := 0) dX12_shows_56 (by decide) ?_
    refine wx_istore (lv' := [(6, _), (5, _), (0, _), (1, _), (2, _), (3, _), (4, _)]) dX12_shows_57 (by decide) rfl ?_
    obtain ⟨e_59, k_59, h⟩ := bd1_some h
    refine wx_sub (s_X12_shows_59 hS hd hcu hsu k_59 ?_) (px_s rfl (px_s rfl (px_s rfl (px_s rfl (px_s rfl (px_s rfl (px_s rfl px_0)))))))
    refine wx_iload dX12_shows_157 rfl ?_
    refine wx_iload_n dX12_shows_159 rfl ?_
    refine wx_icmp_le (tgt := 169) dX12_shows_160 (by decide) (fun c_160 => ?_) (fun c_160 => ?_)
    · replace h := it_t h c_160
      exact wx_sub (s_X12_shows_169 hS hd hcu hsu h g) (px_s rfl (px_s rfl (px_s rfl (px_s rfl (px_s rfl px_0)))))
    · replace h := it_f h c_160
      refine wx_iload dX12_shows_163 rfl ?_
      refine wx_istore_n (lv' := [(3, _), (0, _), (1, _), (2, _), (4, _), (5, _)]) dX12_shows_165 (by decide) rfl ?_
      refine wx_iload dX12_shows_166 rfl ?_
      refine wx_istore_n (lv' := [(2, _), (3, _), (0, _), (1, _), (4, _), (5, _)]) dX12_shows_168 (by decide) rfl ?_
      exact wx_sub (s_X12_shows_169 hS hd hcu hsu h g) (px_s rfl (px_s rfl (px_s rfl (px_s rfl (px_s rfl px_0)))))
theorem s_X12_shows_46 {x1 : Int32} {x2 : Int32} {x3 : Int32} {x4 : Int32} {M : px_M} {L : px_L} {R : px_R} {e : (Int32 × px_M)} (hS : SR sh R) (hd : 5 ≤ d) (hcu : cu ≤ mc) (hsu : su ≤ ms) (h : lpf (fun a : Int32 × Int32 × Int32 × px_M => f_X12_shows_46 a.2.2.2 x1 a.1 a.2.1 a.2.2.1) (x2, x3, x4, M) = some e) (g : WX RX12 cX12_shows 10 (some .int) ("shows", []) d mc ms X (px_QF Post mc ms) 175 [(2, .int e.1)] [] sh (e.2) L R n cu su) : WX RX12 cX12_shows 10 (some .int) ("shows", []) d mc ms X (px_QF Post mc ms) 46 [(0, .ref 73), (1, .int x1), (2, .int x2), (3, .int x3), (4, .int x4)] [] sh M L R n cu su := by
  have key := lpf_wp (P := (fun a => WX RX12 cX12_shows 10 (some .int) ("shows", []) d mc ms X (px_QF Post mc ms) 46 [(0, .ref 73), (1, .int x1), (2, .int a.1), (3, .int a.2.1), (4, .int a.2.2.1)] [] sh (a.2.2.2) L R n cu su)) (G := (fun t => WX RX12 cX12_shows 10 (some .int) ("shows", []) d mc ms X (px_QF Post mc ms) 175 [(2, .int t.1)] [] sh (t.2) L R n cu su)) (fun a r h g => s_X12_shows_46b (x1 := x1) (x2 := a.1) (x3 := a.2.1) (x4 := a.2.2.1) (M := a.2.2.2) (L := L) (R := R) hS hd hcu hsu h g) (a := (x2, x3, x4, M)) h g
  exact key
noncomputable def f_X12_shows_28 (M : px_M) (x1 : Int32) (z0 : Int32) : Option (Int32 × px_M) :=
  bd1 (f_X12_bad M z0 1) fun e_29 =>
  if e_29.1 = 0 then
    bd1 (lpf (fun a : Int32 × Int32 × Int32 × px_M => f_X12_shows_46 a.2.2.2 x1 a.1 a.2.1 a.2.2.1) ((-9), 0, (-8), e_29.2)) fun e_46 =>
    some (e_46.1, e_46.2)
  else
    some (0, e_29.2)
theorem s_X12_shows_28 {x1 : Int32} {z0 : Int32} {M : px_M} {L : px_L} {R : px_R} {e : (Int32 × px_M)} (hS : SR sh R) (hd : 5 ≤ d) (hcu : cu ≤ mc) (hsu : su ≤ ms) (h : f_X12_shows_28 M x1 z0 = some e) (g : Post (some (.int (e.1))) sh (e.2) L R n) : WX RX12 cX12_shows 10 (some .int) ("shows", []) d mc ms X (px_QF Post mc ms) 28 [(0, .ref 73), (1, .int x1)] [.int z0, .ref 73] sh M L R n cu su := by
  unfold f_X12_shows_28 at h
  refine wx_iconst (v := 1) dX12_shows_28 (by decide) ?_
  obtain ⟨e_29, k_29, h⟩ := bd1_some h
  refine wx_cVi dX12_shows_29 ml_X12_207 my_X12_bad iv_X12_bad (sc_73 hS) (by decide) (s_X12_bad (d := d - 1) hS (by omega) k_29) rfl (by omega) (by exact Nat.le_of_ble_eq_true rfl) hcu hsu ?_
  refine wx_if_eq (tgt := 37) dX12_shows_32 (by decide) (fun c_32 => ?_) (fun c_32 => ?_)
  · replace h := it_t h c_32
    refine wx_bipush (v := (-9)) dX12_shows_37 (by decide) ?_
    refine wx_istore_n (lv' := [(2, _), (0, _), (1, _)]) dX12_shows_39 (by decide) rfl ?_
    refine wx_iconst (v := 0) dX12_shows_40 (by decide) ?_
    refine wx_istore_n (lv' := [(3, _), (2, _), (0, _), (1, _)]) dX12_shows_41 (by decide) rfl ?_
    refine wx_bipush (v := (-8)) dX12_shows_42 (by decide) ?_
    refine wx_istore (lv' := [(4, _), (3, _), (2, _), (0, _), (1, _)]) dX12_shows_44 (by decide) rfl ?_
    obtain ⟨e_46, k_46, h⟩ := bd1_some h
    refine wx_sub (s_X12_shows_46 hS hd hcu hsu k_46 ?_) (px_s rfl (px_s rfl (px_s rfl (px_s rfl (px_s rfl px_0)))))
    refine wx_iload_n dX12_shows_175 rfl ?_
    refine wx_iret dX12_shows_176 hcu hsu ?_
    obtain rfl := Option.some.inj h
    exact g
  · replace h := it_f h c_32
    refine wx_iconst (v := 0) dX12_shows_35 (by decide) ?_
    refine wx_iret dX12_shows_36 hcu hsu ?_
    obtain rfl := Option.some.inj h
    exact g
noncomputable def f_X12_shows_23 (M : px_M) (x1 : Int32) : Option (Int32 × px_M) :=
  f_X12_shows_28 M x1 1
theorem s_X12_shows_23 {x1 : Int32} {M : px_M} {L : px_L} {R : px_R} {e : (Int32 × px_M)} (hS : SR sh R) (hd : 5 ≤ d) (hcu : cu ≤ mc) (hsu : su ≤ ms) (h : f_X12_shows_23 M x1 = some e) (g : Post (some (.int (e.1))) sh (e.2) L R n) : WX RX12 cX12_shows 10 (some .int) ("shows", []) d mc ms X (px_QF Post mc ms) 23 [(0, .ref 73), (1, .int x1)] [.ref 73] sh M L R n cu su := by
  unfold f_X12_shows_23 at h
  refine wx_iconst (v := 1) dX12_shows_23 (by decide) ?_
  refine wx_goto (tgt := 28) dX12_shows_24 (by decide) ?_
  exact wx_sub (s_X12_shows_28 hS hd hcu hsu h g) (px_s rfl (px_s rfl px_0))
noncomputable def f_X12_shows (M : px_M) (p1 : Int32) : Option (Int32 × px_M) :=
  nm (px_u M 73 0 0) fun M_2 =>
  bd1 (f_X12_in p1 1 4) fun e_9 =>
  if e_9 = 0 then
    f_X12_shows_23 M_2 p1
  else
    if p1 ≤ (M_2 73 9) then
      f_X12_shows_28 M_2 p1 0
    else
      f_X12_shows_23 M_2 p1
theorem s_X12_shows {d : Nat} {X : Nat × (Nat → Int32)} {sh : px_Sh} {M : px_M} {L : px_L} {R : px_R} {n : Nat} {p1 : Int32} {e : Int32 × px_M} (hS : SR sh R) (hd : 5 ≤ d) (h : f_X12_shows M p1 = some e) : MX yX12_shows cX12_shows 10 (some .int) d 0 0 X [.ref 73, .int p1] sh M L R n (px_pu (some (.int e.1)) sh e.2 L R n) := by
  refine MX.of (by decide +kernel) (by exact Nat.le_of_ble_eq_true rfl) ?_
  have hcu : 0 ≤ 0 := Nat.zero_le _
  have hsu : 0 ≤ 0 := Nat.zero_le _
  have g : px_pu (some (.int e.1)) sh e.2 L R n (some (.int e.1)) sh e.2 L R n := ⟨rfl, rfl, rfl, rfl, rfl, rfl⟩
  unfold f_X12_shows at h
  refine wx_aload_n dX12_shows_0 rfl ?_
  refine wx_iconst (v := 0) dX12_shows_1 (by decide) ?_
  refine wx_putI dX12_shows_2 fl_X12_179 (sc_73 hS) (Or.inl rfl) rfl ⟨rfl, rfl⟩ ?_
  refine wx_namM (fun M_2 q_2 => ?_)
  replace h := nm_at h q_2
  refine wx_aload_n dX12_shows_5 rfl ?_
  refine wx_iload_n dX12_shows_6 rfl ?_
  refine wx_iconst (v := 1) dX12_shows_7 (by decide) ?_
  refine wx_iconst (v := 4) dX12_shows_8 (by decide) ?_
  obtain ⟨e_9, k_9, h⟩ := bd1_some h
  refine wx_cSi dX12_shows_9 ml_X12_203 my_X12_in sv_X12_in (s_X12_in (d := d - 1) hS (by omega) k_9) rfl (by omega) (by exact Nat.le_of_ble_eq_true rfl) hcu hsu ?_
  refine wx_if_eq (tgt := 23) dX12_shows_12 (by decide) (fun c_12 => ?_) (fun c_12 => ?_)
  · replace h := it_t h c_12
    exact wx_sub (s_X12_shows_23 hS hd hcu hsu h g) (px_s rfl (px_s rfl px_0))
  · replace h := it_f h c_12
    refine wx_iload_n dX12_shows_15 rfl ?_
    refine wx_aload_n dX12_shows_16 rfl ?_
    refine wx_getI dX12_shows_17 fl_X12_222 (sc_73 hS) rfl ?_
    refine wx_icmp_le (tgt := 27) dX12_shows_20 (by decide) (fun c_20 => ?_) (fun c_20 => ?_)
    · replace h := it_t h c_20
      refine wx_iconst (v := 0) dX12_shows_27 (by decide) ?_
      exact wx_sub (s_X12_shows_28 hS hd hcu hsu h g) (px_s rfl (px_s rfl px_0))
    · replace h := it_f h c_20
      exact wx_sub (s_X12_shows_23 hS hd hcu hsu h g) (px_s rfl (px_s rfl px_0))
noncomputable def f_X12_knot_31 (M : px_M) (x1 : Int32) (x2 : Int32) (x3 : Int32) (z0 : Int32) : Option (Int32 × px_M) :=
  bd1 (f_X12_bad M z0 1) fun e_32 =>
  if e_32.1 = 0 then
    if (e_32.2 73 57) = 6 then
      some ((-1), e_32.2)
    else
      ok (ix (e_32.2 73 57) 6) <|
      nm (px_u e_32.2 192 (e_32.2 73 57).toNatClampNeg x1) fun M_60 =>
      ok (ix (M_60 73 57) 6) <|
      nm (px_u M_60 193 (M_60 73 57).toNatClampNeg x2) fun M_70 =>
      ok (ix (M_70 73 57) 6) <|
      nm (px_u M_70 194 (M_70 73 57).toNatClampNeg 0) fun M_80 =>
      ok (ix (M_80 73 57) 6) <|
      nm (px_u M_80 195 (M_80 73 57).toNatClampNeg 0) fun M_90 =>
      ok (ix (M_90 73 57) 6) <|
      ok (zb x3) <|
      nm (px_u M_90 198 (M_90 73 57).toNatClampNeg x3) fun M_100 =>
      nm ((M_100 73 57) + 1) fun v_108 =>
      nm (px_u M_100 73 57 v_108) fun M_108 =>
      some (((M_108 73 57) - 1), M_108)
  else
    some (0, e_32.2)
theorem s_X12_knot_31 {x1 : Int32} {x2 : Int32} {x3 : Int32} {z0 : Int32} {M : px_M} {L : px_L} {R : px_R} {e : (Int32 × px_M)} (hS : SR sh R) (hd : 1 ≤ d) (hcu : cu ≤ mc) (hsu : su ≤ ms) (h : f_X12_knot_31 M x1 x2 x3 z0 = some e) (g : Post (some (.int (e.1))) sh (e.2) L R n) : WX RX12 cX12_knot 4 (some .int) ("knot", []) d mc ms X (px_QF Post mc ms) 31 [(0, .ref 73), (1, .int x1), (2, .int x2), (3, .int x3)] [.int z0, .ref 73] sh M L R n cu su := by
  unfold f_X12_knot_31 at h
  refine wx_iconst (v := 1) dX12_knot_31 (by decide) ?_
  obtain ⟨e_32, k_32, h⟩ := bd1_some h
  refine wx_cVi dX12_knot_32 ml_X12_207 my_X12_bad iv_X12_bad (sc_73 hS) (by decide) (s_X12_bad (d := d - 1) hS (by omega) k_32) rfl (by omega) (by exact Nat.le_of_ble_eq_true rfl) hcu hsu ?_
  refine wx_if_eq (tgt := 40) dX12_knot_35 (by decide) (fun c_35 => ?_) (fun c_35 => ?_)
  · replace h := it_t h c_35
    refine wx_aload_n dX12_knot_40 rfl ?_
    refine wx_getI dX12_knot_41 fl_X12_449 (sc_73 hS) rfl ?_
    refine wx_bipush (v := 6) dX12_knot_44 (by decide) ?_
    refine wx_icmp_ne (tgt := 51) dX12_knot_46 (by decide) (fun c_46 => ?_) (fun c_46 => ?_)
    · replace h := it_f h c_46
      refine wx_aload_n dX12_knot_51 rfl ?_
      refine wx_getR dX12_knot_52 fl_X12_131 (sc_73 hS) rfl (rr_73_60 hS) ?_
      refine wx_aload_n dX12_knot_55 rfl ?_
      refine wx_getI dX12_knot_56 fl_X12_449 (sc_73 hS) rfl ?_
      refine wx_iload_n dX12_knot_59 rfl ?_
      obtain ⟨w_60, h⟩ := ok_some h
      refine wx_iast dX12_knot_60 (sc_192 hS) (ix_in w_60) ?_
      refine wx_namM (fun M_60 q_60 => ?_)
      replace h := nm_at h q_60
      refine wx_aload_n dX12_knot_61 rfl ?_
      refine wx_getR dX12_knot_62 fl_X12_134 (sc_73 hS) rfl (rr_73_61 hS) ?_
      refine wx_aload_n dX12_knot_65 rfl ?_
      refine wx_getI dX12_knot_66 fl_X12_449 (sc_73 hS) rfl ?_
      refine wx_iload_n dX12_knot_69 rfl ?_
      obtain ⟨w_70, h⟩ := ok_some h
      refine wx_iast dX12_knot_70 (sc_193 hS) (ix_in w_70) ?_
      refine wx_namM (fun M_70 q_70 => ?_)
      replace h := nm_at h q_70
      refine wx_aload_n dX12_knot_71 rfl ?_
      refine wx_getR dX12_knot_72 fl_X12_137 (sc_73 hS) rfl (rr_73_62 hS) ?_
      refine wx_aload_n dX12_knot_75 rfl ?_
      refine wx_getI dX12_knot_76 fl_X12_449 (sc_73 hS) rfl ?_
      refine wx_iconst (v := 0) dX12_knot_79 (by decide) ?_
      obtain ⟨w_80, h⟩ := ok_some h
      refine wx_iast dX12_knot_80 (sc_194 hS) (ix_in w_80) ?_
      refine wx_namM (fun M_80 q_80 => ?_)
      replace h := nm_at h q_80
      refine wx_aload_n dX12_knot_81 rfl ?_
      refine wx_getR dX12_knot_82 fl_X12_140 (sc_73 hS) rfl (rr_73_63 hS) ?_
      refine wx_aload_n dX12_knot_85 rfl ?_
      refine wx_getI dX12_knot_86 fl_X12_449 (sc_73 hS) rfl ?_
      refine wx_iconst (v := 0) dX12_knot_89 (by decide) ?_
      obtain ⟨w_90, h⟩ := ok_some h
      refine wx_iast dX12_knot_90 (sc_195 hS) (ix_in w_90) ?_
      refine wx_namM (fun M_90 q_90 => ?_)
      replace h := nm_at h q_90
      refine wx_aload_n dX12_knot_91 rfl ?_
      refine wx_getR dX12_knot_92 fl_X12_149 (sc_73 hS) rfl (rr_73_66 hS) ?_
      refine wx_aload_n dX12_knot_95 rfl ?_
      refine wx_getI dX12_knot_96 fl_X12_449 (sc_73 hS) rfl ?_
      refine wx_iload_n dX12_knot_99 rfl ?_
      obtain ⟨w_100, h⟩ := ok_some h
      obtain ⟨wz_100, h⟩ := ok_some h
      refine wx_bast dX12_knot_100 (sc_198 hS) (ix_in w_100) (zb_n wz_100) ?_
      refine wx_namM (fun M_100 q_100 => ?_)
      replace h := nm_at h q_100
      refine wx_aload_n dX12_knot_101 rfl ?_
      refine wx_dup dX12_knot_102 rfl ?_
      refine wx_getI dX12_knot_103 fl_X12_449 (sc_73 hS) rfl ?_
      refine wx_iconst (v := 1) dX12_knot_106 (by decide) ?_
      refine wx_iadd dX12_knot_107 ?_
      refine wx_nami (fun v_108 q_108 => ?_)
      replace h := nm_at h q_108
      refine wx_putI dX12_knot_108 fl_X12_449 (sc_73 hS) (Or.inl rfl) rfl ⟨rfl, rfl⟩ ?_
      refine wx_namM (fun M_108 q_108 => ?_)
      replace h := nm_at h q_108
      refine wx_aload_n dX12_knot_111 rfl ?_
      refine wx_getI dX12_knot_112 fl_X12_449 (sc_73 hS) rfl ?_
      refine wx_iconst (v := 1) dX12_knot_115 (by decide) ?_
      refine wx_isub dX12_knot_116 ?_
      refine wx_iret dX12_knot_117 hcu hsu ?_
      obtain rfl := Option.some.inj h
      exact g
    · replace h := it_t h c_46
      refine wx_iconst (v := (-1)) dX12_knot_49 (by decide) ?_
      refine wx_iret dX12_knot_50 hcu hsu ?_
      obtain rfl := Option.some.inj h
      exact g
  · replace h := it_f h c_35
    refine wx_iconst (v := 0) dX12_knot_38 (by decide) ?_
    refine wx_iret dX12_knot_39 hcu hsu ?_
    obtain rfl := Option.some.inj h
    exact g
noncomputable def f_X12_knot_26 (M : px_M) (x1 : Int32) (x2 : Int32) (x3 : Int32) : Option (Int32 × px_M) :=
  f_X12_knot_31 M x1 x2 x3 1
theorem s_X12_knot_26 {x1 : Int32} {x2 : Int32} {x3 : Int32} {M : px_M} {L : px_L} {R : px_R} {e : (Int32 × px_M)} (hS : SR sh R) (hd : 1 ≤ d) (hcu : cu ≤ mc) (hsu : su ≤ ms) (h : f_X12_knot_26 M x1 x2 x3 = some e) (g : Post (some (.int (e.1))) sh (e.2) L R n) : WX RX12 cX12_knot 4 (some .int) ("knot", []) d mc ms X (px_QF Post mc ms) 26 [(0, .ref 73), (1, .int x1), (2, .int x2), (3, .int x3)] [.ref 73] sh M L R n cu su := by
  unfold f_X12_knot_26 at h
  refine wx_iconst (v := 1) dX12_knot_26 (by decide) ?_
  refine wx_goto (tgt := 31) dX12_knot_27 (by decide) ?_
  exact wx_sub (s_X12_knot_31 hS hd hcu hsu h g) (px_s rfl (px_s rfl (px_s rfl (px_s rfl px_0))))
noncomputable def f_X12_knot (M : px_M) (p1 : Int32) (p2 : Int32) (p3 : Int32) : Option (Int32 × px_M) :=
  nm (px_u M 73 0 0) fun M_2 =>
  bd1 (f_X12_in p1 (-5) 5) fun e_10 =>
  if e_10 = 0 then
    f_X12_knot_26 M_2 p1 p2 p3
  else
    bd1 (f_X12_in p2 (-5) 5) fun e_20 =>
    if e_20 = 0 then
      f_X12_knot_26 M_2 p1 p2 p3
    else
      f_X12_knot_31 M_2 p1 p2 p3 0
theorem s_X12_knot {d : Nat} {X : Nat × (Nat → Int32)} {sh : px_Sh} {M : px_M} {L : px_L} {R : px_R} {n : Nat} {p1 : Int32} {p2 : Int32} {p3 : Int32} {e : Int32 × px_M} (hS : SR sh R) (hd : 1 ≤ d) (h : f_X12_knot M p1 p2 p3 = some e) : MX yX12_knot cX12_knot 4 (some .int) d 0 0 X [.ref 73, .int p1, .int p2, .int p3] sh M L R n (px_pu (some (.int e.1)) sh e.2 L R n) := by
  refine MX.of (by decide +kernel) (by exact Nat.le_of_ble_eq_true rfl) ?_
  have hcu : 0 ≤ 0 := Nat.zero_le _
  have hsu : 0 ≤ 0 := Nat.zero_le _
  have g : px_pu (some (.int e.1)) sh e.2 L R n (some (.int e.1)) sh e.2 L R n := ⟨rfl, rfl, rfl, rfl, rfl, rfl⟩
  unfold f_X12_knot at h
  refine wx_aload_n dX12_knot_0 rfl ?_
  refine wx_iconst (v := 0) dX12_knot_1 (by decide) ?_
  refine wx_putI dX12_knot_2 fl_X12_179 (sc_73 hS) (Or.inl rfl) rfl ⟨rfl, rfl⟩ ?_
  refine wx_namM (fun M_2 q_2 => ?_)
  replace h := nm_at h q_2
  refine wx_aload_n dX12_knot_5 rfl ?_
  refine wx_iload_n dX12_knot_6 rfl ?_
  refine wx_bipush (v := (-5)) dX12_knot_7 (by decide) ?_
  refine wx_iconst (v := 5) dX12_knot_9 (by decide) ?_
  obtain ⟨e_10, k_10, h⟩ := bd1_some h
  refine wx_cSi dX12_knot_10 ml_X12_203 my_X12_in sv_X12_in (s_X12_in (d := d - 1) hS (by omega) k_10) rfl (by omega) (by exact Nat.le_of_ble_eq_true rfl) hcu hsu ?_
  refine wx_if_eq (tgt := 26) dX12_knot_13 (by decide) (fun c_13 => ?_) (fun c_13 => ?_)
  · replace h := it_t h c_13
    exact wx_sub (s_X12_knot_26 hS hd hcu hsu h g) (px_s rfl (px_s rfl (px_s rfl (px_s rfl px_0))))
  · replace h := it_f h c_13
    refine wx_iload_n dX12_knot_16 rfl ?_
    refine wx_bipush (v := (-5)) dX12_knot_17 (by decide) ?_
    refine wx_iconst (v := 5) dX12_knot_19 (by decide) ?_
    obtain ⟨e_20, k_20, h⟩ := bd1_some h
    refine wx_cSi dX12_knot_20 ml_X12_203 my_X12_in sv_X12_in (s_X12_in (d := d - 1) hS (by omega) k_20) rfl (by omega) (by exact Nat.le_of_ble_eq_true rfl) hcu hsu ?_
    refine wx_if_ne (tgt := 30) dX12_knot_23 (by decide) (fun c_23 => ?_) (fun c_23 => ?_)
    · replace h := it_f h c_23
      refine wx_iconst (v := 0) dX12_knot_30 (by decide) ?_
      exact wx_sub (s_X12_knot_31 hS hd hcu hsu h g) (px_s rfl (px_s rfl (px_s rfl (px_s rfl px_0))))
    · replace h := it_t h c_23
      exact wx_sub (s_X12_knot_26 hS hd hcu hsu h g) (px_s rfl (px_s rfl (px_s rfl (px_s rfl px_0))))
noncomputable def f_X12_pull_67 (M : px_M) : Option (px_M) :=
  some M
theorem s_X12_pull_67 {M : px_M} {L : px_L} {R : px_R} {e : (px_M)} (hS : SR sh R) (hd : 1 ≤ d) (hcu : cu ≤ mc) (hsu : su ≤ ms) (h : f_X12_pull_67 M = some e) (g : Post none sh e L R n) : WX RX12 cX12_pull 4 none ("pull", []) d mc ms X (px_QF Post mc ms) 67 [] [] sh M L R n cu su := by
  unfold f_X12_pull_67 at h
  refine wx_vret dX12_pull_67 hcu hsu ?_
  obtain rfl := Option.some.inj h
  exact g
noncomputable def f_X12_pull_60 (M : px_M) (x1 : Int32) (x2 : Int32) (x3 : Int32) (z0 : Int32) : Option (px_M) :=
  bd1 (f_X12_bad M z0 2) fun e_61 =>
  if e_61.1 = 0 then
    ok (ix x1 6) <|
    nm (px_u e_61.2 194 x1.toNatClampNeg x2) fun M_74 =>
    ok (ix x1 6) <|
    nm (px_u M_74 195 x1.toNatClampNeg x3) fun M_81 =>
    some M_81
  else
    f_X12_pull_67 e_61.2
theorem s_X12_pull_60 {x1 : Int32} {x2 : Int32} {x3 : Int32} {z0 : Int32} {M : px_M} {L : px_L} {R : px_R} {e : (px_M)} (hS : SR sh R) (hd : 1 ≤ d) (hcu : cu ≤ mc) (hsu : su ≤ ms) (h : f_X12_pull_60 M x1 x2 x3 z0 = some e) (g : Post none sh e L R n) : WX RX12 cX12_pull 4 none ("pull", []) d mc ms X (px_QF Post mc ms) 60 [(0, .ref 73), (1, .int x1), (2, .int x2), (3, .int x3)] [.int z0, .ref 73] sh M L R n cu su := by
  unfold f_X12_pull_60 at h
  refine wx_iconst (v := 2) dX12_pull_60 (by decide) ?_
  obtain ⟨e_61, k_61, h⟩ := bd1_some h
  refine wx_cVi dX12_pull_61 ml_X12_207 my_X12_bad iv_X12_bad (sc_73 hS) (by decide) (s_X12_bad (d := d - 1) hS (by omega) k_61) rfl (by omega) (by exact Nat.le_of_ble_eq_true rfl) hcu hsu ?_
  refine wx_if_eq (tgt := 68) dX12_pull_64 (by decide) (fun c_64 => ?_) (fun c_64 => ?_)
  · replace h := it_t h c_64
    refine wx_aload_n dX12_pull_68 rfl ?_
    refine wx_getR dX12_pull_69 fl_X12_137 (sc_73 hS) rfl (rr_73_62 hS) ?_
    refine wx_iload_n dX12_pull_72 rfl ?_
    refine wx_iload_n dX12_pull_73 rfl ?_
    obtain ⟨w_74, h⟩ := ok_some h
    refine wx_iast dX12_pull_74 (sc_194 hS) (ix_in w_74) ?_
    refine wx_namM (fun M_74 q_74 => ?_)
    replace h := nm_at h q_74
    refine wx_aload_n dX12_pull_75 rfl ?_
    refine wx_getR dX12_pull_76 fl_X12_140 (sc_73 hS) rfl (rr_73_63 hS) ?_
    refine wx_iload_n dX12_pull_79 rfl ?_
    refine wx_iload_n dX12_pull_80 rfl ?_
    obtain ⟨w_81, h⟩ := ok_some h
    refine wx_iast dX12_pull_81 (sc_195 hS) (ix_in w_81) ?_
    refine wx_namM (fun M_81 q_81 => ?_)
    replace h := nm_at h q_81
    refine wx_vret dX12_pull_82 hcu hsu ?_
    obtain rfl := Option.some.inj h
    exact g
  · replace h := it_f h c_64
    exact wx_sub (s_X12_pull_67 hS hd hcu hsu h g) px_0
noncomputable def f_X12_pull_55 (M : px_M) (x1 : Int32) (x2 : Int32) (x3 : Int32) : Option (px_M) :=
  f_X12_pull_60 M x1 x2 x3 1
theorem s_X12_pull_55 {x1 : Int32} {x2 : Int32} {x3 : Int32} {M : px_M} {L : px_L} {R : px_R} {e : (px_M)} (hS : SR sh R) (hd : 1 ≤ d) (hcu : cu ≤ mc) (hsu : su ≤ ms) (h : f_X12_pull_55 M x1 x2 x3 = some e) (g : Post none sh e L R n) : WX RX12 cX12_pull 4 none ("pull", []) d mc ms X (px_QF Post mc ms) 55 [(0, .ref 73), (1, .int x1), (2, .int x2), (3, .int x3)] [.ref 73] sh M L R n cu su := by
  unfold f_X12_pull_55 at h
  refine wx_iconst (v := 1) dX12_pull_55 (by decide) ?_
  refine wx_goto (tgt := 60) dX12_pull_56 (by decide) ?_
  exact wx_sub (s_X12_pull_60 hS hd hcu hsu h g) (px_s rfl (px_s rfl (px_s rfl (px_s rfl px_0))))
noncomputable def f_X12_pull_25 (M : px_M) (x1 : Int32) (x2 : Int32) (x3 : Int32) (z0 : Int32) : Option (px_M) :=
  bd1 (f_X12_bad M z0 1) fun e_26 =>
  if e_26.1 = 0 then
    bd1 (f_X12_in x2 (-100) 100) fun e_38 =>
    if e_38 = 0 then
      f_X12_pull_55 e_26.2 x1 x2 x3
    else
      bd1 (f_X12_in x3 (-100) 100) fun e_49 =>
      if e_49 = 0 then
        f_X12_pull_55 e_26.2 x1 x2 x3
      else
        f_X12_pull_60 e_26.2 x1 x2 x3 0
  else
    f_X12_pull_67 e_26.2
theorem s_X12_pull_25 {x1 : Int32} {x2 : Int32} {x3 : Int32} {z0 : Int32} {M : px_M} {L : px_L} {R : px_R} {e : (px_M)} (hS : SR sh R) (hd : 1 ≤ d) (hcu : cu ≤ mc) (hsu : su ≤ ms) (h : f_X12_pull_25 M x1 x2 x3 z0 = some e) (g : Post none sh e L R n) : WX RX12 cX12_pull 4 none ("pull", []) d mc ms X (px_QF Post mc ms) 25 [(0, .ref 73), (1, .int x1), (2, .int x2), (3, .int x3)] [.int z0, .ref 73] sh M L R n cu su := by
  unfold f_X12_pull_25 at h
  refine wx_iconst (v := 1) dX12_pull_25 (by decide) ?_
  obtain ⟨e_26, k_26, h⟩ := bd1_some h
  refine wx_cVi dX12_pull_26 ml_X12_207 my_X12_bad iv_X12_bad (sc_73 hS) (by decide) (s_X12_bad (d := d - 1) hS (by omega) k_26) rfl (by omega) (by exact Nat.le_of_ble_eq_true rfl) hcu hsu ?_
  refine wx_if_ne (tgt := 67) dX12_pull_29 (by decide) (fun c_29 => ?_) (fun c_29 => ?_)
  · replace h := it_f h c_29
    exact wx_sub (s_X12_pull_67 hS hd hcu hsu h g) px_0
  · replace h := it_t h c_29
    refine wx_aload_n dX12_pull_32 rfl ?_
    refine wx_iload_n dX12_pull_33 rfl ?_
    refine wx_bipush (v := (-100)) dX12_pull_34 (by decide) ?_
    refine wx_bipush (v := 100) dX12_pull_36 (by decide) ?_
    obtain ⟨e_38, k_38, h⟩ := bd1_some h
    refine wx_cSi dX12_pull_38 ml_X12_203 my_X12_in sv_X12_in (s_X12_in (d := d - 1) hS (by omega) k_38) rfl (by omega) (by exact Nat.le_of_ble_eq_true rfl) hcu hsu ?_
    refine wx_if_eq (tgt := 55) dX12_pull_41 (by decide) (fun c_41 => ?_) (fun c_41 => ?_)
    · replace h := it_t h c_41
      exact wx_sub (s_X12_pull_55 hS hd hcu hsu h g) (px_s rfl (px_s rfl (px_s rfl (px_s rfl px_0))))
    · replace h := it_f h c_41
      refine wx_iload_n dX12_pull_44 rfl ?_
      refine wx_bipush (v := (-100)) dX12_pull_45 (by decide) ?_
      refine wx_bipush (v := 100) dX12_pull_47 (by decide) ?_
      obtain ⟨e_49, k_49, h⟩ := bd1_some h
      refine wx_cSi dX12_pull_49 ml_X12_203 my_X12_in sv_X12_in (s_X12_in (d := d - 1) hS (by omega) k_49) rfl (by omega) (by exact Nat.le_of_ble_eq_true rfl) hcu hsu ?_
      refine wx_if_ne (tgt := 59) dX12_pull_52 (by decide) (fun c_52 => ?_) (fun c_52 => ?_)
      · replace h := it_f h c_52
        refine wx_iconst (v := 0) dX12_pull_59 (by decide) ?_
        exact wx_sub (s_X12_pull_60 hS hd hcu hsu h g) (px_s rfl (px_s rfl (px_s rfl (px_s rfl px_0))))
      · replace h := it_t h c_52
        exact wx_sub (s_X12_pull_55 hS hd hcu hsu h g) (px_s rfl (px_s rfl (px_s rfl (px_s rfl px_0))))
noncomputable def f_X12_pull (M : px_M) (p1 : Int32) (p2 : Int32) (p3 : Int32) : Option (px_M) :=
  nm (px_u M 73 0 0) fun M_2 =>
  bd1 (f_X12_in p1 0 ((M_2 73 57) - 1)) fun e_14 =>
  if e_14 = 0 then
    f_X12_pull_25 M_2 p1 p2 p3 1
  else
    f_X12_pull_25 M_2 p1 p2 p3 0
theorem s_X12_pull {d : Nat} {X : Nat × (Nat → Int32)} {sh : px_Sh} {M : px_M} {L : px_L} {R : px_R} {n : Nat} {p1 : Int32} {p2 : Int32} {p3 : Int32} {e : px_M} (hS : SR sh R) (hd : 1 ≤ d) (h : f_X12_pull M p1 p2 p3 = some e) : MX yX12_pull cX12_pull 4 none d 0 0 X [.ref 73, .int p1, .int p2, .int p3] sh M L R n (px_pu none sh e L R n) := by
  refine MX.of (by decide +kernel) (by exact Nat.le_of_ble_eq_true rfl) ?_
  have hcu : 0 ≤ 0 := Nat.zero_le _
  have hsu : 0 ≤ 0 := Nat.zero_le _
  have g : px_pu none sh e L R n none sh e L R n := ⟨rfl, rfl, rfl, rfl, rfl, rfl⟩
  unfold f_X12_pull at h
  refine wx_aload_n dX12_pull_0 rfl ?_
  refine wx_iconst (v := 0) dX12_pull_1 (by decide) ?_
  refine wx_putI dX12_pull_2 fl_X12_179 (sc_73 hS) (Or.inl rfl) rfl ⟨rfl, rfl⟩ ?_
  refine wx_namM (fun M_2 q_2 => ?_)
  replace h := nm_at h q_2
  refine wx_aload_n dX12_pull_5 rfl ?_
  refine wx_iload_n dX12_pull_6 rfl ?_
  refine wx_iconst (v := 0) dX12_pull_7 (by decide) ?_
  refine wx_aload_n dX12_pull_8 rfl ?_
  refine wx_getI dX12_pull_9 fl_X12_449 (sc_73 hS) rfl ?_
  refine wx_iconst (v := 1) dX12_pull_12 (by decide) ?_
  refine wx_isub dX12_pull_13 ?_
  obtain ⟨e_14, k_14, h⟩ := bd1_some h
  refine wx_cSi dX12_pull_14 ml_X12_203 my_X12_in sv_X12_in (s_X12_in (d := d - 1) hS (by omega) k_14) rfl (by omega) (by exact Nat.le_of_ble_eq_true rfl) hcu hsu ?_
  refine wx_if_ne (tgt := 24) dX12_pull_17 (by decide) (fun c_17 => ?_) (fun c_17 => ?_)
  · replace h := it_f h c_17
    refine wx_iconst (v := 0) dX12_pull_24 (by decide) ?_
    exact wx_sub (s_X12_pull_25 hS hd hcu hsu h g) (px_s rfl (px_s rfl (px_s rfl (px_s rfl px_0))))
  · replace h := it_t h c_17
    refine wx_iconst (v := 1) dX12_pull_20 (by decide) ?_
    refine wx_goto (tgt := 25) dX12_pull_21 (by decide) ?_
    exact wx_sub (s_X12_pull_25 hS hd hcu hsu h g) (px_s rfl (px_s rfl (px_s rfl (px_s rfl px_0))))
noncomputable def f_X12_string_163 (M : px_M) (x1 : Int32) (x2 : Int32) (x3 : Int32) : Option ((Int32) ⊕ ((Unit) ⊕ (Unit))) :=
  some (.inl (x3 + 1))
theorem s_X12_string_163 {x1 : Int32} {x2 : Int32} {x3 : Int32} {M : px_M} {L : px_L} {R : px_R} {e : ((Int32) ⊕ ((Unit) ⊕ (Unit)))} (hS : SR sh R) (hd : 1 ≤ d) (hcu : cu ≤ mc) (hsu : su ≤ ms) (h : f_X12_string_163 M x1 x2 x3 = some e) (g : (sE (fun a => WX RX12 cX12_string 4 (some .int) ("string", []) d mc ms X (px_QF Post mc ms) 112 [(0, .ref 73), (1, .int x1), (2, .int x2), (3, .int a)] [] sh M L R n cu su) (sE (fun t => WX RX12 cX12_string 4 (some .int) ("string", []) d mc ms X (px_QF Post mc ms) 160 [] [] sh M L R n cu su) (fun t => WX RX12 cX12_string 4 (some .int) ("string", []) d mc ms X (px_QF Post mc ms) 169 [(0, .ref 73), (1, .int x1), (2, .int x2)] [] sh M L R n cu su))) e) : WX RX12 cX12_string 4 (some .int) ("string", []) d mc ms X (px_QF Post mc ms) 163 [(0, .ref 73), (1, .int x1), (2, .int x2), (3, .int x3)] [] sh M L R n cu su := by
  unfold f_X12_string_163 at h
  refine wx_iinc (lv' := [(3, _), (0, _), (1, _), (2, _)]) dX12_string_163 rfl (i_1 _) (by decide) rfl ?_
  refine wx_goto (tgt := 112) dX12_string_166 (by decide) ?_
  obtain rfl := Option.some.inj h
  replace g := sE_l g
  exact wx_sub g (px_s rfl (px_s rfl (px_s rfl (px_s rfl px_0))))
noncomputable def f_X12_string_140 (M : px_M) (x1 : Int32) (x2 : Int32) (x3 : Int32) : Option ((Int32) ⊕ ((Unit) ⊕ (Unit))) :=
  ok (ix x3 6) <|
  if (M 196 x3.toNatClampNeg) = x2 then
    ok (ix x3 6) <|
    if (M 197 x3.toNatClampNeg) = x1 then
      some (.inr (.inl ()))
    else
      f_X12_string_163 M x1 x2 x3
  else
    f_X12_string_163 M x1 x2 x3
theorem s_X12_string_140 {x1 : Int32} {x2 : Int32} {x3 : Int32} {M : px_M} {L : px_L} {R : px_R} {e : ((Int32) ⊕ ((Unit) ⊕ (Unit)))} (hS : SR sh R) (hd : 1 ≤ d) (hcu : cu ≤ mc) (hsu : su ≤ ms) (h : f_X12_string_140 M x1 x2 x3 = some e) (g : (sE (fun a => WX RX12 cX12_string 4 (some .int) ("string", []) d mc ms X (px_QF Post mc ms) 112 [(0, .ref 73), (1, .int x1), (2, .int x2), (3, .int a)] [] sh M L R n cu su) (sE (fun t => WX RX12 cX12_string 4 (some .int) ("string", []) d mc ms X (px_QF Post mc ms) 160 [] [] sh M L R n cu su) (fun t => WX RX12 cX12_string 4 (some .int) ("string", []) d mc ms X (px_QF Post mc ms) 169 [(0, .ref 73), (1, .int x1), (2, .int x2)] [] sh M L R n cu su))) e) : WX RX12 cX12_string 4 (some .int) ("string", []) d mc ms X (px_QF Post mc ms) 140 [(0, .ref 73), (1, .int x1), (2, .int x2), (3, .int x3)] [] sh M L R n cu su := by
  unfold f_X12_string_140 at h
  refine wx_aload_n dX12_string_140 rfl ?_
  refine wx_getR dX12_string_141 fl_X12_143 (sc_73 hS) rfl (rr_73_64 hS) ?_
  refine wx_iload_n dX12_string_144 rfl ?_
  obtain ⟨w_145, h⟩ := ok_some h
  refine wx_iald dX12_string_145 (sc_196 hS) (ix_in w_145) ?_
  refine wx_iload_n dX12_string_146 rfl ?_
  refine wx_icmp_ne (tgt := 163) dX12_string_147 (by decide) (fun c_147 => ?_) (fun c_147 => ?_)
  · replace h := it_f h c_147
    exact wx_sub (s_X12_string_163 hS hd hcu hsu h g) (px_s rfl (px_s rfl (px_s rfl (px_s rfl px_0))))
  · replace h := it_t h c_147
    refine wx_aload_n dX12_string_150 rfl ?_
    refine wx_getR dX12_string_151 fl_X12_146 (sc_73 hS) rfl (rr_73_65 hS) ?_
    refine wx_iload_n dX12_string_154 rfl ?_
    obtain ⟨w_155, h⟩ := ok_some h
    refine wx_iald dX12_string_155 (sc_197 hS) (ix_in w_155) ?_
    refine wx_iload_n dX12_string_156 rfl ?_
    refine wx_icmp_ne (tgt := 163) dX12_string_157 (by decide) (fun c_157 => ?_) (fun c_157 => ?_)
    · replace h := it_f h c_157
      exact wx_sub (s_X12_string_163 hS hd hcu hsu h g) (px_s rfl (px_s rfl (px_s rfl (px_s rfl px_0))))
    · replace h := it_t h c_157
      obtain rfl := Option.some.inj h
      replace g := sE_l (sE_r g)
      exact wx_sub g px_0
noncomputable def f_X12_string_112 (M : px_M) (x1 : Int32) (x2 : Int32) (x3 : Int32) : Option ((Int32) ⊕ ((Unit) ⊕ (Unit))) :=
  if (M 73 58) ≤ x3 then
    some (.inr (.inr ()))
  else
    ok (ix x3 6) <|
    if (M 196 x3.toNatClampNeg) = x1 then
      ok (ix x3 6) <|
      if (M 197 x3.toNatClampNeg) = x2 then
        some (.inr (.inl ()))
      else
        f_X12_string_140 M x1 x2 x3
    else
      f_X12_string_140 M x1 x2 x3
theorem s_X12_string_112b {x1 : Int32} {x2 : Int32} {x3 : Int32} {M : px_M} {L : px_L} {R : px_R} {e : ((Int32) ⊕ ((Unit) ⊕ (Unit)))} (hS : SR sh R) (hd : 1 ≤ d) (hcu : cu ≤ mc) (hsu : su ≤ ms) (h : f_X12_string_112 M x1 x2 x3 = some e) (g : (sE (fun a => WX RX12 cX12_string 4 (some .int) ("string", []) d mc ms X (px_QF Post mc ms) 112 [(0, .ref 73), (1, .int x1), (2, .int x2), (3, .int a)] [] sh M L R n cu su) (sE (fun t => WX RX12 cX12_string 4 (some .int) ("string", []) d mc ms X (px_QF Post mc ms) 160 [] [] sh M L R n cu su) (fun t => WX RX12 cX12_string 4 (some .int) ("string", []) d mc ms X (px_QF Post mc ms) 169 [(0, .ref 73), (1, .int x1), (2, .int x2)] [] sh M L R n cu su))) e) : WX RX12 cX12_string 4 (some .int) ("string", []) d mc ms X (px_QF Post mc ms) 112 [(0, .ref 73), (1, .int x1), (2, .int x2), (3, .int x3)] [] sh M L R n cu su := by
  unfold f_X12_string_112 at h
  refine wx_iload_n dX12_string_112 rfl ?_
  refine wx_aload_n dX12_string_113 rfl ?_
  refine wx_getI dX12_string_114 fl_X12_452 (sc_73 hS) rfl ?_
  refine wx_icmp_ge (tgt := 169) dX12_string_117 (by decide) (fun c_117 => ?_) (fun c_117 => ?_)
  · replace h := it_t h c_117
    obtain rfl := Option.some.inj h
    replace g := sE_r (sE_r g)
    exact wx_sub g (px_s rfl (px_s rfl (px_s rfl px_0)))
  · replace h := it_f h c_117
    refine wx_aload_n dX12_string_120 rfl ?_
    refine wx_getR dX12_string_121 fl_X12_143 (sc_73 hS) rfl (rr_73_64 hS) ?_
    refine wx_iload_n dX12_string_124 rfl ?_
    obtain ⟨w_125, h⟩ := ok_some h
    refine wx_iald dX12_string_125 (sc_196 hS) (ix_in w_125) ?_
    refine wx_iload_n dX12_string_126 rfl ?_
    refine wx_icmp_ne (tgt := 140) dX12_string_127 (by decide) (fun c_127 => ?_) (fun c_127 => ?_)
    · replace h := it_f h c_127
      exact wx_sub (s_X12_string_140 hS hd hcu hsu h g) (px_s rfl (px_s rfl (px_s rfl (px_s rfl px_0))))
    · replace h := it_t h c_127
      refine wx_aload_n dX12_string_130 rfl ?_
      refine wx_getR dX12_string_131 fl_X12_146 (sc_73 hS) rfl (rr_73_65 hS) ?_
      refine wx_iload_n dX12_string_134 rfl ?_
      obtain ⟨w_135, h⟩ := ok_some h
      refine wx_iald dX12_string_135 (sc_197 hS) (ix_in w_135) ?_
      refine wx_iload_n dX12_string_136 rfl ?_
      refine wx_icmp_eq (tgt := 160) dX12_string_137 (by decide) (fun c_137 => ?_) (fun c_137 => ?_)
      · replace h := it_t h c_137
        obtain rfl := Option.some.inj h
        replace g := sE_l (sE_r g)
        exact wx_sub g px_0
      · replace h := it_f h c_137
        exact wx_sub (s_X12_string_140 hS hd hcu hsu h g) (px_s rfl (px_s rfl (px_s rfl (px_s rfl px_0))))
theorem s_X12_string_112 {x1 : Int32} {x2 : Int32} {x3 : Int32} {M : px_M} {L : px_L} {R : px_R} {e : ((Unit) ⊕ (Unit))} (hS : SR sh R) (hd : 1 ≤ d) (hcu : cu ≤ mc) (hsu : su ≤ ms) (h : lpf (fun a : Int32 => f_X12_string_112 M x1 x2 a) x3 = some e) (g : (sE (fun t => WX RX12 cX12_string 4 (some .int) ("string", []) d mc ms X (px_QF Post mc ms) 160 [] [] sh M L R n cu su) (fun t => WX RX12 cX12_string 4 (some .int) ("string", []) d mc ms X (px_QF Post mc ms) 169 [(0, .ref 73), (1, .int x1), (2, .int x2)] [] sh M L R n cu su)) e) : WX RX12 cX12_string 4 (some .int) ("string", []) d mc ms X (px_QF Post mc ms) 112 [(0, .ref 73), (1, .int x1), (2, .int x2), (3, .int x3)] [] sh M L R n cu su := by
  have key := lpf_wp (P := (fun a => WX RX12 cX12_string 4 (some .int) ("string", []) d mc ms X (px_QF Post mc ms) 112 [(0, .ref 73), (1, .int x1), (2, .int x2), (3, .int a)] [] sh M L R n cu su)) (G := (sE (fun t => WX RX12 cX12_string 4 (some .int) ("string", []) d mc ms X (px_QF Post mc ms) 160 [] [] sh M L R n cu su) (fun t => WX RX12 cX12_string 4 (some .int) ("string", []) d mc ms X (px_QF Post mc ms) 169 [(0, .ref 73), (1, .int x1), (2, .int x2)] [] sh M L R n cu su))) (fun a r h g => s_X12_string_112b (x1 := x1) (x2 := x2) (x3 := a) (M := M) (L := L) (R := R) hS hd hcu hsu h g) (a := x3) h g
  exact key
noncomputable def f_X12_string_110 (M : px_M) (x1 : Int32) (x2 : Int32) : Option (Int32 × px_M) :=
  bdS (lpf (fun a : Int32 => f_X12_string_112 M x1 x2 a) 0) (fun t_112_0 =>
  some ((-3), M)) (fun u_112_0 =>
  ok (ix (M 73 58) 6) <|
    nm (px_u M 196 (M 73 58).toNatClampNeg x1) fun M_178 =>
    ok (ix (M_178 73 58) 6) <|
    nm (px_u M_178 197 (M_178 73 58).toNatClampNeg x2) fun M_188 =>
    nm ((M_188 73 58) + 1) fun v_196 =>
    nm (px_u M_188 73 58 v_196) fun M_196 =>
    some (((M_196 73 58) - 1), M_196))
theorem s_X12_string_110 {x1 : Int32} {x2 : Int32} {M : px_M} {L : px_L} {R : px_R} {e : (Int32 × px_M)} (hS : SR sh R) (hd : 1 ≤ d) (hcu : cu ≤ mc) (hsu : su ≤ ms) (h : f_X12_string_110 M x1 x2 = some e) (g : Post (some (.int (e.1))) sh (e.2) L R n) : WX RX12 cX12_string 4 (some .int) ("string", []) d mc ms X (px_QF Post mc ms) 110 [(0, .ref 73), (1, .int x1), (2, .int x2)] [] sh M L R n cu su := by
  unfold f_X12_string_110 at h
  refine wx_iconst (v := 0) dX12_string_110 (by decide) ?_
  refine wx_istore_n (lv' := [(3, _), (0, _), (1, _), (2, _)]) dX12_string_111 (by decide) rfl ?_
  rcases bdS_some h with ⟨t_112_0, k_112_0, h⟩ | ⟨u_112_0, k_112_0, h⟩
  · refine wx_sub (s_X12_string_112 hS hd hcu hsu k_112_0 (sE_li ?_)) (px_s rfl (px_s rfl (px_s rfl (px_s rfl px_0))))
    refine wx_bipush (v := (-3)) dX12_string_160 (by decide) ?_
    refine wx_iret dX12_string_162 hcu hsu ?_
    obtain rfl := Option.some.inj h
    exact g
  · refine wx_sub (s_X12_string_112 hS hd hcu hsu k_112_0 (sE_ri ?_)) (px_s rfl (px_s rfl (px_s rfl (px_s rfl px_0))))
    refine wx_aload_n dX12_string_169 rfl ?_
    refine wx_getR dX12_string_170 fl_X12_143 (sc_73 hS) rfl (rr_73_64 hS) ?_
    refine wx_aload_n dX12_string_173 rfl ?_
    refine wx_getI dX12_string_174 fl_X12_452 (sc_73 hS) rfl ?_
    refine wx_iload_n dX12_string_177 rfl ?_
    obtain ⟨w_178, h⟩ := ok_some h
    refine wx_iast dX12_string_178 (sc_196 hS) (ix_in w_178) ?_
    refine wx_namM (fun M_178 q_178 => ?_)
    replace h := nm_at h q_178
    refine wx_aload_n dX12_string_179 rfl ?_
    refine wx_getR dX12_string_180 fl_X12_146 (sc_73 hS) rfl (rr_73_65 hS) ?_
    refine wx_aload_n dX12_string_183 rfl ?_
    refine wx_getI dX12_string_184 fl_X12_452 (sc_73 hS) rfl ?_
    refine wx_iload_n dX12_string_187 rfl ?_
    obtain ⟨w_188, h⟩ := ok_some h
    refine wx_iast dX12_string_188 (sc_197 hS) (ix_in w_188) ?_
    refine wx_namM (fun M_188 q_188 => ?_)
    replace h := nm_at h q_188
    refine wx_aload_n dX12_string_189 rfl ?_
    refine wx_dup dX12_string_190 rfl ?_
    refine wx_getI dX12_string_191 fl_X12_452 (sc_73 hS) rfl ?_
    refine wx_iconst (v := 1) dX12_string_194 (by decide) ?_
    refine wx_iadd dX12_string_195 ?_
    refine wx_nami (fun v_196 q_196 => ?_)
    replace h := nm_at h q_196
    refine wx_putI dX12_string_196 fl_X12_452 (sc_73 hS) (Or.inl rfl) rfl ⟨rfl, rfl⟩ ?_
    refine wx_namM (fun M_196 q_196 => ?_)
    replace h := nm_at h q_196
    refine wx_aload_n dX12_string_199 rfl ?_
    refine wx_getI dX12_string_200 fl_X12_452 (sc_73 hS) rfl ?_
    refine wx_iconst (v := 1) dX12_string_203 (by decide) ?_
    refine wx_isub dX12_string_204 ?_
    refine wx_iret dX12_string_205 hcu hsu ?_
    obtain rfl := Option.some.inj h
    exact g
noncomputable def f_X12_string_64 (M : px_M) : Option (Int32 × px_M) :=
  some (0, M)
theorem s_X12_string_64 {M : px_M} {L : px_L} {R : px_R} {e : (Int32 × px_M)} (hS : SR sh R) (hd : 1 ≤ d) (hcu : cu ≤ mc) (hsu : su ≤ ms) (h : f_X12_string_64 M = some e) (g : Post (some (.int (e.1))) sh (e.2) L R n) : WX RX12 cX12_string 4 (some .int) ("string", []) d mc ms X (px_QF Post mc ms) 64 [] [] sh M L R n cu su := by
  unfold f_X12_string_64 at h
  refine wx_iconst (v := 0) dX12_string_64 (by decide) ?_
  refine wx_iret dX12_string_65 hcu hsu ?_
  obtain rfl := Option.some.inj h
  exact g
noncomputable def f_X12_string_57 (M : px_M) (x1 : Int32) (x2 : Int32) (z0 : Int32) : Option (Int32 × px_M) :=
  bd1 (f_X12_bad M z0 2) fun e_58 =>
  if e_58.1 = 0 then
    if (e_58.2 73 58) = 6 then
      some ((-1), e_58.2)
    else
      ok (ix x1 6) <|
      ok (ix x2 6) <|
      if (e_58.2 192 x1.toNatClampNeg) = (e_58.2 192 x2.toNatClampNeg) then
        ok (ix x1 6) <|
        ok (ix x2 6) <|
        if (e_58.2 193 x1.toNatClampNeg) = (e_58.2 193 x2.toNatClampNeg) then
          some ((-2), e_58.2)
        else
          f_X12_string_110 e_58.2 x1 x2
      else
        f_X12_string_110 e_58.2 x1 x2
  else
    f_X12_string_64 e_58.2
theorem s_X12_string_57 {x1 : Int32} {x2 : Int32} {z0 : Int32} {M : px_M} {L : px_L} {R : px_R} {e : (Int32 × px_M)} (hS : SR sh R) (hd : 1 ≤ d) (hcu : cu ≤ mc) (hsu : su ≤ ms) (h : f_X12_string_57 M x1 x2 z0 = some e) (g : Post (some (.int (e.1))) sh (e.2) L R n) : WX RX12 cX12_string 4 (some .int) ("string", []) d mc ms X (px_QF Post mc ms) 57 [(0, .ref 73), (1, .int x1), (2, .int x2)] [.int z0, .ref 73] sh M L R n cu su := by
  unfold f_X12_string_57 at h
  refine wx_iconst (v := 2) dX12_string_57 (by decide) ?_
  obtain ⟨e_58, k_58, h⟩ := bd1_some h
  refine wx_cVi dX12_string_58 ml_X12_207 my_X12_bad iv_X12_bad (sc_73 hS) (by decide) (s_X12_bad (d := d - 1) hS (by omega) k_58) rfl (by omega) (by exact Nat.le_of_ble_eq_true rfl) hcu hsu ?_
  refine wx_if_eq (tgt := 66) dX12_string_61 (by decide) (fun c_61 => ?_) (fun c_61 => ?_)
  · replace h := it_t h c_61
    refine wx_aload_n dX12_string_66 rfl ?_
    refine wx_getI dX12_string_67 fl_X12_452 (sc_73 hS) rfl ?_
    refine wx_bipush (v := 6) dX12_string_70 (by decide) ?_
    refine wx_icmp_ne (tgt := 77) dX12_string_72 (by decide) (fun c_72 => ?_) (fun c_72 => ?_)
    · replace h := it_f h c_72
      refine wx_aload_n dX12_string_77 rfl ?_
      refine wx_getR dX12_string_78 fl_X12_131 (sc_73 hS) rfl (rr_73_60 hS) ?_
      refine wx_iload_n dX12_string_81 rfl ?_
      obtain ⟨w_82, h⟩ := ok_some h
      refine wx_iald dX12_string_82 (sc_192 hS) (ix_in w_82) ?_
      refine wx_aload_n dX12_string_83 rfl ?_
      refine wx_getR dX12_string_84 fl_X12_131 (sc_73 hS) rfl (rr_73_60 hS) ?_
      refine wx_iload_n dX12_string_87 rfl ?_
      obtain ⟨w_88, h⟩ := ok_some h
      refine wx_iald dX12_string_88 (sc_192 hS) (ix_in w_88) ?_
      refine wx_icmp_ne (tgt := 110) dX12_string_89 (by decide) (fun c_89 => ?_) (fun c_89 => ?_)
      · replace h := it_f h c_89
        exact wx_sub (s_X12_string_110 hS hd hcu hsu h g) (px_s rfl (px_s rfl (px_s rfl px_0)))
      · replace h := it_t h c_89
        refine wx_aload_n dX12_string_92 rfl ?_
        refine wx_getR dX12_string_93 fl_X12_134 (sc_73 hS) rfl (rr_73_61 hS) ?_
        refine wx_iload_n dX12_string_96 rfl ?_
        obtain ⟨w_97, h⟩ := ok_some h
        refine wx_iald dX12_string_97 (sc_193 hS) (ix_in w_97) ?_
        refine wx_aload_n dX12_string_98 rfl ?_
        refine wx_getR dX12_string_99 fl_X12_134 (sc_73 hS) rfl (rr_73_61 hS) ?_
        refine wx_iload_n dX12_string_102 rfl ?_
        obtain ⟨w_103, h⟩ := ok_some h
        refine wx_iald dX12_string_103 (sc_193 hS) (ix_in w_103) ?_
        refine wx_icmp_ne (tgt := 110) dX12_string_104 (by decide) (fun c_104 => ?_) (fun c_104 => ?_)
        · replace h := it_f h c_104
          exact wx_sub (s_X12_string_110 hS hd hcu hsu h g) (px_s rfl (px_s rfl (px_s rfl px_0)))
        · replace h := it_t h c_104
          refine wx_bipush (v := (-2)) dX12_string_107 (by decide) ?_
          refine wx_iret dX12_string_109 hcu hsu ?_
          obtain rfl := Option.some.inj h
          exact g
    · replace h := it_t h c_72
      refine wx_iconst (v := (-1)) dX12_string_75 (by decide) ?_
      refine wx_iret dX12_string_76 hcu hsu ?_
      obtain rfl := Option.some.inj h
      exact g
  · replace h := it_f h c_61
    exact wx_sub (s_X12_string_64 hS hd hcu hsu h g) px_0
noncomputable def f_X12_string_39 (M : px_M) (x1 : Int32) (x2 : Int32) (z0 : Int32) : Option (Int32 × px_M) :=
  bd1 (f_X12_bad M z0 1) fun e_40 =>
  if e_40.1 = 0 then
    if x1 = x2 then
      f_X12_string_57 e_40.2 x1 x2 1
    else
      f_X12_string_57 e_40.2 x1 x2 0
  else
    f_X12_string_64 e_40.2
theorem s_X12_string_39 {x1 : Int32} {x2 : Int32} {z0 : Int32} {M : px_M} {L : px_L} {R : px_R} {e : (Int32 × px_M)} (hS : SR sh R) (hd : 1 ≤ d) (hcu : cu ≤ mc) (hsu : su ≤ ms) (h : f_X12_string_39 M x1 x2 z0 = some e) (g : Post (some (.int (e.1))) sh (e.2) L R n) : WX RX12 cX12_string 4 (some .int) ("string", []) d mc ms X (px_QF Post mc ms) 39 [(0, .ref 73), (1, .int x1), (2, .int x2)] [.int z0, .ref 73] sh M L R n cu su := by
  unfold f_X12_string_39 at h
  refine wx_iconst (v := 1) dX12_string_39 (by decide) ?_
  obtain ⟨e_40, k_40, h⟩ := bd1_some h
  refine wx_cVi dX12_string_40 ml_X12_207 my_X12_bad iv_X12_bad (sc_73 hS) (by decide) (s_X12_bad (d := d - 1) hS (by omega) k_40) rfl (by omega) (by exact Nat.le_of_ble_eq_true rfl) hcu hsu ?_
  refine wx_if_ne (tgt := 64) dX12_string_43 (by decide) (fun c_43 => ?_) (fun c_43 => ?_)
  · replace h := it_f h c_43
    exact wx_sub (s_X12_string_64 hS hd hcu hsu h g) px_0
  · replace h := it_t h c_43
    refine wx_aload_n dX12_string_46 rfl ?_
    refine wx_iload_n dX12_string_47 rfl ?_
    refine wx_iload_n dX12_string_48 rfl ?_
    refine wx_icmp_ne (tgt := 56) dX12_string_49 (by decide) (fun c_49 => ?_) (fun c_49 => ?_)
    · replace h := it_f h c_49
      refine wx_iconst (v := 0) dX12_string_56 (by decide) ?_
      exact wx_sub (s_X12_string_57 hS hd hcu hsu h g) (px_s rfl (px_s rfl (px_s rfl px_0)))
    · replace h := it_t h c_49
      refine wx_iconst (v := 1) dX12_string_52 (by decide) ?_
      refine wx_goto (tgt := 57) dX12_string_53 (by decide) ?_
      exact wx_sub (s_X12_string_57 hS hd hcu hsu h g) (px_s rfl (px_s rfl (px_s rfl px_0)))
noncomputable def f_X12_string_34 (M : px_M) (x1 : Int32) (x2 : Int32) : Option (Int32 × px_M) :=
  f_X12_string_39 M x1 x2 1
theorem s_X12_string_34 {x1 : Int32} {x2 : Int32} {M : px_M} {L : px_L} {R : px_R} {e : (Int32 × px_M)} (hS : SR sh R) (hd : 1 ≤ d) (hcu : cu ≤ mc) (hsu : su ≤ ms) (h : f_X12_string_34 M x1 x2 = some e) (g : Post (some (.int (e.1))) sh (e.2) L R n) : WX RX12 cX12_string 4 (some .int) ("string", []) d mc ms X (px_QF Post mc ms) 34 [(0, .ref 73), (1, .int x1), (2, .int x2)] [.ref 73] sh M L R n cu su := by
  unfold f_X12_string_34 at h
  refine wx_iconst (v := 1) dX12_string_34 (by decide) ?_
  refine wx_goto (tgt := 39) dX12_string_35 (by decide) ?_
  exact wx_sub (s_X12_string_39 hS hd hcu hsu h g) (px_s rfl (px_s rfl (px_s rfl px_0)))
noncomputable def f_X12_string (M : px_M) (p1 : Int32) (p2 : Int32) : Option (Int32 × px_M) :=
  nm (px_u M 73 0 0) fun M_2 =>
  bd1 (f_X12_in p1 0 ((M_2 73 57) - 1)) fun e_14 =>
  if e_14 = 0 then
    f_X12_string_34 M_2 p1 p2
  else
    bd1 (f_X12_in p2 0 ((M_2 73 57) - 1)) fun e_28 =>
    if e_28 = 0 then
      f_X12_string_34 M_2 p1 p2
    else
      f_X12_string_39 M_2 p1 p2 0
theorem s_X12_string {d : Nat} {X : Nat × (Nat → Int32)} {sh : px_Sh} {M : px_M} {L : px_L} {R : px_R} {n : Nat} {p1 : Int32} {p2 : Int32} {e : Int32 × px_M} (hS : SR sh R) (hd : 1 ≤ d) (h : f_X12_string M p1 p2 = some e) : MX yX12_string cX12_string 4 (some .int) d 0 0 X [.ref 73, .int p1, .int p2] sh M L R n (px_pu (some (.int e.1)) sh e.2 L R n) := by
  refine MX.of (by decide +kernel) (by exact Nat.le_of_ble_eq_true rfl) ?_
  have hcu : 0 ≤ 0 := Nat.zero_le _
  have hsu : 0 ≤ 0 := Nat.zero_le _
  have g : px_pu (some (.int e.1)) sh e.2 L R n (some (.int e.1)) sh e.2 L R n := ⟨rfl, rfl, rfl, rfl, rfl, rfl⟩
  unfold f_X12_string at h
  refine wx_aload_n dX12_string_0 rfl ?_
  refine wx_iconst (v := 0) dX12_string_1 (by decide) ?_
  refine wx_putI dX12_string_2 fl_X12_179 (sc_73 hS) (Or.inl rfl) rfl ⟨rfl, rfl⟩ ?_
  refine wx_namM (fun M_2 q_2 => ?_)
  replace h := nm_at h q_2
  refine wx_aload_n dX12_string_5 rfl ?_
  refine wx_iload_n dX12_string_6 rfl ?_
  refine wx_iconst (v := 0) dX12_string_7 (by decide) ?_
  refine wx_aload_n dX12_string_8 rfl ?_
  refine wx_getI dX12_string_9 fl_X12_449 (sc_73 hS) rfl ?_
  refine wx_iconst (v := 1) dX12_string_12 (by decide) ?_
  refine wx_isub dX12_string_13 ?_
  obtain ⟨e_14, k_14, h⟩ := bd1_some h
  refine wx_cSi dX12_string_14 ml_X12_203 my_X12_in sv_X12_in (s_X12_in (d := d - 1) hS (by omega) k_14) rfl (by omega) (by exact Nat.le_of_ble_eq_true rfl) hcu hsu ?_
  refine wx_if_eq (tgt := 34) dX12_string_17 (by decide) (fun c_17 => ?_) (fun c_17 => ?_)
  · replace h := it_t h c_17
    exact wx_sub (s_X12_string_34 hS hd hcu hsu h g) (px_s rfl (px_s rfl (px_s rfl px_0)))
  · replace h := it_f h c_17
    refine wx_iload_n dX12_string_20 rfl ?_
    refine wx_iconst (v := 0) dX12_string_21 (by decide) ?_
    refine wx_aload_n dX12_string_22 rfl ?_
    refine wx_getI dX12_string_23 fl_X12_449 (sc_73 hS) rfl ?_
    refine wx_iconst (v := 1) dX12_string_26 (by decide) ?_
    refine wx_isub dX12_string_27 ?_
    obtain ⟨e_28, k_28, h⟩ := bd1_some h
    refine wx_cSi dX12_string_28 ml_X12_203 my_X12_in sv_X12_in (s_X12_in (d := d - 1) hS (by omega) k_28) rfl (by omega) (by exact Nat.le_of_ble_eq_true rfl) hcu hsu ?_
    refine wx_if_ne (tgt := 38) dX12_string_31 (by decide) (fun c_31 => ?_) (fun c_31 => ?_)
    · replace h := it_f h c_31
      refine wx_iconst (v := 0) dX12_string_38 (by decide) ?_
      exact wx_sub (s_X12_string_39 hS hd hcu hsu h g) (px_s rfl (px_s rfl (px_s rfl px_0)))
    · replace h := it_t h c_31
      exact wx_sub (s_X12_string_34 hS hd hcu hsu h g) (px_s rfl (px_s rfl (px_s rfl px_0)))
noncomputable def f_X12_cut (M : px_M) : Option (Int32 × px_M) :=
  nm (px_u M 73 0 0) fun M_2 =>
  nm (M_2 73 58) fun v_9 =>
  nm (px_u M_2 73 58 0) fun M_12 =>
  nm (px_u M_12 73 57 0) fun M_17 =>
  some (v_9, M_17)
theorem s_X12_cut {d : Nat} {X : Nat × (Nat → Int32)} {sh : px_Sh} {M : px_M} {L : px_L} {R : px_R} {n : Nat} {e : Int32 × px_M} (hS : SR sh R) (hd : 0 ≤ d) (h : f_X12_cut M = some e) : MX yX12_cut cX12_cut 2 (some .int) d 0 0 X [.ref 73] sh M L R n (px_pu (some (.int e.1)) sh e.2 L R n) := by
  refine MX.of (by decide +kernel) (by exact Nat.le_of_ble_eq_true rfl) ?_
  have hcu : 0 ≤ 0 := Nat.zero_le _
  have hsu : 0 ≤ 0 := Nat.zero_le _
  have g : px_pu (some (.int e.1)) sh e.2 L R n (some (.int e.1)) sh e.2 L R n := ⟨rfl, rfl, rfl, rfl, rfl, rfl⟩
  unfold f_X12_cut at h
  refine wx_aload_n dX12_cut_0 rfl ?_
  refine wx_iconst (v := 0) dX12_cut_1 (by decide) ?_
  refine wx_putI dX12_cut_2 fl_X12_179 (sc_73 hS) (Or.inl rfl) rfl ⟨rfl, rfl⟩ ?_
  refine wx_namM (fun M_2 q_2 => ?_)
  replace h := nm_at h q_2
  refine wx_aload_n dX12_cut_5 rfl ?_
  refine wx_getI dX12_cut_6 fl_X12_452 (sc_73 hS) rfl ?_
  refine wx_nami (fun v_9 q_9 => ?_)
  replace h := nm_at h q_9
  refine wx_istore_n (lv' := [(1, _), (0, _)]) dX12_cut_9 (by decide) rfl ?_
  refine wx_aload_n dX12_cut_10 rfl ?_
  refine wx_iconst (v := 0) dX12_cut_11 (by decide) ?_
  refine wx_putI dX12_cut_12 fl_X12_452 (sc_73 hS) (Or.inl rfl) rfl ⟨rfl, rfl⟩ ?_
  refine wx_namM (fun M_12 q_12 => ?_)
  replace h := nm_at h q_12
  refine wx_aload_n dX12_cut_15 rfl ?_
  refine wx_iconst (v := 0) dX12_cut_16 (by decide) ?_
  refine wx_putI dX12_cut_17 fl_X12_449 (sc_73 hS) (Or.inl rfl) rfl ⟨rfl, rfl⟩ ?_
  refine wx_namM (fun M_17 q_17 => ?_)
  replace h := nm_at h q_17
  refine wx_iload_n dX12_cut_20 rfl ?_
  refine wx_iret dX12_cut_21 hcu hsu ?_
  obtain rfl := Option.some.inj h
  exact g
end LIFT
