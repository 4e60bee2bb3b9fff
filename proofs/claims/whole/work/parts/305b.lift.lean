/-! Rules and Reader -/
section LIFT
variable {d mc ms : Nat} {X : Nat × (Nat → Int32)} {Post : px_Post} {sh : px_Sh} {n cu su : Nat}
noncomputable def o_X6_readPair (r_X6_readSum : px_Sh → px_M → px_R → Option (px_M)) (sh : px_Sh) (M : px_M) (R : px_R) (p1 : Int32) : Option (px_M) :=
  bd1 (f_X6_scan M) fun e_1 =>
  if (e_1 20 5) = 40 then
    bd1 (f_X6_enter e_1) fun e_20 =>
    bd1 (r_X6_readSum sh e_20 R) fun e_24 =>
    bd1 (f_X6_demand e_24 44) fun e_30 =>
    bd1 (r_X6_readSum sh e_30 R) fun e_34 =>
    bd1 (f_X6_demand e_34 41) fun e_40 =>
    nm ((e_40 20 7) - 1) fun v_50 =>
    nm (px_u e_40 20 7 v_50) fun M_50 =>
    bd1 (R 20 10) fun b_54 =>
    ok (hk sh b_54 7) <|
    bd1 (f_X7_add sh M_50 R b_54 (-p1)) fun e_59 =>
    some e_59
  else
    bd1 (f_X6_refuse e_1 1) fun e_15 =>
    some e_15
theorem so_X6_readPair {dr : Nat} {r_X6_readSum : px_Sh → px_M → px_R → Option (px_M)} {d : Nat} {X : Nat × (Nat → Int32)} {sh : px_Sh} {M : px_M} {L : px_L} {R : px_R} {n : Nat} {p1 : Int32} {e : px_M} (h_X6_readSum : ∀ {d : Nat} {X : Nat × (Nat → Int32)} {sh : px_Sh} {M : px_M} {L : px_L} {R : px_R} {n : Nat} {e : px_M}, SR sh R → dr ≤ d → r_X6_readSum sh M R = some e → MX yX6_readSum cX6_readSum 3 none d 0 0 X [.ref 20] sh M L R n (px_pu none sh e L R n)) (hS : SR sh R) (hd : 7 ≤ d) (hdr : dr + 1 ≤ d) (h : o_X6_readPair r_X6_readSum sh M R p1 = some e) : MX yX6_readPair cX6_readPair 2 none d 0 0 X [.ref 20, .int p1] sh M L R n (px_pu none sh e L R n) := by
  refine MX.of (by decide +kernel) (by exact Nat.le_of_ble_eq_true rfl) ?_
  have hcu : 0 ≤ 0 := Nat.zero_le _
  have hsu : 0 ≤ 0 := Nat.zero_le _
  have g : px_pu none sh e L R n none sh e L R n := ⟨rfl, rfl, rfl, rfl, rfl, rfl⟩
  unfold o_X6_readPair at h
  refine wx_aload_n dX6_readPair_0 rfl ?_
  obtain ⟨e_1, k_1, h⟩ := bd1_some h
  refine wx_cVv dX6_readPair_1 ml_X6_50 my_X6_scan iv_X6_scan (sc_20 hS) (by decide) (s_X6_scan (d := d - 1) hS (by omega) k_1) rfl (by omega) (by exact Nat.le_of_ble_eq_true rfl) hcu hsu ?_
  refine wx_aload_n dX6_readPair_4 rfl ?_
  refine wx_getI dX6_readPair_5 fl_X6_57 (sc_20 hS) rfl ?_
  refine wx_bipush (v := 40) dX6_readPair_8 (by decide) ?_
  refine wx_icmp_eq (tgt := 19) dX6_readPair_10 (by decide) (fun c_10 => ?_) (fun c_10 => ?_)
  · replace h := it_t h c_10
    refine wx_aload_n dX6_readPair_19 rfl ?_
    obtain ⟨e_20, k_20, h⟩ := bd1_some h
    refine wx_cVv dX6_readPair_20 ml_X6_91 my_X6_enter iv_X6_enter (sc_20 hS) (by decide) (s_X6_enter (d := d - 1) hS (by omega) k_20) rfl (by omega) (by exact Nat.le_of_ble_eq_true rfl) hcu hsu ?_
    refine wx_aload_n dX6_readPair_23 rfl ?_
    obtain ⟨e_24, k_24, h⟩ := bd1_some h
    refine wx_cVv dX6_readPair_24 ml_X6_94 my_X6_readSum iv_X6_readSum (sc_20 hS) (by decide) (h_X6_readSum (d := d - 1) hS (by omega) k_24) rfl (by omega) (by exact Nat.le_of_ble_eq_true rfl) hcu hsu ?_
    refine wx_aload_n dX6_readPair_27 rfl ?_
    refine wx_bipush (v := 44) dX6_readPair_28 (by decide) ?_
    obtain ⟨e_30, k_30, h⟩ := bd1_some h
    refine wx_cVv dX6_readPair_30 ml_X6_73 my_X6_demand iv_X6_demand (sc_20 hS) (by decide) (s_X6_demand (d := d - 1) hS (by omega) k_30) rfl (by omega) (by exact Nat.le_of_ble_eq_true rfl) hcu hsu ?_
    refine wx_aload_n dX6_readPair_33 rfl ?_
    obtain ⟨e_34, k_34, h⟩ := bd1_some h
    refine wx_cVv dX6_readPair_34 ml_X6_94 my_X6_readSum iv_X6_readSum (sc_20 hS) (by decide) (h_X6_readSum (d := d - 1) hS (by omega) k_34) rfl (by omega) (by exact Nat.le_of_ble_eq_true rfl) hcu hsu ?_
    refine wx_aload_n dX6_readPair_37 rfl ?_
    refine wx_bipush (v := 41) dX6_readPair_38 (by decide) ?_
    obtain ⟨e_40, k_40, h⟩ := bd1_some h
    refine wx_cVv dX6_readPair_40 ml_X6_73 my_X6_demand iv_X6_demand (sc_20 hS) (by decide) (s_X6_demand (d := d - 1) hS (by omega) k_40) rfl (by omega) (by exact Nat.le_of_ble_eq_true rfl) hcu hsu ?_
    refine wx_aload_n dX6_readPair_43 rfl ?_
    refine wx_dup dX6_readPair_44 rfl ?_
    refine wx_getI dX6_readPair_45 fl_X6_44 (sc_20 hS) rfl ?_
    refine wx_iconst (v := 1) dX6_readPair_48 (by decide) ?_
    refine wx_isub dX6_readPair_49 ?_
    refine wx_nami (fun v_50 q_50 => ?_)
    replace h := nm_at h q_50
    refine wx_putI dX6_readPair_50 fl_X6_44 (sc_20 hS) (Or.inl rfl) rfl ⟨rfl, rfl⟩ ?_
    refine wx_namM (fun M_50 q_50 => ?_)
    replace h := nm_at h q_50
    refine wx_aload_n dX6_readPair_53 rfl ?_
    obtain ⟨b_54, w_54, h⟩ := bd1_some h
    refine wx_getR dX6_readPair_54 fl_X6_22 (sc_20 hS) rfl w_54 ?_
    refine wx_iload_n dX6_readPair_57 rfl ?_
    refine wx_ineg dX6_readPair_58 ?_
    obtain ⟨ws_59, h⟩ := ok_some h
    obtain ⟨ln_59, wt_59⟩ := hk_some ws_59
    obtain ⟨e_59, k_59, h⟩ := bd1_some h
    refine wx_cVv dX6_readPair_59 ml_X6_85 my_X7_add iv_X7_add wt_59 (by decide) (s_X7_add (d := d - 1) hS (by omega) k_59) rfl (by omega) (by exact Nat.le_of_ble_eq_true rfl) hcu hsu ?_
    refine wx_vret dX6_readPair_62 hcu hsu ?_
    obtain rfl := Option.some.inj h
    exact g
  · replace h := it_f h c_10
    refine wx_aload_n dX6_readPair_13 rfl ?_
    refine wx_iconst (v := 1) dX6_readPair_14 (by decide) ?_
    obtain ⟨e_15, k_15, h⟩ := bd1_some h
    refine wx_cVv dX6_readPair_15 ml_X6_66 my_X6_refuse iv_X6_refuse (sc_20 hS) (by decide) (s_X6_refuse (d := d - 1) hS (by omega) k_15) rfl (by omega) (by exact Nat.le_of_ble_eq_true rfl) hcu hsu ?_
    refine wx_vret dX6_readPair_18 hcu hsu ?_
    obtain rfl := Option.some.inj h
    exact g
noncomputable def o_X6_readUnit_136 (r_X6_readSum : px_Sh → px_M → px_R → Option (px_M)) (sh : px_Sh) (M : px_M) (R : px_R) : Option (px_M) :=
  some M
theorem so_X6_readUnit_136 {dr : Nat} {r_X6_readSum : px_Sh → px_M → px_R → Option (px_M)} {M : px_M} {L : px_L} {R : px_R} {e : (px_M)} (h_X6_readSum : ∀ {d : Nat} {X : Nat × (Nat → Int32)} {sh : px_Sh} {M : px_M} {L : px_L} {R : px_R} {n : Nat} {e : px_M}, SR sh R → dr ≤ d → r_X6_readSum sh M R = some e → MX yX6_readSum cX6_readSum 3 none d 0 0 X [.ref 20] sh M L R n (px_pu none sh e L R n)) (hS : SR sh R) (hd : 8 ≤ d) (hdr : dr + 2 ≤ d) (hcu : cu ≤ mc) (hsu : su ≤ ms) (h : o_X6_readUnit_136 r_X6_readSum sh M R = some e) (g : Post none sh e L R n) : WX RX6 cX6_readUnit 1 none ("readUnit", []) d mc ms X (px_QF Post mc ms) 136 [] [] sh M L R n cu su := by
  unfold o_X6_readUnit_136 at h
  refine wx_vret dX6_readUnit_136 hcu hsu ?_
  obtain rfl := Option.some.inj h
  exact g
noncomputable def o_X6_readUnit_120 (r_X6_readSum : px_Sh → px_M → px_R → Option (px_M)) (sh : px_Sh) (M : px_M) (R : px_R) : Option (px_M) :=
  bd1 (o_X6_readPair r_X6_readSum sh M R (M 20 5)) fun e_125 =>
  o_X6_readUnit_136 r_X6_readSum sh e_125 R
theorem so_X6_readUnit_120 {dr : Nat} {r_X6_readSum : px_Sh → px_M → px_R → Option (px_M)} {M : px_M} {L : px_L} {R : px_R} {e : (px_M)} (h_X6_readSum : ∀ {d : Nat} {X : Nat × (Nat → Int32)} {sh : px_Sh} {M : px_M} {L : px_L} {R : px_R} {n : Nat} {e : px_M}, SR sh R → dr ≤ d → r_X6_readSum sh M R = some e → MX yX6_readSum cX6_readSum 3 none d 0 0 X [.ref 20] sh M L R n (px_pu none sh e L R n)) (hS : SR sh R) (hd : 8 ≤ d) (hdr : dr + 2 ≤ d) (hcu : cu ≤ mc) (hsu : su ≤ ms) (h : o_X6_readUnit_120 r_X6_readSum sh M R = some e) (g : Post none sh e L R n) : WX RX6 cX6_readUnit 1 none ("readUnit", []) d mc ms X (px_QF Post mc ms) 120 [(0, .ref 20)] [] sh M L R n cu su := by
  unfold o_X6_readUnit_120 at h
  refine wx_aload_n dX6_readUnit_120 rfl ?_
  refine wx_aload_n dX6_readUnit_121 rfl ?_
  refine wx_getI dX6_readUnit_122 fl_X6_57 (sc_20 hS) rfl ?_
  obtain ⟨e_125, k_125, h⟩ := bd1_some h
  refine wx_cVv dX6_readUnit_125 ml_X6_109 my_X6_readPair iv_X6_readPair (sc_20 hS) (by decide) (so_X6_readPair (d := d - 1) h_X6_readSum hS (by omega) (by omega) k_125) rfl (by omega) (by exact Nat.le_of_ble_eq_true rfl) hcu hsu ?_
  refine wx_goto (tgt := 136) dX6_readUnit_128 (by decide) ?_
  exact wx_sub (so_X6_readUnit_136 h_X6_readSum hS hd hdr hcu hsu h g) px_0
noncomputable def o_X6_readUnit_64 (r_X6_readSum : px_Sh → px_M → px_R → Option (px_M)) (sh : px_Sh) (M : px_M) (R : px_R) : Option (px_M) :=
  if (M 20 5) = 40 then
    bd1 (f_X6_enter M) fun e_74 =>
    bd1 (r_X6_readSum sh e_74 R) fun e_78 =>
    bd1 (f_X6_demand e_78 41) fun e_84 =>
    nm ((e_84 20 7) - 1) fun v_94 =>
    nm (px_u e_84 20 7 v_94) fun M_94 =>
    o_X6_readUnit_136 r_X6_readSum sh M_94 R
  else
    if (M 20 5) = 314 then
      o_X6_readUnit_120 r_X6_readSum sh M R
    else
      if (M 20 5) = 315 then
        o_X6_readUnit_120 r_X6_readSum sh M R
      else
        bd1 (f_X6_refuse M 1) fun e_133 =>
        o_X6_readUnit_136 r_X6_readSum sh e_133 R
theorem so_X6_readUnit_64 {dr : Nat} {r_X6_readSum : px_Sh → px_M → px_R → Option (px_M)} {M : px_M} {L : px_L} {R : px_R} {e : (px_M)} (h_X6_readSum : ∀ {d : Nat} {X : Nat × (Nat → Int32)} {sh : px_Sh} {M : px_M} {L : px_L} {R : px_R} {n : Nat} {e : px_M}, SR sh R → dr ≤ d → r_X6_readSum sh M R = some e → MX yX6_readSum cX6_readSum 3 none d 0 0 X [.ref 20] sh M L R n (px_pu none sh e L R n)) (hS : SR sh R) (hd : 8 ≤ d) (hdr : dr + 2 ≤ d) (hcu : cu ≤ mc) (hsu : su ≤ ms) (h : o_X6_readUnit_64 r_X6_readSum sh M R = some e) (g : Post none sh e L R n) : WX RX6 cX6_readUnit 1 none ("readUnit", []) d mc ms X (px_QF Post mc ms) 64 [(0, .ref 20)] [] sh M L R n cu su := by
  unfold o_X6_readUnit_64 at h
  refine wx_aload_n dX6_readUnit_64 rfl ?_
  refine wx_getI dX6_readUnit_65 fl_X6_57 (sc_20 hS) rfl ?_
  refine wx_bipush (v := 40) dX6_readUnit_68 (by decide) ?_
  refine wx_icmp_ne (tgt := 100) dX6_readUnit_70 (by decide) (fun c_70 => ?_) (fun c_70 => ?_)
  · replace h := it_f h c_70
    refine wx_aload_n dX6_readUnit_100 rfl ?_
    refine wx_getI dX6_readUnit_101 fl_X6_57 (sc_20 hS) rfl ?_
    refine wx_sipush (v := 314) dX6_readUnit_104 (by decide) ?_
    refine wx_icmp_eq (tgt := 120) dX6_readUnit_107 (by decide) (fun c_107 => ?_) (fun c_107 => ?_)
    · replace h := it_t h c_107
      exact wx_sub (so_X6_readUnit_120 h_X6_readSum hS hd hdr hcu hsu h g) (px_s rfl px_0)
    · replace h := it_f h c_107
      refine wx_aload_n dX6_readUnit_110 rfl ?_
      refine wx_getI dX6_readUnit_111 fl_X6_57 (sc_20 hS) rfl ?_
      refine wx_sipush (v := 315) dX6_readUnit_114 (by decide) ?_
      refine wx_icmp_ne (tgt := 131) dX6_readUnit_117 (by decide) (fun c_117 => ?_) (fun c_117 => ?_)
      · replace h := it_f h c_117
        refine wx_aload_n dX6_readUnit_131 rfl ?_
        refine wx_iconst (v := 1) dX6_readUnit_132 (by decide) ?_
        obtain ⟨e_133, k_133, h⟩ := bd1_some h
        refine wx_cVv dX6_readUnit_133 ml_X6_66 my_X6_refuse iv_X6_refuse (sc_20 hS) (by decide) (s_X6_refuse (d := d - 1) hS (by omega) k_133) rfl (by omega) (by exact Nat.le_of_ble_eq_true rfl) hcu hsu ?_
        exact wx_sub (so_X6_readUnit_136 h_X6_readSum hS hd hdr hcu hsu h g) px_0
      · replace h := it_t h c_117
        exact wx_sub (so_X6_readUnit_120 h_X6_readSum hS hd hdr hcu hsu h g) (px_s rfl px_0)
  · replace h := it_t h c_70
    refine wx_aload_n dX6_readUnit_73 rfl ?_
    obtain ⟨e_74, k_74, h⟩ := bd1_some h
    refine wx_cVv dX6_readUnit_74 ml_X6_91 my_X6_enter iv_X6_enter (sc_20 hS) (by decide) (s_X6_enter (d := d - 1) hS (by omega) k_74) rfl (by omega) (by exact Nat.le_of_ble_eq_true rfl) hcu hsu ?_
    refine wx_aload_n dX6_readUnit_77 rfl ?_
    obtain ⟨e_78, k_78, h⟩ := bd1_some h
    refine wx_cVv dX6_readUnit_78 ml_X6_94 my_X6_readSum iv_X6_readSum (sc_20 hS) (by decide) (h_X6_readSum (d := d - 1) hS (by omega) k_78) rfl (by omega) (by exact Nat.le_of_ble_eq_true rfl) hcu hsu ?_
    refine wx_aload_n dX6_readUnit_81 rfl ?_
    refine wx_bipush (v := 41) dX6_readUnit_82 (by decide) ?_
    obtain ⟨e_84, k_84, h⟩ := bd1_some h
    refine wx_cVv dX6_readUnit_84 ml_X6_73 my_X6_demand iv_X6_demand (sc_20 hS) (by decide) (s_X6_demand (d := d - 1) hS (by omega) k_84) rfl (by omega) (by exact Nat.le_of_ble_eq_true rfl) hcu hsu ?_
    refine wx_aload_n dX6_readUnit_87 rfl ?_
    refine wx_dup dX6_readUnit_88 rfl ?_
    refine wx_getI dX6_readUnit_89 fl_X6_44 (sc_20 hS) rfl ?_
    refine wx_iconst (v := 1) dX6_readUnit_92 (by decide) ?_
    refine wx_isub dX6_readUnit_93 ?_
    refine wx_nami (fun v_94 q_94 => ?_)
    replace h := nm_at h q_94
    refine wx_putI dX6_readUnit_94 fl_X6_44 (sc_20 hS) (Or.inl rfl) rfl ⟨rfl, rfl⟩ ?_
    refine wx_namM (fun M_94 q_94 => ?_)
    replace h := nm_at h q_94
    refine wx_goto (tgt := 136) dX6_readUnit_97 (by decide) ?_
    exact wx_sub (so_X6_readUnit_136 h_X6_readSum hS hd hdr hcu hsu h g) px_0
noncomputable def o_X6_readUnit (r_X6_readSum : px_Sh → px_M → px_R → Option (px_M)) (sh : px_Sh) (M : px_M) (R : px_R) : Option (px_M) :=
  bd1 (f_X6_goesOn M) fun e_1 =>
  if e_1 = 0 then
    some M
  else
    if (M 20 5) = 317 then
      bd1 (f_X6_readNumber sh M R) fun e_19 =>
      o_X6_readUnit_136 r_X6_readSum sh e_19 R
    else
      if (M 20 5) < 307 then
        o_X6_readUnit_64 r_X6_readSum sh M R
      else
        if 313 < (M 20 5) then
          o_X6_readUnit_64 r_X6_readSum sh M R
        else
          bd1 (R 20 10) fun b_46 =>
          ok (hk sh b_46 7) <|
          bd1 (f_X7_add sh M R b_46 (-(M 20 5))) fun e_54 =>
          bd1 (f_X6_scan e_54) fun e_58 =>
          o_X6_readUnit_136 r_X6_readSum sh e_58 R
theorem so_X6_readUnit {dr : Nat} {r_X6_readSum : px_Sh → px_M → px_R → Option (px_M)} {d : Nat} {X : Nat × (Nat → Int32)} {sh : px_Sh} {M : px_M} {L : px_L} {R : px_R} {n : Nat} {e : px_M} (h_X6_readSum : ∀ {d : Nat} {X : Nat × (Nat → Int32)} {sh : px_Sh} {M : px_M} {L : px_L} {R : px_R} {n : Nat} {e : px_M}, SR sh R → dr ≤ d → r_X6_readSum sh M R = some e → MX yX6_readSum cX6_readSum 3 none d 0 0 X [.ref 20] sh M L R n (px_pu none sh e L R n)) (hS : SR sh R) (hd : 8 ≤ d) (hdr : dr + 2 ≤ d) (h : o_X6_readUnit r_X6_readSum sh M R = some e) : MX yX6_readUnit cX6_readUnit 1 none d 0 0 X [.ref 20] sh M L R n (px_pu none sh e L R n) := by
  refine MX.of (by decide +kernel) (by exact Nat.le_of_ble_eq_true rfl) ?_
  have hcu : 0 ≤ 0 := Nat.zero_le _
  have hsu : 0 ≤ 0 := Nat.zero_le _
  have g : px_pu none sh e L R n none sh e L R n := ⟨rfl, rfl, rfl, rfl, rfl, rfl⟩
  unfold o_X6_readUnit at h
  refine wx_aload_n dX6_readUnit_0 rfl ?_
  obtain ⟨e_1, k_1, h⟩ := bd1_some h
  refine wx_cVi dX6_readUnit_1 ml_X6_53 my_X6_goesOn iv_X6_goesOn (sc_20 hS) (by decide) (s_X6_goesOn (d := d - 1) hS (by omega) k_1) rfl (by omega) (by exact Nat.le_of_ble_eq_true rfl) hcu hsu ?_
  refine wx_if_ne (tgt := 8) dX6_readUnit_4 (by decide) (fun c_4 => ?_) (fun c_4 => ?_)
  · replace h := it_f h c_4
    refine wx_aload_n dX6_readUnit_8 rfl ?_
    refine wx_getI dX6_readUnit_9 fl_X6_57 (sc_20 hS) rfl ?_
    refine wx_sipush (v := 317) dX6_readUnit_12 (by decide) ?_
    refine wx_icmp_ne (tgt := 25) dX6_readUnit_15 (by decide) (fun c_15 => ?_) (fun c_15 => ?_)
    · replace h := it_f h c_15
      refine wx_aload_n dX6_readUnit_25 rfl ?_
      refine wx_getI dX6_readUnit_26 fl_X6_57 (sc_20 hS) rfl ?_
      refine wx_sipush (v := 307) dX6_readUnit_29 (by decide) ?_
      refine wx_icmp_lt (tgt := 64) dX6_readUnit_32 (by decide) (fun c_32 => ?_) (fun c_32 => ?_)
      · replace h := it_t h c_32
        exact wx_sub (so_X6_readUnit_64 h_X6_readSum hS hd hdr hcu hsu h g) (px_s rfl px_0)
      · replace h := it_f h c_32
        refine wx_aload_n dX6_readUnit_35 rfl ?_
        refine wx_getI dX6_readUnit_36 fl_X6_57 (sc_20 hS) rfl ?_
        refine wx_sipush (v := 313) dX6_readUnit_39 (by decide) ?_
        refine wx_icmp_gt (tgt := 64) dX6_readUnit_42 (by decide) (fun c_42 => ?_) (fun c_42 => ?_)
        · replace h := it_t h c_42
          exact wx_sub (so_X6_readUnit_64 h_X6_readSum hS hd hdr hcu hsu h g) (px_s rfl px_0)
        · replace h := it_f h c_42
          refine wx_aload_n dX6_readUnit_45 rfl ?_
          obtain ⟨b_46, w_46, h⟩ := bd1_some h
          refine wx_getR dX6_readUnit_46 fl_X6_22 (sc_20 hS) rfl w_46 ?_
          refine wx_aload_n dX6_readUnit_49 rfl ?_
          refine wx_getI dX6_readUnit_50 fl_X6_57 (sc_20 hS) rfl ?_
          refine wx_ineg dX6_readUnit_53 ?_
          obtain ⟨ws_54, h⟩ := ok_some h
          obtain ⟨ln_54, wt_54⟩ := hk_some ws_54
          obtain ⟨e_54, k_54, h⟩ := bd1_some h
          refine wx_cVv dX6_readUnit_54 ml_X6_85 my_X7_add iv_X7_add wt_54 (by decide) (s_X7_add (d := d - 1) hS (by omega) k_54) rfl (by omega) (by exact Nat.le_of_ble_eq_true rfl) hcu hsu ?_
          refine wx_aload_n dX6_readUnit_57 rfl ?_
          obtain ⟨e_58, k_58, h⟩ := bd1_some h
          refine wx_cVv dX6_readUnit_58 ml_X6_50 my_X6_scan iv_X6_scan (sc_20 hS) (by decide) (s_X6_scan (d := d - 1) hS (by omega) k_58) rfl (by omega) (by exact Nat.le_of_ble_eq_true rfl) hcu hsu ?_
          refine wx_goto (tgt := 136) dX6_readUnit_61 (by decide) ?_
          exact wx_sub (so_X6_readUnit_136 h_X6_readSum hS hd hdr hcu hsu h g) px_0
    · replace h := it_t h c_15
      refine wx_aload_n dX6_readUnit_18 rfl ?_
      obtain ⟨e_19, k_19, h⟩ := bd1_some h
      refine wx_cVv dX6_readUnit_19 ml_X6_106 my_X6_readNumber iv_X6_readNumber (sc_20 hS) (by decide) (s_X6_readNumber (d := d - 1) hS (by omega) k_19) rfl (by omega) (by exact Nat.le_of_ble_eq_true rfl) hcu hsu ?_
      refine wx_goto (tgt := 136) dX6_readUnit_22 (by decide) ?_
      exact wx_sub (so_X6_readUnit_136 h_X6_readSum hS hd hdr hcu hsu h g) px_0
  · replace h := it_t h c_4
    refine wx_vret dX6_readUnit_7 hcu hsu ?_
    obtain rfl := Option.some.inj h
    exact g
noncomputable def o_X6_readProduct_39 (r_X6_readSum : px_Sh → px_M → px_R → Option (px_M)) (sh : px_Sh) (M : px_M) (R : px_R) (x1 : Int32) : Option ((Int32 × px_M) ⊕ (px_M)) :=
  nm (M 20 5) fun v_43 =>
  bd1 (f_X6_scan M) fun e_45 =>
  bd1 (o_X6_readUnit r_X6_readSum sh e_45 R) fun e_49 =>
  bd1 (R 20 10) fun b_53 =>
  ok (hk sh b_53 7) <|
  bd1 (f_X7_add sh e_49 R b_53 (-v_43)) fun e_58 =>
  some (.inl ((x1 + 1), e_58))
theorem so_X6_readProduct_39 {dr : Nat} {r_X6_readSum : px_Sh → px_M → px_R → Option (px_M)} {x1 : Int32} {M : px_M} {L : px_L} {R : px_R} {e : ((Int32 × px_M) ⊕ (px_M))} (h_X6_readSum : ∀ {d : Nat} {X : Nat × (Nat → Int32)} {sh : px_Sh} {M : px_M} {L : px_L} {R : px_R} {n : Nat} {e : px_M}, SR sh R → dr ≤ d → r_X6_readSum sh M R = some e → MX yX6_readSum cX6_readSum 3 none d 0 0 X [.ref 20] sh M L R n (px_pu none sh e L R n)) (hS : SR sh R) (hd : 9 ≤ d) (hdr : dr + 3 ≤ d) (hcu : cu ≤ mc) (hsu : su ≤ ms) (h : o_X6_readProduct_39 r_X6_readSum sh M R x1 = some e) (g : (sE (fun a => WX RX6 cX6_readProduct 3 none ("readProduct", []) d mc ms X (px_QF Post mc ms) 6 [(0, .ref 20), (1, .int a.1)] [] sh (a.2) L R n cu su) (fun t => WX RX6 cX6_readProduct 3 none ("readProduct", []) d mc ms X (px_QF Post mc ms) 67 [] [] sh t L R n cu su)) e) : WX RX6 cX6_readProduct 3 none ("readProduct", []) d mc ms X (px_QF Post mc ms) 39 [(0, .ref 20), (1, .int x1)] [] sh M L R n cu su := by
  unfold o_X6_readProduct_39 at h
  refine wx_aload_n dX6_readProduct_39 rfl ?_
  refine wx_getI dX6_readProduct_40 fl_X6_57 (sc_20 hS) rfl ?_
  refine wx_nami (fun v_43 q_43 => ?_)
  replace h := nm_at h q_43
  refine wx_istore_n (lv' := [(2, _), (0, _), (1, _)]) dX6_readProduct_43 (by decide) rfl ?_
  refine wx_aload_n dX6_readProduct_44 rfl ?_
  obtain ⟨e_45, k_45, h⟩ := bd1_some h
  refine wx_cVv dX6_readProduct_45 ml_X6_50 my_X6_scan iv_X6_scan (sc_20 hS) (by decide) (s_X6_scan (d := d - 1) hS (by omega) k_45) rfl (by omega) (by exact Nat.le_of_ble_eq_true rfl) hcu hsu ?_
  refine wx_aload_n dX6_readProduct_48 rfl ?_
  obtain ⟨e_49, k_49, h⟩ := bd1_some h
  refine wx_cVv dX6_readProduct_49 ml_X6_103 my_X6_readUnit iv_X6_readUnit (sc_20 hS) (by decide) (so_X6_readUnit (d := d - 1) h_X6_readSum hS (by omega) (by omega) k_49) rfl (by omega) (by exact Nat.le_of_ble_eq_true rfl) hcu hsu ?_
  refine wx_aload_n dX6_readProduct_52 rfl ?_
  obtain ⟨b_53, w_53, h⟩ := bd1_some h
  refine wx_getR dX6_readProduct_53 fl_X6_22 (sc_20 hS) rfl w_53 ?_
  refine wx_iload_n dX6_readProduct_56 rfl ?_
  refine wx_ineg dX6_readProduct_57 ?_
  obtain ⟨ws_58, h⟩ := ok_some h
  obtain ⟨ln_58, wt_58⟩ := hk_some ws_58
  obtain ⟨e_58, k_58, h⟩ := bd1_some h
  refine wx_cVv dX6_readProduct_58 ml_X6_85 my_X7_add iv_X7_add wt_58 (by decide) (s_X7_add (d := d - 1) hS (by omega) k_58) rfl (by omega) (by exact Nat.le_of_ble_eq_true rfl) hcu hsu ?_
  refine wx_iinc (lv' := [(1, _), (2, _), (0, _)]) dX6_readProduct_61 rfl (i_1 _) (by decide) rfl ?_
  refine wx_goto (tgt := 6) dX6_readProduct_64 (by decide) ?_
  obtain rfl := Option.some.inj h
  replace g := sE_l g
  exact wx_sub g (px_s rfl (px_s rfl px_0))
noncomputable def o_X6_readProduct_6 (r_X6_readSum : px_Sh → px_M → px_R → Option (px_M)) (sh : px_Sh) (M : px_M) (R : px_R) (x1 : Int32) : Option ((Int32 × px_M) ⊕ (px_M)) :=
  if (M 20 2) ≤ x1 then
    some (.inr M)
  else
    bd1 (f_X6_goesOn M) fun e_15 =>
    if e_15 = 0 then
      some (.inr M)
    else
      if (M 20 5) = 42 then
        o_X6_readProduct_39 r_X6_readSum sh M R x1
      else
        if (M 20 5) = 47 then
          o_X6_readProduct_39 r_X6_readSum sh M R x1
        else
          some (.inr M)
theorem so_X6_readProduct_6b {dr : Nat} {r_X6_readSum : px_Sh → px_M → px_R → Option (px_M)} {x1 : Int32} {M : px_M} {L : px_L} {R : px_R} {e : ((Int32 × px_M) ⊕ (px_M))} (h_X6_readSum : ∀ {d : Nat} {X : Nat × (Nat → Int32)} {sh : px_Sh} {M : px_M} {L : px_L} {R : px_R} {n : Nat} {e : px_M}, SR sh R → dr ≤ d → r_X6_readSum sh M R = some e → MX yX6_readSum cX6_readSum 3 none d 0 0 X [.ref 20] sh M L R n (px_pu none sh e L R n)) (hS : SR sh R) (hd : 9 ≤ d) (hdr : dr + 3 ≤ d) (hcu : cu ≤ mc) (hsu : su ≤ ms) (h : o_X6_readProduct_6 r_X6_readSum sh M R x1 = some e) (g : (sE (fun a => WX RX6 cX6_readProduct 3 none ("readProduct", []) d mc ms X (px_QF Post mc ms) 6 [(0, .ref 20), (1, .int a.1)] [] sh (a.2) L R n cu su) (fun t => WX RX6 cX6_readProduct 3 none ("readProduct", []) d mc ms X (px_QF Post mc ms) 67 [] [] sh t L R n cu su)) e) : WX RX6 cX6_readProduct 3 none ("readProduct", []) d mc ms X (px_QF Post mc ms) 6 [(0, .ref 20), (1, .int x1)] [] sh M L R n cu su := by
  unfold o_X6_readProduct_6 at h
  refine wx_iload_n dX6_readProduct_6 rfl ?_
  refine wx_aload_n dX6_readProduct_7 rfl ?_
  refine wx_getI dX6_readProduct_8 fl_X6_35 (sc_20 hS) rfl ?_
  refine wx_icmp_ge (tgt := 67) dX6_readProduct_11 (by decide) (fun c_11 => ?_) (fun c_11 => ?_)
  · replace h := it_t h c_11
    obtain rfl := Option.some.inj h
    replace g := sE_r g
    exact wx_sub g px_0
  · replace h := it_f h c_11
    refine wx_aload_n dX6_readProduct_14 rfl ?_
    obtain ⟨e_15, k_15, h⟩ := bd1_some h
    refine wx_cVi dX6_readProduct_15 ml_X6_53 my_X6_goesOn iv_X6_goesOn (sc_20 hS) (by decide) (s_X6_goesOn (d := d - 1) hS (by omega) k_15) rfl (by omega) (by exact Nat.le_of_ble_eq_true rfl) hcu hsu ?_
    refine wx_if_eq (tgt := 67) dX6_readProduct_18 (by decide) (fun c_18 => ?_) (fun c_18 => ?_)
    · replace h := it_t h c_18
      obtain rfl := Option.some.inj h
      replace g := sE_r g
      exact wx_sub g px_0
    · replace h := it_f h c_18
      refine wx_aload_n dX6_readProduct_21 rfl ?_
      refine wx_getI dX6_readProduct_22 fl_X6_57 (sc_20 hS) rfl ?_
      refine wx_bipush (v := 42) dX6_readProduct_25 (by decide) ?_
      refine wx_icmp_eq (tgt := 39) dX6_readProduct_27 (by decide) (fun c_27 => ?_) (fun c_27 => ?_)
      · replace h := it_t h c_27
        exact wx_sub (so_X6_readProduct_39 h_X6_readSum hS hd hdr hcu hsu h g) (px_s rfl (px_s rfl px_0))
      · replace h := it_f h c_27
        refine wx_aload_n dX6_readProduct_30 rfl ?_
        refine wx_getI dX6_readProduct_31 fl_X6_57 (sc_20 hS) rfl ?_
        refine wx_bipush (v := 47) dX6_readProduct_34 (by decide) ?_
        refine wx_icmp_ne (tgt := 67) dX6_readProduct_36 (by decide) (fun c_36 => ?_) (fun c_36 => ?_)
        · replace h := it_f h c_36
          obtain rfl := Option.some.inj h
          replace g := sE_r g
          exact wx_sub g px_0
        · replace h := it_t h c_36
          exact wx_sub (so_X6_readProduct_39 h_X6_readSum hS hd hdr hcu hsu h g) (px_s rfl (px_s rfl px_0))
theorem so_X6_readProduct_6 {dr : Nat} {r_X6_readSum : px_Sh → px_M → px_R → Option (px_M)} {x1 : Int32} {M : px_M} {L : px_L} {R : px_R} {e : (px_M)} (h_X6_readSum : ∀ {d : Nat} {X : Nat × (Nat → Int32)} {sh : px_Sh} {M : px_M} {L : px_L} {R : px_R} {n : Nat} {e : px_M}, SR sh R → dr ≤ d → r_X6_readSum sh M R = some e → MX yX6_readSum cX6_readSum 3 none d 0 0 X [.ref 20] sh M L R n (px_pu none sh e L R n)) (hS : SR sh R) (hd : 9 ≤ d) (hdr : dr + 3 ≤ d) (hcu : cu ≤ mc) (hsu : su ≤ ms) (h : lpf (fun a : Int32 × px_M => o_X6_readProduct_6 r_X6_readSum sh a.2 R a.1) (x1, M) = some e) (g : WX RX6 cX6_readProduct 3 none ("readProduct", []) d mc ms X (px_QF Post mc ms) 67 [] [] sh e L R n cu su) : WX RX6 cX6_readProduct 3 none ("readProduct", []) d mc ms X (px_QF Post mc ms) 6 [(0, .ref 20), (1, .int x1)] [] sh M L R n cu su := by
  have key := lpf_wp (P := (fun a => WX RX6 cX6_readProduct 3 none ("readProduct", []) d mc ms X (px_QF Post mc ms) 6 [(0, .ref 20), (1, .int a.1)] [] sh (a.2) L R n cu su)) (G := (fun t => WX RX6 cX6_readProduct 3 none ("readProduct", []) d mc ms X (px_QF Post mc ms) 67 [] [] sh t L R n cu su)) (fun a r h g => so_X6_readProduct_6b (x1 := a.1) (M := a.2) (L := L) (R := R) h_X6_readSum hS hd hdr hcu hsu h g) (a := (x1, M)) h g
  exact key
noncomputable def o_X6_readProduct (r_X6_readSum : px_Sh → px_M → px_R → Option (px_M)) (sh : px_Sh) (M : px_M) (R : px_R) : Option (px_M) :=
  bd1 (o_X6_readUnit r_X6_readSum sh M R) fun e_1 =>
  bd1 (lpf (fun a : Int32 × px_M => o_X6_readProduct_6 r_X6_readSum sh a.2 R a.1) (0, e_1)) fun e_6 =>
  some e_6
theorem so_X6_readProduct {dr : Nat} {r_X6_readSum : px_Sh → px_M → px_R → Option (px_M)} {d : Nat} {X : Nat × (Nat → Int32)} {sh : px_Sh} {M : px_M} {L : px_L} {R : px_R} {n : Nat} {e : px_M} (h_X6_readSum : ∀ {d : Nat} {X : Nat × (Nat → Int32)} {sh : px_Sh} {M : px_M} {L : px_L} {R : px_R} {n : Nat} {e : px_M}, SR sh R → dr ≤ d → r_X6_readSum sh M R = some e → MX yX6_readSum cX6_readSum 3 none d 0 0 X [.ref 20] sh M L R n (px_pu none sh e L R n)) (hS : SR sh R) (hd : 9 ≤ d) (hdr : dr + 3 ≤ d) (h : o_X6_readProduct r_X6_readSum sh M R = some e) : MX yX6_readProduct cX6_readProduct 3 none d 0 0 X [.ref 20] sh M L R n (px_pu none sh e L R n) := by
  refine MX.of (by decide +kernel) (by exact Nat.le_of_ble_eq_true rfl) ?_
  have hcu : 0 ≤ 0 := Nat.zero_le _
  have hsu : 0 ≤ 0 := Nat.zero_le _
  have g : px_pu none sh e L R n none sh e L R n := ⟨rfl, rfl, rfl, rfl, rfl, rfl⟩
  unfold o_X6_readProduct at h
  refine wx_aload_n dX6_readProduct_0 rfl ?_
  obtain ⟨e_1, k_1, h⟩ := bd1_some h
  refine wx_cVv dX6_readProduct_1 ml_X6_103 my_X6_readUnit iv_X6_readUnit (sc_20 hS) (by decide) (so_X6_readUnit (d := d - 1) h_X6_readSum hS (by omega) (by omega) k_1) rfl (by omega) (by exact Nat.le_of_ble_eq_true rfl) hcu hsu ?_
  refine wx_iconst (v := 0) dX6_readProduct_4 (by decide) ?_
  refine wx_istore_n (lv' := [(1, _), (0, _)]) dX6_readProduct_5 (by decide) rfl ?_
  obtain ⟨e_6, k_6, h⟩ := bd1_some h
  refine wx_sub (so_X6_readProduct_6 h_X6_readSum hS hd hdr hcu hsu k_6 ?_) (px_s rfl (px_s rfl px_0))
  refine wx_vret dX6_readProduct_67 hcu hsu ?_
  obtain rfl := Option.some.inj h
  exact g
noncomputable def o_X6_readSum_39 (r_X6_readSum : px_Sh → px_M → px_R → Option (px_M)) (sh : px_Sh) (M : px_M) (R : px_R) (x1 : Int32) : Option ((Int32 × px_M) ⊕ (px_M)) :=
  nm (M 20 5) fun v_43 =>
  bd1 (f_X6_scan M) fun e_45 =>
  bd1 (o_X6_readProduct r_X6_readSum sh e_45 R) fun e_49 =>
  bd1 (R 20 10) fun b_53 =>
  ok (hk sh b_53 7) <|
  bd1 (f_X7_add sh e_49 R b_53 (-v_43)) fun e_58 =>
  some (.inl ((x1 + 1), e_58))
theorem so_X6_readSum_39 {dr : Nat} {r_X6_readSum : px_Sh → px_M → px_R → Option (px_M)} {x1 : Int32} {M : px_M} {L : px_L} {R : px_R} {e : ((Int32 × px_M) ⊕ (px_M))} (h_X6_readSum : ∀ {d : Nat} {X : Nat × (Nat → Int32)} {sh : px_Sh} {M : px_M} {L : px_L} {R : px_R} {n : Nat} {e : px_M}, SR sh R → dr ≤ d → r_X6_readSum sh M R = some e → MX yX6_readSum cX6_readSum 3 none d 0 0 X [.ref 20] sh M L R n (px_pu none sh e L R n)) (hS : SR sh R) (hd : 10 ≤ d) (hdr : dr + 4 ≤ d) (hcu : cu ≤ mc) (hsu : su ≤ ms) (h : o_X6_readSum_39 r_X6_readSum sh M R x1 = some e) (g : (sE (fun a => WX RX6 cX6_readSum 3 none ("readSum", []) d mc ms X (px_QF Post mc ms) 6 [(0, .ref 20), (1, .int a.1)] [] sh (a.2) L R n cu su) (fun t => WX RX6 cX6_readSum 3 none ("readSum", []) d mc ms X (px_QF Post mc ms) 67 [] [] sh t L R n cu su)) e) : WX RX6 cX6_readSum 3 none ("readSum", []) d mc ms X (px_QF Post mc ms) 39 [(0, .ref 20), (1, .int x1)] [] sh M L R n cu su := by
  unfold o_X6_readSum_39 at h
  refine wx_aload_n dX6_readSum_39 rfl ?_
  refine wx_getI dX6_readSum_40 fl_X6_57 (sc_20 hS) rfl ?_
  refine wx_nami (fun v_43 q_43 => ?_)
  replace h := nm_at h q_43
  refine wx_istore_n (lv' := [(2, _), (0, _), (1, _)]) dX6_readSum_43 (by decide) rfl ?_
  refine wx_aload_n dX6_readSum_44 rfl ?_
  obtain ⟨e_45, k_45, h⟩ := bd1_some h
  refine wx_cVv dX6_readSum_45 ml_X6_50 my_X6_scan iv_X6_scan (sc_20 hS) (by decide) (s_X6_scan (d := d - 1) hS (by omega) k_45) rfl (by omega) (by exact Nat.le_of_ble_eq_true rfl) hcu hsu ?_
  refine wx_aload_n dX6_readSum_48 rfl ?_
  obtain ⟨e_49, k_49, h⟩ := bd1_some h
  refine wx_cVv dX6_readSum_49 ml_X6_100 my_X6_readProduct iv_X6_readProduct (sc_20 hS) (by decide) (so_X6_readProduct (d := d - 1) h_X6_readSum hS (by omega) (by omega) k_49) rfl (by omega) (by exact Nat.le_of_ble_eq_true rfl) hcu hsu ?_
  refine wx_aload_n dX6_readSum_52 rfl ?_
  obtain ⟨b_53, w_53, h⟩ := bd1_some h
  refine wx_getR dX6_readSum_53 fl_X6_22 (sc_20 hS) rfl w_53 ?_
  refine wx_iload_n dX6_readSum_56 rfl ?_
  refine wx_ineg dX6_readSum_57 ?_
  obtain ⟨ws_58, h⟩ := ok_some h
  obtain ⟨ln_58, wt_58⟩ := hk_some ws_58
  obtain ⟨e_58, k_58, h⟩ := bd1_some h
  refine wx_cVv dX6_readSum_58 ml_X6_85 my_X7_add iv_X7_add wt_58 (by decide) (s_X7_add (d := d - 1) hS (by omega) k_58) rfl (by omega) (by exact Nat.le_of_ble_eq_true rfl) hcu hsu ?_
  refine wx_iinc (lv' := [(1, _), (2, _), (0, _)]) dX6_readSum_61 rfl (i_1 _) (by decide) rfl ?_
  refine wx_goto (tgt := 6) dX6_readSum_64 (by decide) ?_
  obtain rfl := Option.some.inj h
  replace g := sE_l g
  exact wx_sub g (px_s rfl (px_s rfl px_0))
noncomputable def o_X6_readSum_6 (r_X6_readSum : px_Sh → px_M → px_R → Option (px_M)) (sh : px_Sh) (M : px_M) (R : px_R) (x1 : Int32) : Option ((Int32 × px_M) ⊕ (px_M)) :=
  if (M 20 2) ≤ x1 then
    some (.inr M)
  else
    bd1 (f_X6_goesOn M) fun e_15 =>
    if e_15 = 0 then
      some (.inr M)
    else
      if (M 20 5) = 43 then
        o_X6_readSum_39 r_X6_readSum sh M R x1
      else
        if (M 20 5) = 45 then
          o_X6_readSum_39 r_X6_readSum sh M R x1
        else
          some (.inr M)
theorem so_X6_readSum_6b {dr : Nat} {r_X6_readSum : px_Sh → px_M → px_R → Option (px_M)} {x1 : Int32} {M : px_M} {L : px_L} {R : px_R} {e : ((Int32 × px_M) ⊕ (px_M))} (h_X6_readSum : ∀ {d : Nat} {X : Nat × (Nat → Int32)} {sh : px_Sh} {M : px_M} {L : px_L} {R : px_R} {n : Nat} {e : px_M}, SR sh R → dr ≤ d → r_X6_readSum sh M R = some e → MX yX6_readSum cX6_readSum 3 none d 0 0 X [.ref 20] sh M L R n (px_pu none sh e L R n)) (hS : SR sh R) (hd : 10 ≤ d) (hdr : dr + 4 ≤ d) (hcu : cu ≤ mc) (hsu : su ≤ ms) (h : o_X6_readSum_6 r_X6_readSum sh M R x1 = some e) (g : (sE (fun a => WX RX6 cX6_readSum 3 none ("readSum", []) d mc ms X (px_QF Post mc ms) 6 [(0, .ref 20), (1, .int a.1)] [] sh (a.2) L R n cu su) (fun t => WX RX6 cX6_readSum 3 none ("readSum", []) d mc ms X (px_QF Post mc ms) 67 [] [] sh t L R n cu su)) e) : WX RX6 cX6_readSum 3 none ("readSum", []) d mc ms X (px_QF Post mc ms) 6 [(0, .ref 20), (1, .int x1)] [] sh M L R n cu su := by
  unfold o_X6_readSum_6 at h
  refine wx_iload_n dX6_readSum_6 rfl ?_
  refine wx_aload_n dX6_readSum_7 rfl ?_
  refine wx_getI dX6_readSum_8 fl_X6_35 (sc_20 hS) rfl ?_
  refine wx_icmp_ge (tgt := 67) dX6_readSum_11 (by decide) (fun c_11 => ?_) (fun c_11 => ?_)
  · replace h := it_t h c_11
    obtain rfl := Option.some.inj h
    replace g := sE_r g
    exact wx_sub g px_0
  · replace h := it_f h c_11
    refine wx_aload_n dX6_readSum_14 rfl ?_
    obtain ⟨e_15, k_15, h⟩ := bd1_some h
    refine wx_cVi dX6_readSum_15 ml_X6_53 my_X6_goesOn iv_X6_goesOn (sc_20 hS) (by decide) (s_X6_goesOn (d := d - 1) hS (by omega) k_15) rfl (by omega) (by exact Nat.le_of_ble_eq_true rfl) hcu hsu ?_
    refine wx_if_eq (tgt := 67) dX6_readSum_18 (by decide) (fun c_18 => ?_) (fun c_18 => ?_)
    · replace h := it_t h c_18
      obtain rfl := Option.some.inj h
      replace g := sE_r g
      exact wx_sub g px_0
    · replace h := it_f h c_18
      refine wx_aload_n dX6_readSum_21 rfl ?_
      refine wx_getI dX6_readSum_22 fl_X6_57 (sc_20 hS) rfl ?_
      refine wx_bipush (v := 43) dX6_readSum_25 (by decide) ?_
      refine wx_icmp_eq (tgt := 39) dX6_readSum_27 (by decide) (fun c_27 => ?_) (fun c_27 => ?_)
      · replace h := it_t h c_27
        exact wx_sub (so_X6_readSum_39 h_X6_readSum hS hd hdr hcu hsu h g) (px_s rfl (px_s rfl px_0))
      · replace h := it_f h c_27
        refine wx_aload_n dX6_readSum_30 rfl ?_
        refine wx_getI dX6_readSum_31 fl_X6_57 (sc_20 hS) rfl ?_
        refine wx_bipush (v := 45) dX6_readSum_34 (by decide) ?_
        refine wx_icmp_ne (tgt := 67) dX6_readSum_36 (by decide) (fun c_36 => ?_) (fun c_36 => ?_)
        · replace h := it_f h c_36
          obtain rfl := Option.some.inj h
          replace g := sE_r g
          exact wx_sub g px_0
        · replace h := it_t h c_36
          exact wx_sub (so_X6_readSum_39 h_X6_readSum hS hd hdr hcu hsu h g) (px_s rfl (px_s rfl px_0))
theorem so_X6_readSum_6 {dr : Nat} {r_X6_readSum : px_Sh → px_M → px_R → Option (px_M)} {x1 : Int32} {M : px_M} {L : px_L} {R : px_R} {e : (px_M)} (h_X6_readSum : ∀ {d : Nat} {X : Nat × (Nat → Int32)} {sh : px_Sh} {M : px_M} {L : px_L} {R : px_R} {n : Nat} {e : px_M}, SR sh R → dr ≤ d → r_X6_readSum sh M R = some e → MX yX6_readSum cX6_readSum 3 none d 0 0 X [.ref 20] sh M L R n (px_pu none sh e L R n)) (hS : SR sh R) (hd : 10 ≤ d) (hdr : dr + 4 ≤ d) (hcu : cu ≤ mc) (hsu : su ≤ ms) (h : lpf (fun a : Int32 × px_M => o_X6_readSum_6 r_X6_readSum sh a.2 R a.1) (x1, M) = some e) (g : WX RX6 cX6_readSum 3 none ("readSum", []) d mc ms X (px_QF Post mc ms) 67 [] [] sh e L R n cu su) : WX RX6 cX6_readSum 3 none ("readSum", []) d mc ms X (px_QF Post mc ms) 6 [(0, .ref 20), (1, .int x1)] [] sh M L R n cu su := by
  have key := lpf_wp (P := (fun a => WX RX6 cX6_readSum 3 none ("readSum", []) d mc ms X (px_QF Post mc ms) 6 [(0, .ref 20), (1, .int a.1)] [] sh (a.2) L R n cu su)) (G := (fun t => WX RX6 cX6_readSum 3 none ("readSum", []) d mc ms X (px_QF Post mc ms) 67 [] [] sh t L R n cu su)) (fun a r h g => so_X6_readSum_6b (x1 := a.1) (M := a.2) (L := L) (R := R) h_X6_readSum hS hd hdr hcu hsu h g) (a := (x1, M)) h g
  exact key
noncomputable def o_X6_readSum (r_X6_readSum : px_Sh → px_M → px_R → Option (px_M)) (sh : px_Sh) (M : px_M) (R : px_R) : Option (px_M) :=
  bd1 (o_X6_readProduct r_X6_readSum sh M R) fun e_1 =>
  bd1 (lpf (fun a : Int32 × px_M => o_X6_readSum_6 r_X6_readSum sh a.2 R a.1) (0, e_1)) fun e_6 =>
  some e_6
theorem so_X6_readSum {dr : Nat} {r_X6_readSum : px_Sh → px_M → px_R → Option (px_M)} {d : Nat} {X : Nat × (Nat → Int32)} {sh : px_Sh} {M : px_M} {L : px_L} {R : px_R} {n : Nat} {e : px_M} (h_X6_readSum : ∀ {d : Nat} {X : Nat × (Nat → Int32)} {sh : px_Sh} {M : px_M} {L : px_L} {R : px_R} {n : Nat} {e : px_M}, SR sh R → dr ≤ d → r_X6_readSum sh M R = some e → MX yX6_readSum cX6_readSum 3 none d 0 0 X [.ref 20] sh M L R n (px_pu none sh e L R n)) (hS : SR sh R) (hd : 10 ≤ d) (hdr : dr + 4 ≤ d) (h : o_X6_readSum r_X6_readSum sh M R = some e) : MX yX6_readSum cX6_readSum 3 none d 0 0 X [.ref 20] sh M L R n (px_pu none sh e L R n) := by
  refine MX.of (by decide +kernel) (by exact Nat.le_of_ble_eq_true rfl) ?_
  have hcu : 0 ≤ 0 := Nat.zero_le _
  have hsu : 0 ≤ 0 := Nat.zero_le _
  have g : px_pu none sh e L R n none sh e L R n := ⟨rfl, rfl, rfl, rfl, rfl, rfl⟩
  unfold o_X6_readSum at h
  refine wx_aload_n dX6_readSum_0 rfl ?_
  obtain ⟨e_1, k_1, h⟩ := bd1_some h
  refine wx_cVv dX6_readSum_1 ml_X6_100 my_X6_readProduct iv_X6_readProduct (sc_20 hS) (by decide) (so_X6_readProduct (d := d - 1) h_X6_readSum hS (by omega) (by omega) k_1) rfl (by omega) (by exact Nat.le_of_ble_eq_true rfl) hcu hsu ?_
  refine wx_iconst (v := 0) dX6_readSum_4 (by decide) ?_
  refine wx_istore_n (lv' := [(1, _), (0, _)]) dX6_readSum_5 (by decide) rfl ?_
  obtain ⟨e_6, k_6, h⟩ := bd1_some h
  refine wx_sub (so_X6_readSum_6 h_X6_readSum hS hd hdr hcu hsu k_6 ?_) (px_s rfl (px_s rfl px_0))
  refine wx_vret dX6_readSum_67 hcu hsu ?_
  obtain rfl := Option.some.inj h
  exact g
noncomputable def k_X6_readSum : Nat → px_Sh → px_M → px_R → Option (px_M)
  | 0 => fun _ _ _ => none
  | k + 1 => fun sh M R => o_X6_readSum (k_X6_readSum k) sh M R
theorem sk_X6_readSum : ∀ (k : Nat) {d : Nat} {X : Nat × (Nat → Int32)} {sh : px_Sh} {M : px_M} {L : px_L} {R : px_R} {n : Nat} {e : px_M}, SR sh R → 10 + 4 * k ≤ d → k_X6_readSum k sh M R = some e → MX yX6_readSum cX6_readSum 3 none d 0 0 X [.ref 20] sh M L R n (px_pu none sh e L R n)
  | 0, _, _, _, _, _, _, _, _, _, _, h => by cases h
  | k + 1, d, X, sh, M, L, R, n, e, hS, hd, h => so_X6_readSum (dr := 10 + 4 * k) (r_X6_readSum := k_X6_readSum k) (fun hS hd h => sk_X6_readSum k hS hd h) hS (by omega) (by omega) h
noncomputable def f_X6_readSum (sh : px_Sh) (M : px_M) (R : px_R) : Option (px_M) := k_X6_readSum 9 sh M R
theorem s_X6_readSum {d : Nat} {X : Nat × (Nat → Int32)} {sh : px_Sh} {M : px_M} {L : px_L} {R : px_R} {n : Nat} {e : px_M} (hS : SR sh R) (hd : 46 ≤ d) (h : f_X6_readSum sh M R = some e) : MX yX6_readSum cX6_readSum 3 none d 0 0 X [.ref 20] sh M L R n (px_pu none sh e L R n) := sk_X6_readSum 9 hS (by omega) h
noncomputable def f_X6_readPair (sh : px_Sh) (M : px_M) (R : px_R) (p1 : Int32) : Option (px_M) := o_X6_readPair f_X6_readSum sh M R p1
theorem s_X6_readPair {d : Nat} {X : Nat × (Nat → Int32)} {sh : px_Sh} {M : px_M} {L : px_L} {R : px_R} {n : Nat} {p1 : Int32} {e : px_M} (hS : SR sh R) (hd : 47 ≤ d) (h : f_X6_readPair sh M R p1 = some e) : MX yX6_readPair cX6_readPair 2 none d 0 0 X [.ref 20, .int p1] sh M L R n (px_pu none sh e L R n) := so_X6_readPair (dr := 46) (r_X6_readSum := f_X6_readSum) (fun hS hd h => s_X6_readSum hS hd h) hS (by omega) (by omega) h
noncomputable def f_X6_readUnit (sh : px_Sh) (M : px_M) (R : px_R) : Option (px_M) := o_X6_readUnit f_X6_readSum sh M R
theorem s_X6_readUnit {d : Nat} {X : Nat × (Nat → Int32)} {sh : px_Sh} {M : px_M} {L : px_L} {R : px_R} {n : Nat} {e : px_M} (hS : SR sh R) (hd : 48 ≤ d) (h : f_X6_readUnit sh M R = some e) : MX yX6_readUnit cX6_readUnit 1 none d 0 0 X [.ref 20] sh M L R n (px_pu none sh e L R n) := so_X6_readUnit (dr := 46) (r_X6_readSum := f_X6_readSum) (fun hS hd h => s_X6_readSum hS hd h) hS (by omega) (by omega) h
noncomputable def f_X6_readProduct (sh : px_Sh) (M : px_M) (R : px_R) : Option (px_M) := o_X6_readProduct f_X6_readSum sh M R
theorem s_X6_readProduct {d : Nat} {X : Nat × (Nat → Int32)} {sh : px_Sh} {M : px_M} {L : px_L} {R : px_R} {n : Nat} {e : px_M} (hS : SR sh R) (hd : 49 ≤ d) (h : f_X6_readProduct sh M R = some e) : MX yX6_readProduct cX6_readProduct 3 none d 0 0 X [.ref 20] sh M L R n (px_pu none sh e L R n) := so_X6_readProduct (dr := 46) (r_X6_readSum := f_X6_readSum) (fun hS hd h => s_X6_readSum hS hd h) hS (by omega) (by omega) h
noncomputable def f_X6_demandComparing_46 (M : px_M) : Option (px_M) :=
  some M
theorem s_X6_demandComparing_46 {M : px_M} {L : px_L} {R : px_R} {e : (px_M)} (hS : SR sh R) (hd : 6 ≤ d) (hcu : cu ≤ mc) (hsu : su ≤ ms) (h : f_X6_demandComparing_46 M = some e) (g : Post none sh e L R n) : WX RX6 cX6_demandComparing 1 none ("demandComparing", []) d mc ms X (px_QF Post mc ms) 46 [] [] sh M L R n cu su := by
  unfold f_X6_demandComparing_46 at h
  refine wx_vret dX6_demandComparing_46 hcu hsu ?_
  obtain rfl := Option.some.inj h
  exact g
noncomputable def f_X6_demandComparing_35 (M : px_M) : Option (px_M) :=
  bd1 (f_X6_goesOn M) fun e_36 =>
  if e_36 = 0 then
    f_X6_demandComparing_46 M
  else
    bd1 (f_X6_scan M) fun e_43 =>
    f_X6_demandComparing_46 e_43
theorem s_X6_demandComparing_35 {M : px_M} {L : px_L} {R : px_R} {e : (px_M)} (hS : SR sh R) (hd : 6 ≤ d) (hcu : cu ≤ mc) (hsu : su ≤ ms) (h : f_X6_demandComparing_35 M = some e) (g : Post none sh e L R n) : WX RX6 cX6_demandComparing 1 none ("demandComparing", []) d mc ms X (px_QF Post mc ms) 35 [(0, .ref 20)] [] sh M L R n cu su := by
  unfold f_X6_demandComparing_35 at h
  refine wx_aload_n dX6_demandComparing_35 rfl ?_
  obtain ⟨e_36, k_36, h⟩ := bd1_some h
  refine wx_cVi dX6_demandComparing_36 ml_X6_53 my_X6_goesOn iv_X6_goesOn (sc_20 hS) (by decide) (s_X6_goesOn (d := d - 1) hS (by omega) k_36) rfl (by omega) (by exact Nat.le_of_ble_eq_true rfl) hcu hsu ?_
  refine wx_if_eq (tgt := 46) dX6_demandComparing_39 (by decide) (fun c_39 => ?_) (fun c_39 => ?_)
  · replace h := it_t h c_39
    exact wx_sub (s_X6_demandComparing_46 hS hd hcu hsu h g) px_0
  · replace h := it_f h c_39
    refine wx_aload_n dX6_demandComparing_42 rfl ?_
    obtain ⟨e_43, k_43, h⟩ := bd1_some h
    refine wx_cVv dX6_demandComparing_43 ml_X6_50 my_X6_scan iv_X6_scan (sc_20 hS) (by decide) (s_X6_scan (d := d - 1) hS (by omega) k_43) rfl (by omega) (by exact Nat.le_of_ble_eq_true rfl) hcu hsu ?_
    exact wx_sub (s_X6_demandComparing_46 hS hd hcu hsu h g) px_0
noncomputable def f_X6_demandComparing (M : px_M) : Option (px_M) :=
  if (M 20 5) = 60 then
    f_X6_demandComparing_35 M
  else
    if (M 20 5) = 62 then
      f_X6_demandComparing_35 M
    else
      if (M 20 5) = 61 then
        f_X6_demandComparing_35 M
      else
        bd1 (f_X6_refuse M 1) fun e_29 =>
        f_X6_demandComparing_46 e_29
theorem s_X6_demandComparing {d : Nat} {X : Nat × (Nat → Int32)} {sh : px_Sh} {M : px_M} {L : px_L} {R : px_R} {n : Nat} {e : px_M} (hS : SR sh R) (hd : 6 ≤ d) (h : f_X6_demandComparing M = some e) : MX yX6_demandComparing cX6_demandComparing 1 none d 0 0 X [.ref 20] sh M L R n (px_pu none sh e L R n) := by
  refine MX.of (by decide +kernel) (by exact Nat.le_of_ble_eq_true rfl) ?_
  have hcu : 0 ≤ 0 := Nat.zero_le _
  have hsu : 0 ≤ 0 := Nat.zero_le _
  have g : px_pu none sh e L R n none sh e L R n := ⟨rfl, rfl, rfl, rfl, rfl, rfl⟩
  unfold f_X6_demandComparing at h
  refine wx_aload_n dX6_demandComparing_0 rfl ?_
  refine wx_getI dX6_demandComparing_1 fl_X6_57 (sc_20 hS) rfl ?_
  refine wx_bipush (v := 60) dX6_demandComparing_4 (by decide) ?_
  refine wx_icmp_eq (tgt := 35) dX6_demandComparing_6 (by decide) (fun c_6 => ?_) (fun c_6 => ?_)
  · replace h := it_t h c_6
    exact wx_sub (s_X6_demandComparing_35 hS hd hcu hsu h g) (px_s rfl px_0)
  · replace h := it_f h c_6
    refine wx_aload_n dX6_demandComparing_9 rfl ?_
    refine wx_getI dX6_demandComparing_10 fl_X6_57 (sc_20 hS) rfl ?_
    refine wx_bipush (v := 62) dX6_demandComparing_13 (by decide) ?_
    refine wx_icmp_eq (tgt := 35) dX6_demandComparing_15 (by decide) (fun c_15 => ?_) (fun c_15 => ?_)
    · replace h := it_t h c_15
      exact wx_sub (s_X6_demandComparing_35 hS hd hcu hsu h g) (px_s rfl px_0)
    · replace h := it_f h c_15
      refine wx_aload_n dX6_demandComparing_18 rfl ?_
      refine wx_getI dX6_demandComparing_19 fl_X6_57 (sc_20 hS) rfl ?_
      refine wx_bipush (v := 61) dX6_demandComparing_22 (by decide) ?_
      refine wx_icmp_eq (tgt := 35) dX6_demandComparing_24 (by decide) (fun c_24 => ?_) (fun c_24 => ?_)
      · replace h := it_t h c_24
        exact wx_sub (s_X6_demandComparing_35 hS hd hcu hsu h g) (px_s rfl px_0)
      · replace h := it_f h c_24
        refine wx_aload_n dX6_demandComparing_27 rfl ?_
        refine wx_iconst (v := 1) dX6_demandComparing_28 (by decide) ?_
        obtain ⟨e_29, k_29, h⟩ := bd1_some h
        refine wx_cVv dX6_demandComparing_29 ml_X6_66 my_X6_refuse iv_X6_refuse (sc_20 hS) (by decide) (s_X6_refuse (d := d - 1) hS (by omega) k_29) rfl (by omega) (by exact Nat.le_of_ble_eq_true rfl) hcu hsu ?_
        refine wx_goto (tgt := 46) dX6_demandComparing_32 (by decide) ?_
        exact wx_sub (s_X6_demandComparing_46 hS hd hcu hsu h g) px_0
noncomputable def o_X6_readBoth_6 (r_X6_readTest : px_Sh → px_M → px_R → Option (px_M)) (sh : px_Sh) (M : px_M) (R : px_R) (x1 : Int32) : Option ((Int32 × px_M) ⊕ (px_M)) :=
  if (M 20 2) ≤ x1 then
    some (.inr M)
  else
    bd1 (f_X6_goesOn M) fun e_15 =>
    if e_15 = 0 then
      some (.inr M)
    else
      if (M 20 5) = 305 then
        bd1 (f_X6_scan M) fun e_32 =>
        bd1 (r_X6_readTest sh e_32 R) fun e_36 =>
        bd1 (R 20 10) fun b_40 =>
        ok (hk sh b_40 7) <|
        bd1 (f_X7_add sh e_36 R b_40 (-305)) fun e_46 =>
        some (.inl ((x1 + 1), e_46))
      else
        some (.inr M)
theorem so_X6_readBoth_6b {dr : Nat} {r_X6_readTest : px_Sh → px_M → px_R → Option (px_M)} {x1 : Int32} {M : px_M} {L : px_L} {R : px_R} {e : ((Int32 × px_M) ⊕ (px_M))} (h_X6_readTest : ∀ {d : Nat} {X : Nat × (Nat → Int32)} {sh : px_Sh} {M : px_M} {L : px_L} {R : px_R} {n : Nat} {e : px_M}, SR sh R → dr ≤ d → r_X6_readTest sh M R = some e → MX yX6_readTest cX6_readTest 2 none d 0 0 X [.ref 20] sh M L R n (px_pu none sh e L R n)) (hS : SR sh R) (hd : 6 ≤ d) (hdr : dr + 1 ≤ d) (hcu : cu ≤ mc) (hsu : su ≤ ms) (h : o_X6_readBoth_6 r_X6_readTest sh M R x1 = some e) (g : (sE (fun a => WX RX6 cX6_readBoth 2 none ("readBoth", []) d mc ms X (px_QF Post mc ms) 6 [(0, .ref 20), (1, .int a.1)] [] sh (a.2) L R n cu su) (fun t => WX RX6 cX6_readBoth 2 none ("readBoth", []) d mc ms X (px_QF Post mc ms) 55 [] [] sh t L R n cu su)) e) : WX RX6 cX6_readBoth 2 none ("readBoth", []) d mc ms X (px_QF Post mc ms) 6 [(0, .ref 20), (1, .int x1)] [] sh M L R n cu su := by
  unfold o_X6_readBoth_6 at h
  refine wx_iload_n dX6_readBoth_6 rfl ?_
  refine wx_aload_n dX6_readBoth_7 rfl ?_
  refine wx_getI dX6_readBoth_8 fl_X6_35 (sc_20 hS) rfl ?_
  refine wx_icmp_ge (tgt := 55) dX6_readBoth_11 (by decide) (fun c_11 => ?_) (fun c_11 => ?_)
  · replace h := it_t h c_11
    obtain rfl := Option.some.inj h
    replace g := sE_r g
    exact wx_sub g px_0
  · replace h := it_f h c_11
    refine wx_aload_n dX6_readBoth_14 rfl ?_
    obtain ⟨e_15, k_15, h⟩ := bd1_some h
    refine wx_cVi dX6_readBoth_15 ml_X6_53 my_X6_goesOn iv_X6_goesOn (sc_20 hS) (by decide) (s_X6_goesOn (d := d - 1) hS (by omega) k_15) rfl (by omega) (by exact Nat.le_of_ble_eq_true rfl) hcu hsu ?_
    refine wx_if_eq (tgt := 55) dX6_readBoth_18 (by decide) (fun c_18 => ?_) (fun c_18 => ?_)
    · replace h := it_t h c_18
      obtain rfl := Option.some.inj h
      replace g := sE_r g
      exact wx_sub g px_0
    · replace h := it_f h c_18
      refine wx_aload_n dX6_readBoth_21 rfl ?_
      refine wx_getI dX6_readBoth_22 fl_X6_57 (sc_20 hS) rfl ?_
      refine wx_sipush (v := 305) dX6_readBoth_25 (by decide) ?_
      refine wx_icmp_ne (tgt := 55) dX6_readBoth_28 (by decide) (fun c_28 => ?_) (fun c_28 => ?_)
      · replace h := it_f h c_28
        obtain rfl := Option.some.inj h
        replace g := sE_r g
        exact wx_sub g px_0
      · replace h := it_t h c_28
        refine wx_aload_n dX6_readBoth_31 rfl ?_
        obtain ⟨e_32, k_32, h⟩ := bd1_some h
        refine wx_cVv dX6_readBoth_32 ml_X6_50 my_X6_scan iv_X6_scan (sc_20 hS) (by decide) (s_X6_scan (d := d - 1) hS (by omega) k_32) rfl (by omega) (by exact Nat.le_of_ble_eq_true rfl) hcu hsu ?_
        refine wx_aload_n dX6_readBoth_35 rfl ?_
        obtain ⟨e_36, k_36, h⟩ := bd1_some h
        refine wx_cVv dX6_readBoth_36 ml_X6_88 my_X6_readTest iv_X6_readTest (sc_20 hS) (by decide) (h_X6_readTest (d := d - 1) hS (by omega) k_36) rfl (by omega) (by exact Nat.le_of_ble_eq_true rfl) hcu hsu ?_
        refine wx_aload_n dX6_readBoth_39 rfl ?_
        obtain ⟨b_40, w_40, h⟩ := bd1_some h
        refine wx_getR dX6_readBoth_40 fl_X6_22 (sc_20 hS) rfl w_40 ?_
        refine wx_sipush (v := (-305)) dX6_readBoth_43 (by decide) ?_
        obtain ⟨ws_46, h⟩ := ok_some h
        obtain ⟨ln_46, wt_46⟩ := hk_some ws_46
        obtain ⟨e_46, k_46, h⟩ := bd1_some h
        refine wx_cVv dX6_readBoth_46 ml_X6_85 my_X7_add iv_X7_add wt_46 (by decide) (s_X7_add (d := d - 1) hS (by omega) k_46) rfl (by omega) (by exact Nat.le_of_ble_eq_true rfl) hcu hsu ?_
        refine wx_iinc (lv' := [(1, _), (0, _)]) dX6_readBoth_49 rfl (i_1 _) (by decide) rfl ?_
        refine wx_goto (tgt := 6) dX6_readBoth_52 (by decide) ?_
        obtain rfl := Option.some.inj h
        replace g := sE_l g
        exact wx_sub g (px_s rfl (px_s rfl px_0))
theorem so_X6_readBoth_6 {dr : Nat} {r_X6_readTest : px_Sh → px_M → px_R → Option (px_M)} {x1 : Int32} {M : px_M} {L : px_L} {R : px_R} {e : (px_M)} (h_X6_readTest : ∀ {d : Nat} {X : Nat × (Nat → Int32)} {sh : px_Sh} {M : px_M} {L : px_L} {R : px_R} {n : Nat} {e : px_M}, SR sh R → dr ≤ d → r_X6_readTest sh M R = some e → MX yX6_readTest cX6_readTest 2 none d 0 0 X [.ref 20] sh M L R n (px_pu none sh e L R n)) (hS : SR sh R) (hd : 6 ≤ d) (hdr : dr + 1 ≤ d) (hcu : cu ≤ mc) (hsu : su ≤ ms) (h : lpf (fun a : Int32 × px_M => o_X6_readBoth_6 r_X6_readTest sh a.2 R a.1) (x1, M) = some e) (g : WX RX6 cX6_readBoth 2 none ("readBoth", []) d mc ms X (px_QF Post mc ms) 55 [] [] sh e L R n cu su) : WX RX6 cX6_readBoth 2 none ("readBoth", []) d mc ms X (px_QF Post mc ms) 6 [(0, .ref 20), (1, .int x1)] [] sh M L R n cu su := by
  have key := lpf_wp (P := (fun a => WX RX6 cX6_readBoth 2 none ("readBoth", []) d mc ms X (px_QF Post mc ms) 6 [(0, .ref 20), (1, .int a.1)] [] sh (a.2) L R n cu su)) (G := (fun t => WX RX6 cX6_readBoth 2 none ("readBoth", []) d mc ms X (px_QF Post mc ms) 55 [] [] sh t L R n cu su)) (fun a r h g => so_X6_readBoth_6b (x1 := a.1) (M := a.2) (L := L) (R := R) h_X6_readTest hS hd hdr hcu hsu h g) (a := (x1, M)) h g
  exact key
noncomputable def o_X6_readBoth (r_X6_readTest : px_Sh → px_M → px_R → Option (px_M)) (sh : px_Sh) (M : px_M) (R : px_R) : Option (px_M) :=
  bd1 (r_X6_readTest sh M R) fun e_1 =>
  bd1 (lpf (fun a : Int32 × px_M => o_X6_readBoth_6 r_X6_readTest sh a.2 R a.1) (0, e_1)) fun e_6 =>
  some e_6
theorem so_X6_readBoth {dr : Nat} {r_X6_readTest : px_Sh → px_M → px_R → Option (px_M)} {d : Nat} {X : Nat × (Nat → Int32)} {sh : px_Sh} {M : px_M} {L : px_L} {R : px_R} {n : Nat} {e : px_M} (h_X6_readTest : ∀ {d : Nat} {X : Nat × (Nat → Int32)} {sh : px_Sh} {M : px_M} {L : px_L} {R : px_R} {n : Nat} {e : px_M}, SR sh R → dr ≤ d → r_X6_readTest sh M R = some e → MX yX6_readTest cX6_readTest 2 none d 0 0 X [.ref 20] sh M L R n (px_pu none sh e L R n)) (hS : SR sh R) (hd : 6 ≤ d) (hdr : dr + 1 ≤ d) (h : o_X6_readBoth r_X6_readTest sh M R = some e) : MX yX6_readBoth cX6_readBoth 2 none d 0 0 X [.ref 20] sh M L R n (px_pu none sh e L R n) := by
  refine MX.of (by decide +kernel) (by exact Nat.le_of_ble_eq_true rfl) ?_
  have hcu : 0 ≤ 0 := Nat.zero_le _
  have hsu : 0 ≤ 0 := Nat.zero_le _
  have g : px_pu none sh e L R n none sh e L R n := ⟨rfl, rfl, rfl, rfl, rfl, rfl⟩
  unfold o_X6_readBoth at h
  refine wx_aload_n dX6_readBoth_0 rfl ?_
  obtain ⟨e_1, k_1, h⟩ := bd1_some h
  refine wx_cVv dX6_readBoth_1 ml_X6_88 my_X6_readTest iv_X6_readTest (sc_20 hS) (by decide) (h_X6_readTest (d := d - 1) hS (by omega) k_1) rfl (by omega) (by exact Nat.le_of_ble_eq_true rfl) hcu hsu ?_
  refine wx_iconst (v := 0) dX6_readBoth_4 (by decide) ?_
  refine wx_istore_n (lv' := [(1, _), (0, _)]) dX6_readBoth_5 (by decide) rfl ?_
  obtain ⟨e_6, k_6, h⟩ := bd1_some h
  refine wx_sub (so_X6_readBoth_6 h_X6_readTest hS hd hdr hcu hsu k_6 ?_) (px_s rfl (px_s rfl px_0))
  refine wx_vret dX6_readBoth_55 hcu hsu ?_
  obtain rfl := Option.some.inj h
  exact g
noncomputable def o_X6_readChoice_6 (r_X6_readTest : px_Sh → px_M → px_R → Option (px_M)) (sh : px_Sh) (M : px_M) (R : px_R) (x1 : Int32) : Option ((Int32 × px_M) ⊕ (px_M)) :=
  if (M 20 2) ≤ x1 then
    some (.inr M)
  else
    bd1 (f_X6_goesOn M) fun e_15 =>
    if e_15 = 0 then
      some (.inr M)
    else
      if (M 20 5) = 304 then
        bd1 (f_X6_scan M) fun e_32 =>
        bd1 (o_X6_readBoth r_X6_readTest sh e_32 R) fun e_36 =>
        bd1 (R 20 10) fun b_40 =>
        ok (hk sh b_40 7) <|
        bd1 (f_X7_add sh e_36 R b_40 (-304)) fun e_46 =>
        some (.inl ((x1 + 1), e_46))
      else
        some (.inr M)
theorem so_X6_readChoice_6b {dr : Nat} {r_X6_readTest : px_Sh → px_M → px_R → Option (px_M)} {x1 : Int32} {M : px_M} {L : px_L} {R : px_R} {e : ((Int32 × px_M) ⊕ (px_M))} (h_X6_readTest : ∀ {d : Nat} {X : Nat × (Nat → Int32)} {sh : px_Sh} {M : px_M} {L : px_L} {R : px_R} {n : Nat} {e : px_M}, SR sh R → dr ≤ d → r_X6_readTest sh M R = some e → MX yX6_readTest cX6_readTest 2 none d 0 0 X [.ref 20] sh M L R n (px_pu none sh e L R n)) (hS : SR sh R) (hd : 7 ≤ d) (hdr : dr + 2 ≤ d) (hcu : cu ≤ mc) (hsu : su ≤ ms) (h : o_X6_readChoice_6 r_X6_readTest sh M R x1 = some e) (g : (sE (fun a => WX RX6 cX6_readChoice 2 none ("readChoice", []) d mc ms X (px_QF Post mc ms) 6 [(0, .ref 20), (1, .int a.1)] [] sh (a.2) L R n cu su) (fun t => WX RX6 cX6_readChoice 2 none ("readChoice", []) d mc ms X (px_QF Post mc ms) 55 [] [] sh t L R n cu su)) e) : WX RX6 cX6_readChoice 2 none ("readChoice", []) d mc ms X (px_QF Post mc ms) 6 [(0, .ref 20), (1, .int x1)] [] sh M L R n cu su := by
  unfold o_X6_readChoice_6 at h
  refine wx_iload_n dX6_readChoice_6 rfl ?_
  refine wx_aload_n dX6_readChoice_7 rfl ?_
  refine wx_getI dX6_readChoice_8 fl_X6_35 (sc_20 hS) rfl ?_
  refine wx_icmp_ge (tgt := 55) dX6_readChoice_11 (by decide) (fun c_11 => ?_) (fun c_11 => ?_)
  · replace h := it_t h c_11
    obtain rfl := Option.some.inj h
    replace g := sE_r g
    exact wx_sub g px_0
  · replace h := it_f h c_11
    refine wx_aload_n dX6_readChoice_14 rfl ?_
    obtain ⟨e_15, k_15, h⟩ := bd1_some h
    refine wx_cVi dX6_readChoice_15 ml_X6_53 my_X6_goesOn iv_X6_goesOn (sc_20 hS) (by decide) (s_X6_goesOn (d := d - 1) hS (by omega) k_15) rfl (by omega) (by exact Nat.le_of_ble_eq_true rfl) hcu hsu ?_
    refine wx_if_eq (tgt := 55) dX6_readChoice_18 (by decide) (fun c_18 => ?_) (fun c_18 => ?_)
    · replace h := it_t h c_18
      obtain rfl := Option.some.inj h
      replace g := sE_r g
      exact wx_sub g px_0
    · replace h := it_f h c_18
      refine wx_aload_n dX6_readChoice_21 rfl ?_
      refine wx_getI dX6_readChoice_22 fl_X6_57 (sc_20 hS) rfl ?_
      refine wx_sipush (v := 304) dX6_readChoice_25 (by decide) ?_
      refine wx_icmp_ne (tgt := 55) dX6_readChoice_28 (by decide) (fun c_28 => ?_) (fun c_28 => ?_)
      · replace h := it_f h c_28
        obtain rfl := Option.some.inj h
        replace g := sE_r g
        exact wx_sub g px_0
      · replace h := it_t h c_28
        refine wx_aload_n dX6_readChoice_31 rfl ?_
        obtain ⟨e_32, k_32, h⟩ := bd1_some h
        refine wx_cVv dX6_readChoice_32 ml_X6_50 my_X6_scan iv_X6_scan (sc_20 hS) (by decide) (s_X6_scan (d := d - 1) hS (by omega) k_32) rfl (by omega) (by exact Nat.le_of_ble_eq_true rfl) hcu hsu ?_
        refine wx_aload_n dX6_readChoice_35 rfl ?_
        obtain ⟨e_36, k_36, h⟩ := bd1_some h
        refine wx_cVv dX6_readChoice_36 ml_X6_82 my_X6_readBoth iv_X6_readBoth (sc_20 hS) (by decide) (so_X6_readBoth (d := d - 1) h_X6_readTest hS (by omega) (by omega) k_36) rfl (by omega) (by exact Nat.le_of_ble_eq_true rfl) hcu hsu ?_
        refine wx_aload_n dX6_readChoice_39 rfl ?_
        obtain ⟨b_40, w_40, h⟩ := bd1_some h
        refine wx_getR dX6_readChoice_40 fl_X6_22 (sc_20 hS) rfl w_40 ?_
        refine wx_sipush (v := (-304)) dX6_readChoice_43 (by decide) ?_
        obtain ⟨ws_46, h⟩ := ok_some h
        obtain ⟨ln_46, wt_46⟩ := hk_some ws_46
        obtain ⟨e_46, k_46, h⟩ := bd1_some h
        refine wx_cVv dX6_readChoice_46 ml_X6_85 my_X7_add iv_X7_add wt_46 (by decide) (s_X7_add (d := d - 1) hS (by omega) k_46) rfl (by omega) (by exact Nat.le_of_ble_eq_true rfl) hcu hsu ?_
        refine wx_iinc (lv' := [(1, _), (0, _)]) dX6_readChoice_49 rfl (i_1 _) (by decide) rfl ?_
        refine wx_goto (tgt := 6) dX6_readChoice_52 (by decide) ?_
        obtain rfl := Option.some.inj h
        replace g := sE_l g
        exact wx_sub g (px_s rfl (px_s rfl px_0))
theorem so_X6_readChoice_6 {dr : Nat} {r_X6_readTest : px_Sh → px_M → px_R → Option (px_M)} {x1 : Int32} {M : px_M} {L : px_L} {R : px_R} {e : (px_M)} (h_X6_readTest : ∀ {d : Nat} {X : Nat × (Nat → Int32)} {sh : px_Sh} {M : px_M} {L : px_L} {R : px_R} {n : Nat} {e : px_M}, SR sh R → dr ≤ d → r_X6_readTest sh M R = some e → MX yX6_readTest cX6_readTest 2 none d 0 0 X [.ref 20] sh M L R n (px_pu none sh e L R n)) (hS : SR sh R) (hd : 7 ≤ d) (hdr : dr + 2 ≤ d) (hcu : cu ≤ mc) (hsu : su ≤ ms) (h : lpf (fun a : Int32 × px_M => o_X6_readChoice_6 r_X6_readTest sh a.2 R a.1) (x1, M) = some e) (g : WX RX6 cX6_readChoice 2 none ("readChoice", []) d mc ms X (px_QF Post mc ms) 55 [] [] sh e L R n cu su) : WX RX6 cX6_readChoice 2 none ("readChoice", []) d mc ms X (px_QF Post mc ms) 6 [(0, .ref 20), (1, .int x1)] [] sh M L R n cu su := by
  have key := lpf_wp (P := (fun a => WX RX6 cX6_readChoice 2 none ("readChoice", []) d mc ms X (px_QF Post mc ms) 6 [(0, .ref 20), (1, .int a.1)] [] sh (a.2) L R n cu su)) (G := (fun t => WX RX6 cX6_readChoice 2 none ("readChoice", []) d mc ms X (px_QF Post mc ms) 55 [] [] sh t L R n cu su)) (fun a r h g => so_X6_readChoice_6b (x1 := a.1) (M := a.2) (L := L) (R := R) h_X6_readTest hS hd hdr hcu hsu h g) (a := (x1, M)) h g
  exact key
noncomputable def o_X6_readChoice (r_X6_readTest : px_Sh → px_M → px_R → Option (px_M)) (sh : px_Sh) (M : px_M) (R : px_R) : Option (px_M) :=
  bd1 (o_X6_readBoth r_X6_readTest sh M R) fun e_1 =>
  bd1 (lpf (fun a : Int32 × px_M => o_X6_readChoice_6 r_X6_readTest sh a.2 R a.1) (0, e_1)) fun e_6 =>
  some e_6
theorem so_X6_readChoice {dr : Nat} {r_X6_readTest : px_Sh → px_M → px_R → Option (px_M)} {d : Nat} {X : Nat × (Nat → Int32)} {sh : px_Sh} {M : px_M} {L : px_L} {R : px_R} {n : Nat} {e : px_M} (h_X6_readTest : ∀ {d : Nat} {X : Nat × (Nat → Int32)} {sh : px_Sh} {M : px_M} {L : px_L} {R : px_R} {n : Nat} {e : px_M}, SR sh R → dr ≤ d → r_X6_readTest sh M R = some e → MX yX6_readTest cX6_readTest 2 none d 0 0 X [.ref 20] sh M L R n (px_pu none sh e L R n)) (hS : SR sh R) (hd : 7 ≤ d) (hdr : dr + 2 ≤ d) (h : o_X6_readChoice r_X6_readTest sh M R = some e) : MX yX6_readChoice cX6_readChoice 2 none d 0 0 X [.ref 20] sh M L R n (px_pu none sh e L R n) := by
  refine MX.of (by decide +kernel) (by exact Nat.le_of_ble_eq_true rfl) ?_
  have hcu : 0 ≤ 0 := Nat.zero_le _
  have hsu : 0 ≤ 0 := Nat.zero_le _
  have g : px_pu none sh e L R n none sh e L R n := ⟨rfl, rfl, rfl, rfl, rfl, rfl⟩
  unfold o_X6_readChoice at h
  refine wx_aload_n dX6_readChoice_0 rfl ?_
  obtain ⟨e_1, k_1, h⟩ := bd1_some h
  refine wx_cVv dX6_readChoice_1 ml_X6_82 my_X6_readBoth iv_X6_readBoth (sc_20 hS) (by decide) (so_X6_readBoth (d := d - 1) h_X6_readTest hS (by omega) (by omega) k_1) rfl (by omega) (by exact Nat.le_of_ble_eq_true rfl) hcu hsu ?_
  refine wx_iconst (v := 0) dX6_readChoice_4 (by decide) ?_
  refine wx_istore_n (lv' := [(1, _), (0, _)]) dX6_readChoice_5 (by decide) rfl ?_
  obtain ⟨e_6, k_6, h⟩ := bd1_some h
  refine wx_sub (so_X6_readChoice_6 h_X6_readTest hS hd hdr hcu hsu k_6 ?_) (px_s rfl (px_s rfl px_0))
  refine wx_vret dX6_readChoice_55 hcu hsu ?_
  obtain rfl := Option.some.inj h
  exact g
noncomputable def o_X6_readTest_111 (r_X6_readTest : px_Sh → px_M → px_R → Option (px_M)) (sh : px_Sh) (M : px_M) (R : px_R) : Option (px_M) :=
  some M
theorem so_X6_readTest_111 {dr : Nat} {r_X6_readTest : px_Sh → px_M → px_R → Option (px_M)} {M : px_M} {L : px_L} {R : px_R} {e : (px_M)} (h_X6_readTest : ∀ {d : Nat} {X : Nat × (Nat → Int32)} {sh : px_Sh} {M : px_M} {L : px_L} {R : px_R} {n : Nat} {e : px_M}, SR sh R → dr ≤ d → r_X6_readTest sh M R = some e → MX yX6_readTest cX6_readTest 2 none d 0 0 X [.ref 20] sh M L R n (px_pu none sh e L R n)) (hS : SR sh R) (hd : 47 ≤ d) (hdr : dr + 3 ≤ d) (hcu : cu ≤ mc) (hsu : su ≤ ms) (h : o_X6_readTest_111 r_X6_readTest sh M R = some e) (g : Post none sh e L R n) : WX RX6 cX6_readTest 2 none ("readTest", []) d mc ms X (px_QF Post mc ms) 111 [] [] sh M L R n cu su := by
  unfold o_X6_readTest_111 at h
  refine wx_vret dX6_readTest_111 hcu hsu ?_
  obtain rfl := Option.some.inj h
  exact g
noncomputable def o_X6_readTest (r_X6_readTest : px_Sh → px_M → px_R → Option (px_M)) (sh : px_Sh) (M : px_M) (R : px_R) : Option (px_M) :=
  bd1 (f_X6_goesOn M) fun e_1 =>
  if e_1 = 0 then
    some M
  else
    if (M 20 5) = 306 then
      bd1 (f_X6_enter M) fun e_19 =>
      bd1 (r_X6_readTest sh e_19 R) fun e_23 =>
      nm ((e_23 20 7) - 1) fun v_33 =>
      nm (px_u e_23 20 7 v_33) fun M_33 =>
      bd1 (R 20 10) fun b_37 =>
      ok (hk sh b_37 7) <|
      bd1 (f_X7_add sh M_33 R b_37 (-306)) fun e_43 =>
      o_X6_readTest_111 r_X6_readTest sh e_43 R
    else
      if (M 20 5) = 91 then
        bd1 (f_X6_enter M) fun e_59 =>
        bd1 (o_X6_readChoice r_X6_readTest sh e_59 R) fun e_63 =>
        bd1 (f_X6_demand e_63 93) fun e_69 =>
        nm ((e_69 20 7) - 1) fun v_79 =>
        nm (px_u e_69 20 7 v_79) fun M_79 =>
        o_X6_readTest_111 r_X6_readTest sh M_79 R
      else
        bd1 (f_X6_readSum sh M R) fun e_86 =>
        nm (e_86 20 5) fun v_93 =>
        bd1 (f_X6_demandComparing e_86) fun e_95 =>
        bd1 (f_X6_readSum sh e_95 R) fun e_99 =>
        bd1 (R 20 10) fun b_103 =>
        ok (hk sh b_103 7) <|
        bd1 (f_X7_add sh e_99 R b_103 (-v_93)) fun e_108 =>
        o_X6_readTest_111 r_X6_readTest sh e_108 R
theorem so_X6_readTest {dr : Nat} {r_X6_readTest : px_Sh → px_M → px_R → Option (px_M)} {d : Nat} {X : Nat × (Nat → Int32)} {sh : px_Sh} {M : px_M} {L : px_L} {R : px_R} {n : Nat} {e : px_M} (h_X6_readTest : ∀ {d : Nat} {X : Nat × (Nat → Int32)} {sh : px_Sh} {M : px_M} {L : px_L} {R : px_R} {n : Nat} {e : px_M}, SR sh R → dr ≤ d → r_X6_readTest sh M R = some e → MX yX6_readTest cX6_readTest 2 none d 0 0 X [.ref 20] sh M L R n (px_pu none sh e L R n)) (hS : SR sh R) (hd : 47 ≤ d) (hdr : dr + 3 ≤ d) (h : o_X6_readTest r_X6_readTest sh M R = some e) : MX yX6_readTest cX6_readTest 2 none d 0 0 X [.ref 20] sh M L R n (px_pu none sh e L R n) := by
  refine MX.of (by decide +kernel) (by exact Nat.le_of_ble_eq_true rfl) ?_
  have hcu : 0 ≤ 0 := Nat.zero_le _
  have hsu : 0 ≤ 0 := Nat.zero_le _
  have g : px_pu none sh e L R n none sh e L R n := ⟨rfl, rfl, rfl, rfl, rfl, rfl⟩
  unfold o_X6_readTest at h
  refine wx_aload_n dX6_readTest_0 rfl ?_
  obtain ⟨e_1, k_1, h⟩ := bd1_some h
  refine wx_cVi dX6_readTest_1 ml_X6_53 my_X6_goesOn iv_X6_goesOn (sc_20 hS) (by decide) (s_X6_goesOn (d := d - 1) hS (by omega) k_1) rfl (by omega) (by exact Nat.le_of_ble_eq_true rfl) hcu hsu ?_
  refine wx_if_ne (tgt := 8) dX6_readTest_4 (by decide) (fun c_4 => ?_) (fun c_4 => ?_)
  · replace h := it_f h c_4
    refine wx_aload_n dX6_readTest_8 rfl ?_
    refine wx_getI dX6_readTest_9 fl_X6_57 (sc_20 hS) rfl ?_
    refine wx_sipush (v := 306) dX6_readTest_12 (by decide) ?_
    refine wx_icmp_ne (tgt := 49) dX6_readTest_15 (by decide) (fun c_15 => ?_) (fun c_15 => ?_)
    · replace h := it_f h c_15
      refine wx_aload_n dX6_readTest_49 rfl ?_
      refine wx_getI dX6_readTest_50 fl_X6_57 (sc_20 hS) rfl ?_
      refine wx_bipush (v := 91) dX6_readTest_53 (by decide) ?_
      refine wx_icmp_ne (tgt := 85) dX6_readTest_55 (by decide) (fun c_55 => ?_) (fun c_55 => ?_)
      · replace h := it_f h c_55
        refine wx_aload_n dX6_readTest_85 rfl ?_
        obtain ⟨e_86, k_86, h⟩ := bd1_some h
        refine wx_cVv dX6_readTest_86 ml_X6_94 my_X6_readSum iv_X6_readSum (sc_20 hS) (by decide) (s_X6_readSum (d := d - 1) hS (by omega) k_86) rfl (by omega) (by exact Nat.le_of_ble_eq_true rfl) hcu hsu ?_
        refine wx_aload_n dX6_readTest_89 rfl ?_
        refine wx_getI dX6_readTest_90 fl_X6_57 (sc_20 hS) rfl ?_
        refine wx_nami (fun v_93 q_93 => ?_)
        replace h := nm_at h q_93
        refine wx_istore_n (lv' := [(1, _), (0, _)]) dX6_readTest_93 (by decide) rfl ?_
        refine wx_aload_n dX6_readTest_94 rfl ?_
        obtain ⟨e_95, k_95, h⟩ := bd1_some h
        refine wx_cVv dX6_readTest_95 ml_X6_97 my_X6_demandComparing iv_X6_demandComparing (sc_20 hS) (by decide) (s_X6_demandComparing (d := d - 1) hS (by omega) k_95) rfl (by omega) (by exact Nat.le_of_ble_eq_true rfl) hcu hsu ?_
        refine wx_aload_n dX6_readTest_98 rfl ?_
        obtain ⟨e_99, k_99, h⟩ := bd1_some h
        refine wx_cVv dX6_readTest_99 ml_X6_94 my_X6_readSum iv_X6_readSum (sc_20 hS) (by decide) (s_X6_readSum (d := d - 1) hS (by omega) k_99) rfl (by omega) (by exact Nat.le_of_ble_eq_true rfl) hcu hsu ?_
        refine wx_aload_n dX6_readTest_102 rfl ?_
        obtain ⟨b_103, w_103, h⟩ := bd1_some h
        refine wx_getR dX6_readTest_103 fl_X6_22 (sc_20 hS) rfl w_103 ?_
        refine wx_iload_n dX6_readTest_106 rfl ?_
        refine wx_ineg dX6_readTest_107 ?_
        obtain ⟨ws_108, h⟩ := ok_some h
        obtain ⟨ln_108, wt_108⟩ := hk_some ws_108
        obtain ⟨e_108, k_108, h⟩ := bd1_some h
        refine wx_cVv dX6_readTest_108 ml_X6_85 my_X7_add iv_X7_add wt_108 (by decide) (s_X7_add (d := d - 1) hS (by omega) k_108) rfl (by omega) (by exact Nat.le_of_ble_eq_true rfl) hcu hsu ?_
        exact wx_sub (so_X6_readTest_111 h_X6_readTest hS hd hdr hcu hsu h g) px_0
      · replace h := it_t h c_55
        refine wx_aload_n dX6_readTest_58 rfl ?_
        obtain ⟨e_59, k_59, h⟩ := bd1_some h
        refine wx_cVv dX6_readTest_59 ml_X6_91 my_X6_enter iv_X6_enter (sc_20 hS) (by decide) (s_X6_enter (d := d - 1) hS (by omega) k_59) rfl (by omega) (by exact Nat.le_of_ble_eq_true rfl) hcu hsu ?_
        refine wx_aload_n dX6_readTest_62 rfl ?_
        obtain ⟨e_63, k_63, h⟩ := bd1_some h
        refine wx_cVv dX6_readTest_63 ml_X6_76 my_X6_readChoice iv_X6_readChoice (sc_20 hS) (by decide) (so_X6_readChoice (d := d - 1) h_X6_readTest hS (by omega) (by omega) k_63) rfl (by omega) (by exact Nat.le_of_ble_eq_true rfl) hcu hsu ?_
        refine wx_aload_n dX6_readTest_66 rfl ?_
        refine wx_bipush (v := 93) dX6_readTest_67 (by decide) ?_
        obtain ⟨e_69, k_69, h⟩ := bd1_some h
        refine wx_cVv dX6_readTest_69 ml_X6_73 my_X6_demand iv_X6_demand (sc_20 hS) (by decide) (s_X6_demand (d := d - 1) hS (by omega) k_69) rfl (by omega) (by exact Nat.le_of_ble_eq_true rfl) hcu hsu ?_
        refine wx_aload_n dX6_readTest_72 rfl ?_
        refine wx_dup dX6_readTest_73 rfl ?_
        refine wx_getI dX6_readTest_74 fl_X6_44 (sc_20 hS) rfl ?_
        refine wx_iconst (v := 1) dX6_readTest_77 (by decide) ?_
        refine wx_isub dX6_readTest_78 ?_
        refine wx_nami (fun v_79 q_79 => ?_)
        replace h := nm_at h q_79
        refine wx_putI dX6_readTest_79 fl_X6_44 (sc_20 hS) (Or.inl rfl) rfl ⟨rfl, rfl⟩ ?_
        refine wx_namM (fun M_79 q_79 => ?_)
        replace h := nm_at h q_79
        refine wx_goto (tgt := 111) dX6_readTest_82 (by decide) ?_
        exact wx_sub (so_X6_readTest_111 h_X6_readTest hS hd hdr hcu hsu h g) px_0
    · replace h := it_t h c_15
      refine wx_aload_n dX6_readTest_18 rfl ?_
      obtain ⟨e_19, k_19, h⟩ := bd1_some h
      refine wx_cVv dX6_readTest_19 ml_X6_91 my_X6_enter iv_X6_enter (sc_20 hS) (by decide) (s_X6_enter (d := d - 1) hS (by omega) k_19) rfl (by omega) (by exact Nat.le_of_ble_eq_true rfl) hcu hsu ?_
      refine wx_aload_n dX6_readTest_22 rfl ?_
      obtain ⟨e_23, k_23, h⟩ := bd1_some h
      refine wx_cVv dX6_readTest_23 ml_X6_88 my_X6_readTest iv_X6_readTest (sc_20 hS) (by decide) (h_X6_readTest (d := d - 1) hS (by omega) k_23) rfl (by omega) (by exact Nat.le_of_ble_eq_true rfl) hcu hsu ?_
      refine wx_aload_n dX6_readTest_26 rfl ?_
      refine wx_dup dX6_readTest_27 rfl ?_
      refine wx_getI dX6_readTest_28 fl_X6_44 (sc_20 hS) rfl ?_
      refine wx_iconst (v := 1) dX6_readTest_31 (by decide) ?_
      refine wx_isub dX6_readTest_32 ?_
      refine wx_nami (fun v_33 q_33 => ?_)
      replace h := nm_at h q_33
      refine wx_putI dX6_readTest_33 fl_X6_44 (sc_20 hS) (Or.inl rfl) rfl ⟨rfl, rfl⟩ ?_
      refine wx_namM (fun M_33 q_33 => ?_)
      replace h := nm_at h q_33
      refine wx_aload_n dX6_readTest_36 rfl ?_
      obtain ⟨b_37, w_37, h⟩ := bd1_some h
      refine wx_getR dX6_readTest_37 fl_X6_22 (sc_20 hS) rfl w_37 ?_
      refine wx_sipush (v := (-306)) dX6_readTest_40 (by decide) ?_
      obtain ⟨ws_43, h⟩ := ok_some h
      obtain ⟨ln_43, wt_43⟩ := hk_some ws_43
      obtain ⟨e_43, k_43, h⟩ := bd1_some h
      refine wx_cVv dX6_readTest_43 ml_X6_85 my_X7_add iv_X7_add wt_43 (by decide) (s_X7_add (d := d - 1) hS (by omega) k_43) rfl (by omega) (by exact Nat.le_of_ble_eq_true rfl) hcu hsu ?_
      refine wx_goto (tgt := 111) dX6_readTest_46 (by decide) ?_
      exact wx_sub (so_X6_readTest_111 h_X6_readTest hS hd hdr hcu hsu h g) px_0
  · replace h := it_t h c_4
    refine wx_vret dX6_readTest_7 hcu hsu ?_
    obtain rfl := Option.some.inj h
    exact g
noncomputable def k_X6_readTest : Nat → px_Sh → px_M → px_R → Option (px_M)
  | 0 => fun _ _ _ => none
  | k + 1 => fun sh M R => o_X6_readTest (k_X6_readTest k) sh M R
theorem sk_X6_readTest : ∀ (k : Nat) {d : Nat} {X : Nat × (Nat → Int32)} {sh : px_Sh} {M : px_M} {L : px_L} {R : px_R} {n : Nat} {e : px_M}, SR sh R → 47 + 3 * k ≤ d → k_X6_readTest k sh M R = some e → MX yX6_readTest cX6_readTest 2 none d 0 0 X [.ref 20] sh M L R n (px_pu none sh e L R n)
  | 0, _, _, _, _, _, _, _, _, _, _, h => by cases h
  | k + 1, d, X, sh, M, L, R, n, e, hS, hd, h => so_X6_readTest (dr := 47 + 3 * k) (r_X6_readTest := k_X6_readTest k) (fun hS hd h => sk_X6_readTest k hS hd h) hS (by omega) (by omega) h
noncomputable def f_X6_readTest (sh : px_Sh) (M : px_M) (R : px_R) : Option (px_M) := k_X6_readTest 9 sh M R
theorem s_X6_readTest {d : Nat} {X : Nat × (Nat → Int32)} {sh : px_Sh} {M : px_M} {L : px_L} {R : px_R} {n : Nat} {e : px_M} (hS : SR sh R) (hd : 74 ≤ d) (h : f_X6_readTest sh M R = some e) : MX yX6_readTest cX6_readTest 2 none d 0 0 X [.ref 20] sh M L R n (px_pu none sh e L R n) := sk_X6_readTest 9 hS (by omega) h
noncomputable def f_X6_readBoth (sh : px_Sh) (M : px_M) (R : px_R) : Option (px_M) := o_X6_readBoth f_X6_readTest sh M R
theorem s_X6_readBoth {d : Nat} {X : Nat × (Nat → Int32)} {sh : px_Sh} {M : px_M} {L : px_L} {R : px_R} {n : Nat} {e : px_M} (hS : SR sh R) (hd : 75 ≤ d) (h : f_X6_readBoth sh M R = some e) : MX yX6_readBoth cX6_readBoth 2 none d 0 0 X [.ref 20] sh M L R n (px_pu none sh e L R n) := so_X6_readBoth (dr := 74) (r_X6_readTest := f_X6_readTest) (fun hS hd h => s_X6_readTest hS hd h) hS (by omega) (by omega) h
noncomputable def f_X6_readChoice (sh : px_Sh) (M : px_M) (R : px_R) : Option (px_M) := o_X6_readChoice f_X6_readTest sh M R
theorem s_X6_readChoice {d : Nat} {X : Nat × (Nat → Int32)} {sh : px_Sh} {M : px_M} {L : px_L} {R : px_R} {n : Nat} {e : px_M} (hS : SR sh R) (hd : 76 ≤ d) (h : f_X6_readChoice sh M R = some e) : MX yX6_readChoice cX6_readChoice 2 none d 0 0 X [.ref 20] sh M L R n (px_pu none sh e L R n) := so_X6_readChoice (dr := 74) (r_X6_readTest := f_X6_readTest) (fun hS hd h => s_X6_readTest hS hd h) hS (by omega) (by omega) h
noncomputable def f_X6_readRule_80 (sh : px_Sh) (M : px_M) (R : px_R) : Option (px_M) :=
  some M
theorem s_X6_readRule_80 {M : px_M} {L : px_L} {R : px_R} {e : (px_M)} (hS : SR sh R) (hd : 77 ≤ d) (hcu : cu ≤ mc) (hsu : su ≤ ms) (h : f_X6_readRule_80 sh M R = some e) (g : Post none sh e L R n) : WX RX6 cX6_readRule 2 none ("readRule", []) d mc ms X (px_QF Post mc ms) 80 [] [] sh M L R n cu su := by
  unfold f_X6_readRule_80 at h
  refine wx_vret dX6_readRule_80 hcu hsu ?_
  obtain rfl := Option.some.inj h
  exact g
noncomputable def f_X6_readRule_23 (sh : px_Sh) (M : px_M) (R : px_R) : Option (px_M) :=
  bd1 (f_X6_refuse M 1) fun e_25 =>
  f_X6_readRule_80 sh e_25 R
theorem s_X6_readRule_23 {M : px_M} {L : px_L} {R : px_R} {e : (px_M)} (hS : SR sh R) (hd : 77 ≤ d) (hcu : cu ≤ mc) (hsu : su ≤ ms) (h : f_X6_readRule_23 sh M R = some e) (g : Post none sh e L R n) : WX RX6 cX6_readRule 2 none ("readRule", []) d mc ms X (px_QF Post mc ms) 23 [(0, .ref 20)] [] sh M L R n cu su := by
  unfold f_X6_readRule_23 at h
  refine wx_aload_n dX6_readRule_23 rfl ?_
  refine wx_iconst (v := 1) dX6_readRule_24 (by decide) ?_
  obtain ⟨e_25, k_25, h⟩ := bd1_some h
  refine wx_cVv dX6_readRule_25 ml_X6_66 my_X6_refuse iv_X6_refuse (sc_20 hS) (by decide) (s_X6_refuse (d := d - 1) hS (by omega) k_25) rfl (by omega) (by exact Nat.le_of_ble_eq_true rfl) hcu hsu ?_
  refine wx_goto (tgt := 80) dX6_readRule_28 (by decide) ?_
  exact wx_sub (s_X6_readRule_80 hS hd hcu hsu h g) px_0
noncomputable def f_X6_readRule (sh : px_Sh) (M : px_M) (R : px_R) : Option (px_M) :=
  nm ((M 20 5) - 300) fun v_8 =>
  if v_8 < 0 then
    f_X6_readRule_23 sh M R
  else
    if (M 20 5) ≤ 302 then
      bd1 (R 20 10) fun b_32 =>
      ok (hk sh b_32 7) <|
      if (M b_32 5) = 16 then
        bd1 (f_X6_refuse M 3) fun e_45 =>
        f_X6_readRule_80 sh e_45 R
      else
        bd1 (f_X6_scan M) fun e_52 =>
        bd1 (f_X6_demand e_52 303) fun e_59 =>
        bd1 (f_X6_readChoice sh e_59 R) fun e_63 =>
        bd1 (f_X6_demand e_63 59) fun e_69 =>
        bd1 (R 20 10) fun b_73 =>
        ok (hk sh b_73 7) <|
        bd1 (f_X7_endRule sh e_69 R b_73 v_8) fun e_77 =>
        f_X6_readRule_80 sh e_77 R
    else
      f_X6_readRule_23 sh M R
theorem s_X6_readRule {d : Nat} {X : Nat × (Nat → Int32)} {sh : px_Sh} {M : px_M} {L : px_L} {R : px_R} {n : Nat} {e : px_M} (hS : SR sh R) (hd : 77 ≤ d) (h : f_X6_readRule sh M R = some e) : MX yX6_readRule cX6_readRule 2 none d 0 0 X [.ref 20] sh M L R n (px_pu none sh e L R n) := by
  refine MX.of (by decide +kernel) (by exact Nat.le_of_ble_eq_true rfl) ?_
  have hcu : 0 ≤ 0 := Nat.zero_le _
  have hsu : 0 ≤ 0 := Nat.zero_le _
  have g : px_pu none sh e L R n none sh e L R n := ⟨rfl, rfl, rfl, rfl, rfl, rfl⟩
  unfold f_X6_readRule at h
  refine wx_aload_n dX6_readRule_0 rfl ?_
  refine wx_getI dX6_readRule_1 fl_X6_57 (sc_20 hS) rfl ?_
  refine wx_sipush (v := 300) dX6_readRule_4 (by decide) ?_
  refine wx_isub dX6_readRule_7 ?_
  refine wx_nami (fun v_8 q_8 => ?_)
  replace h := nm_at h q_8
  refine wx_istore_n (lv' := [(1, _), (0, _)]) dX6_readRule_8 (by decide) rfl ?_
  refine wx_iload_n dX6_readRule_9 rfl ?_
  refine wx_if_lt (tgt := 23) dX6_readRule_10 (by decide) (fun c_10 => ?_) (fun c_10 => ?_)
  · replace h := it_t h c_10
    exact wx_sub (s_X6_readRule_23 hS hd hcu hsu h g) (px_s rfl px_0)
  · replace h := it_f h c_10
    refine wx_aload_n dX6_readRule_13 rfl ?_
    refine wx_getI dX6_readRule_14 fl_X6_57 (sc_20 hS) rfl ?_
    refine wx_sipush (v := 302) dX6_readRule_17 (by decide) ?_
    refine wx_icmp_le (tgt := 31) dX6_readRule_20 (by decide) (fun c_20 => ?_) (fun c_20 => ?_)
    · replace h := it_t h c_20
      refine wx_aload_n dX6_readRule_31 rfl ?_
      obtain ⟨b_32, w_32, h⟩ := bd1_some h
      refine wx_getR dX6_readRule_32 fl_X6_22 (sc_20 hS) rfl w_32 ?_
      obtain ⟨ws_35, h⟩ := ok_some h
      obtain ⟨ln_35, wt_35⟩ := hk_some ws_35
      refine wx_getI dX6_readRule_35 fl_X6_70 wt_35 rfl ?_
      refine wx_bipush (v := 16) dX6_readRule_38 (by decide) ?_
      refine wx_icmp_ne (tgt := 51) dX6_readRule_40 (by decide) (fun c_40 => ?_) (fun c_40 => ?_)
      · replace h := it_f h c_40
        refine wx_aload_n dX6_readRule_51 rfl ?_
        obtain ⟨e_52, k_52, h⟩ := bd1_some h
        refine wx_cVv dX6_readRule_52 ml_X6_50 my_X6_scan iv_X6_scan (sc_20 hS) (by decide) (s_X6_scan (d := d - 1) hS (by omega) k_52) rfl (by omega) (by exact Nat.le_of_ble_eq_true rfl) hcu hsu ?_
        refine wx_aload_n dX6_readRule_55 rfl ?_
        refine wx_sipush (v := 303) dX6_readRule_56 (by decide) ?_
        obtain ⟨e_59, k_59, h⟩ := bd1_some h
        refine wx_cVv dX6_readRule_59 ml_X6_73 my_X6_demand iv_X6_demand (sc_20 hS) (by decide) (s_X6_demand (d := d - 1) hS (by omega) k_59) rfl (by omega) (by exact Nat.le_of_ble_eq_true rfl) hcu hsu ?_
        refine wx_aload_n dX6_readRule_62 rfl ?_
        obtain ⟨e_63, k_63, h⟩ := bd1_some h
        refine wx_cVv dX6_readRule_63 ml_X6_76 my_X6_readChoice iv_X6_readChoice (sc_20 hS) (by decide) (s_X6_readChoice (d := d - 1) hS (by omega) k_63) rfl (by omega) (by exact Nat.le_of_ble_eq_true rfl) hcu hsu ?_
        refine wx_aload_n dX6_readRule_66 rfl ?_
        refine wx_bipush (v := 59) dX6_readRule_67 (by decide) ?_
        obtain ⟨e_69, k_69, h⟩ := bd1_some h
        refine wx_cVv dX6_readRule_69 ml_X6_73 my_X6_demand iv_X6_demand (sc_20 hS) (by decide) (s_X6_demand (d := d - 1) hS (by omega) k_69) rfl (by omega) (by exact Nat.le_of_ble_eq_true rfl) hcu hsu ?_
        refine wx_aload_n dX6_readRule_72 rfl ?_
        obtain ⟨b_73, w_73, h⟩ := bd1_some h
        refine wx_getR dX6_readRule_73 fl_X6_22 (sc_20 hS) rfl w_73 ?_
        refine wx_iload_n dX6_readRule_76 rfl ?_
        obtain ⟨ws_77, h⟩ := ok_some h
        obtain ⟨ln_77, wt_77⟩ := hk_some ws_77
        obtain ⟨e_77, k_77, h⟩ := bd1_some h
        refine wx_cVv dX6_readRule_77 ml_X6_79 my_X7_endRule iv_X7_endRule wt_77 (by decide) (s_X7_endRule (d := d - 1) hS (by omega) k_77) rfl (by omega) (by exact Nat.le_of_ble_eq_true rfl) hcu hsu ?_
        exact wx_sub (s_X6_readRule_80 hS hd hcu hsu h g) px_0
      · replace h := it_t h c_40
        refine wx_aload_n dX6_readRule_43 rfl ?_
        refine wx_iconst (v := 3) dX6_readRule_44 (by decide) ?_
        obtain ⟨e_45, k_45, h⟩ := bd1_some h
        refine wx_cVv dX6_readRule_45 ml_X6_66 my_X6_refuse iv_X6_refuse (sc_20 hS) (by decide) (s_X6_refuse (d := d - 1) hS (by omega) k_45) rfl (by omega) (by exact Nat.le_of_ble_eq_true rfl) hcu hsu ?_
        refine wx_goto (tgt := 80) dX6_readRule_48 (by decide) ?_
        exact wx_sub (s_X6_readRule_80 hS hd hcu hsu h g) px_0
    · replace h := it_f h c_20
      exact wx_sub (s_X6_readRule_23 hS hd hcu hsu h g) (px_s rfl px_0)
noncomputable def f_X6_readTape_50 (sh : px_Sh) (M : px_M) (R : px_R) (x2 : Int32) : Option ((Int32 × px_M) ⊕ (px_M)) :=
  if 16 < x2 then
    some (.inr M)
  else
    bd1 (f_X6_goesOn M) fun e_57 =>
    if e_57 = 0 then
      some (.inr M)
    else
      if (M 20 5) = 318 then
        some (.inr M)
      else
        bd1 (f_X6_readRule sh M R) fun e_74 =>
        some (.inl ((x2 + 1), e_74))
theorem s_X6_readTape_50b {x2 : Int32} {M : px_M} {L : px_L} {R : px_R} {e : ((Int32 × px_M) ⊕ (px_M))} (hS : SR sh R) (hd : 78 ≤ d) (hcu : cu ≤ mc) (hsu : su ≤ ms) (h : f_X6_readTape_50 sh M R x2 = some e) (g : (sE (fun a => WX RX6 cX6_readTape 3 none ("readTape", []) d mc ms X (px_QF Post mc ms) 50 [(0, .ref 20), (2, .int a.1)] [] sh (a.2) L R n cu su) (fun t => WX RX6 cX6_readTape 3 none ("readTape", []) d mc ms X (px_QF Post mc ms) 83 [] [] sh t L R n cu su)) e) : WX RX6 cX6_readTape 3 none ("readTape", []) d mc ms X (px_QF Post mc ms) 50 [(0, .ref 20), (2, .int x2)] [] sh M L R n cu su := by
  unfold f_X6_readTape_50 at h
  refine wx_iload_n dX6_readTape_50 rfl ?_
  refine wx_bipush (v := 16) dX6_readTape_51 (by decide) ?_
  refine wx_icmp_gt (tgt := 83) dX6_readTape_53 (by decide) (fun c_53 => ?_) (fun c_53 => ?_)
  · replace h := it_t h c_53
    obtain rfl := Option.some.inj h
    replace g := sE_r g
    exact wx_sub g px_0
  · replace h := it_f h c_53
    refine wx_aload_n dX6_readTape_56 rfl ?_
    obtain ⟨e_57, k_57, h⟩ := bd1_some h
    refine wx_cVi dX6_readTape_57 ml_X6_53 my_X6_goesOn iv_X6_goesOn (sc_20 hS) (by decide) (s_X6_goesOn (d := d - 1) hS (by omega) k_57) rfl (by omega) (by exact Nat.le_of_ble_eq_true rfl) hcu hsu ?_
    refine wx_if_eq (tgt := 83) dX6_readTape_60 (by decide) (fun c_60 => ?_) (fun c_60 => ?_)
    · replace h := it_t h c_60
      obtain rfl := Option.some.inj h
      replace g := sE_r g
      exact wx_sub g px_0
    · replace h := it_f h c_60
      refine wx_aload_n dX6_readTape_63 rfl ?_
      refine wx_getI dX6_readTape_64 fl_X6_57 (sc_20 hS) rfl ?_
      refine wx_sipush (v := 318) dX6_readTape_67 (by decide) ?_
      refine wx_icmp_eq (tgt := 83) dX6_readTape_70 (by decide) (fun c_70 => ?_) (fun c_70 => ?_)
      · replace h := it_t h c_70
        obtain rfl := Option.some.inj h
        replace g := sE_r g
        exact wx_sub g px_0
      · replace h := it_f h c_70
        refine wx_aload_n dX6_readTape_73 rfl ?_
        obtain ⟨e_74, k_74, h⟩ := bd1_some h
        refine wx_cVv dX6_readTape_74 ml_X6_60 my_X6_readRule iv_X6_readRule (sc_20 hS) (by decide) (s_X6_readRule (d := d - 1) hS (by omega) k_74) rfl (by omega) (by exact Nat.le_of_ble_eq_true rfl) hcu hsu ?_
        refine wx_iinc (lv' := [(2, _), (0, _)]) dX6_readTape_77 rfl (i_1 _) (by decide) rfl ?_
        refine wx_goto (tgt := 50) dX6_readTape_80 (by decide) ?_
        obtain rfl := Option.some.inj h
        replace g := sE_l g
        exact wx_sub g (px_s rfl (px_s rfl px_0))
theorem s_X6_readTape_50 {x2 : Int32} {M : px_M} {L : px_L} {R : px_R} {e : (px_M)} (hS : SR sh R) (hd : 78 ≤ d) (hcu : cu ≤ mc) (hsu : su ≤ ms) (h : lpf (fun a : Int32 × px_M => f_X6_readTape_50 sh a.2 R a.1) (x2, M) = some e) (g : WX RX6 cX6_readTape 3 none ("readTape", []) d mc ms X (px_QF Post mc ms) 83 [] [] sh e L R n cu su) : WX RX6 cX6_readTape 3 none ("readTape", []) d mc ms X (px_QF Post mc ms) 50 [(0, .ref 20), (2, .int x2)] [] sh M L R n cu su := by
  have key := lpf_wp (P := (fun a => WX RX6 cX6_readTape 3 none ("readTape", []) d mc ms X (px_QF Post mc ms) 50 [(0, .ref 20), (2, .int a.1)] [] sh (a.2) L R n cu su)) (G := (fun t => WX RX6 cX6_readTape 3 none ("readTape", []) d mc ms X (px_QF Post mc ms) 83 [] [] sh t L R n cu su)) (fun a r h g => s_X6_readTape_50b (x2 := a.1) (M := a.2) (L := L) (R := R) hS hd hcu hsu h g) (a := (x2, M)) h g
  exact key
noncomputable def f_X6_readTape (sh : px_Sh) (M : px_M) (R : px_R) (p1 : Int32) : Option (px_M) :=
  bd1 (f_J9_min_7cf53 p1 (M 20 1)) fun e_6 =>
  nm (px_u M 20 2 e_6) fun M_9 =>
  nm (px_u M_9 20 1 0) fun M_14 =>
  bd1 (R 20 10) fun b_18 =>
  ok (hk sh b_18 7) <|
  bd1 (f_X7_forget sh M_14 b_18) fun e_21 =>
  nm (px_u e_21 20 4 0) fun M_26 =>
  nm (px_u M_26 20 7 0) fun M_31 =>
  nm (px_u M_31 20 8 0) fun M_36 =>
  nm (px_u M_36 20 9 (-1)) fun M_41 =>
  bd1 (f_X6_scan M_41) fun e_45 =>
  bd1 (lpf (fun a : Int32 × px_M => f_X6_readTape_50 sh a.2 R a.1) (0, e_45)) fun e_50 =>
  some e_50
theorem s_X6_readTape {d : Nat} {X : Nat × (Nat → Int32)} {sh : px_Sh} {M : px_M} {L : px_L} {R : px_R} {n : Nat} {p1 : Int32} {e : px_M} (hS : SR sh R) (hd : 78 ≤ d) (h : f_X6_readTape sh M R p1 = some e) : MX yX6_readTape cX6_readTape 3 none d 0 0 X [.ref 20, .int p1] sh M L R n (px_pu none sh e L R n) := by
  refine MX.of (by decide +kernel) (by exact Nat.le_of_ble_eq_true rfl) ?_
  have hcu : 0 ≤ 0 := Nat.zero_le _
  have hsu : 0 ≤ 0 := Nat.zero_le _
  have g : px_pu none sh e L R n none sh e L R n := ⟨rfl, rfl, rfl, rfl, rfl, rfl⟩
  unfold f_X6_readTape at h
  refine wx_aload_n dX6_readTape_0 rfl ?_
  refine wx_iload_n dX6_readTape_1 rfl ?_
  refine wx_aload_n dX6_readTape_2 rfl ?_
  refine wx_getI dX6_readTape_3 fl_X6_26 (sc_20 hS) rfl ?_
  obtain ⟨e_6, k_6, h⟩ := bd1_some h
  refine wx_cSi dX6_readTape_6 ml_X6_29 my_J9_min_7cf53 sv_J9_min_7cf53 (s_J9_min_7cf53 (d := d - 1) hS (by omega) k_6) rfl (by omega) (by exact Nat.le_of_ble_eq_true rfl) hcu hsu ?_
  refine wx_putI dX6_readTape_9 fl_X6_35 (sc_20 hS) (Or.inl rfl) rfl ⟨rfl, rfl⟩ ?_
  refine wx_namM (fun M_9 q_9 => ?_)
  replace h := nm_at h q_9
  refine wx_aload_n dX6_readTape_12 rfl ?_
  refine wx_iconst (v := 0) dX6_readTape_13 (by decide) ?_
  refine wx_putI dX6_readTape_14 fl_X6_26 (sc_20 hS) (Or.inl rfl) rfl ⟨rfl, rfl⟩ ?_
  refine wx_namM (fun M_14 q_14 => ?_)
  replace h := nm_at h q_14
  refine wx_aload_n dX6_readTape_17 rfl ?_
  obtain ⟨b_18, w_18, h⟩ := bd1_some h
  refine wx_getR dX6_readTape_18 fl_X6_22 (sc_20 hS) rfl w_18 ?_
  obtain ⟨ws_21, h⟩ := ok_some h
  obtain ⟨ln_21, wt_21⟩ := hk_some ws_21
  obtain ⟨e_21, k_21, h⟩ := bd1_some h
  refine wx_cVv dX6_readTape_21 ml_X6_38 my_X7_forget iv_X7_forget wt_21 (by decide) (s_X7_forget (d := d - 1) hS (by omega) k_21) rfl (by omega) (by exact Nat.le_of_ble_eq_true rfl) hcu hsu ?_
  refine wx_aload_n dX6_readTape_24 rfl ?_
  refine wx_iconst (v := 0) dX6_readTape_25 (by decide) ?_
  refine wx_putI dX6_readTape_26 fl_X6_41 (sc_20 hS) (Or.inl rfl) rfl ⟨rfl, rfl⟩ ?_
  refine wx_namM (fun M_26 q_26 => ?_)
  replace h := nm_at h q_26
  refine wx_aload_n dX6_readTape_29 rfl ?_
  refine wx_iconst (v := 0) dX6_readTape_30 (by decide) ?_
  refine wx_putI dX6_readTape_31 fl_X6_44 (sc_20 hS) (Or.inl rfl) rfl ⟨rfl, rfl⟩ ?_
  refine wx_namM (fun M_31 q_31 => ?_)
  replace h := nm_at h q_31
  refine wx_aload_n dX6_readTape_34 rfl ?_
  refine wx_iconst (v := 0) dX6_readTape_35 (by decide) ?_
  refine wx_putI dX6_readTape_36 fl_X6_47 (sc_20 hS) (Or.inl rfl) rfl ⟨rfl, rfl⟩ ?_
  refine wx_namM (fun M_36 q_36 => ?_)
  replace h := nm_at h q_36
  refine wx_aload_n dX6_readTape_39 rfl ?_
  refine wx_iconst (v := (-1)) dX6_readTape_40 (by decide) ?_
  refine wx_putI dX6_readTape_41 fl_X6_15 (sc_20 hS) (Or.inl rfl) rfl ⟨rfl, rfl⟩ ?_
  refine wx_namM (fun M_41 q_41 => ?_)
  replace h := nm_at h q_41
  refine wx_aload_n dX6_readTape_44 rfl ?_
  obtain ⟨e_45, k_45, h⟩ := bd1_some h
  refine wx_cVv dX6_readTape_45 ml_X6_50 my_X6_scan iv_X6_scan (sc_20 hS) (by decide) (s_X6_scan (d := d - 1) hS (by omega) k_45) rfl (by omega) (by exact Nat.le_of_ble_eq_true rfl) hcu hsu ?_
  refine wx_iconst (v := 0) dX6_readTape_48 (by decide) ?_
  refine wx_istore_n (lv' := [(2, _), (0, _), (1, _)]) dX6_readTape_49 (by decide) rfl ?_
  obtain ⟨e_50, k_50, h⟩ := bd1_some h
  refine wx_sub (s_X6_readTape_50 hS hd hcu hsu k_50 ?_) (px_s rfl (px_s rfl px_0))
  refine wx_vret dX6_readTape_83 hcu hsu ?_
  obtain rfl := Option.some.inj h
  exact g
end LIFT
