/-! the face, what does not throw -/
section LIFT
variable {d mc ms : Nat} {X : Nat × (Nat → Int32)} {Post : px_Post} {sh : px_Sh} {n cu su : Nat}
noncomputable def f_X11_layer_30 (M : px_M) (z0 : Int32) : Option (Int32) :=
  some z0
theorem s_X11_layer_30 {z0 : Int32} {M : px_M} {L : px_L} {R : px_R} {e : (Int32)} (hS : SR sh R) (hd : 1 ≤ d) (hcu : cu ≤ mc) (hsu : su ≤ ms) (h : f_X11_layer_30 M z0 = some e) (g : Post (some (.int e)) sh M L R n) : WX RX11 cX11_layer 2 (some .int) ("layer", []) d mc ms X (px_QF Post mc ms) 30 [] [.int z0] sh M L R n cu su := by
  unfold f_X11_layer_30 at h
  refine wx_iret dX11_layer_30 hcu hsu ?_
  obtain rfl := Option.some.inj h
  exact g
noncomputable def f_X11_layer (M : px_M) (p1 : Int32) : Option (Int32) :=
  bd1 (f_X11_within p1 0 ((M 1 0) - 1)) fun e_11 =>
  if e_11 = 0 then
    f_X11_layer_30 M (-1)
  else
    ok (ix p1 8) <|
    f_X11_layer_30 M (M 2 p1.toNatClampNeg)
theorem s_X11_layer {d : Nat} {X : Nat × (Nat → Int32)} {sh : px_Sh} {M : px_M} {L : px_L} {R : px_R} {n : Nat} {p1 : Int32} {e : Int32} (hS : SR sh R) (hd : 1 ≤ d) (h : f_X11_layer M p1 = some e) : MX yX11_layer cX11_layer 2 (some .int) d 0 0 X [.ref 0, .int p1] sh M L R n (px_pu (some (.int e)) sh M L R n) := by
  refine MX.of (by decide +kernel) (by exact Nat.le_of_ble_eq_true rfl) ?_
  have hcu : 0 ≤ 0 := Nat.zero_le _
  have hsu : 0 ≤ 0 := Nat.zero_le _
  have g : px_pu (some (.int e)) sh M L R n (some (.int e)) sh M L R n := ⟨rfl, rfl, rfl, rfl, rfl, rfl⟩
  unfold f_X11_layer at h
  refine wx_iload_n dX11_layer_0 rfl ?_
  refine wx_iconst (v := 0) dX11_layer_1 (by decide) ?_
  refine wx_aload_n dX11_layer_2 rfl ?_
  refine wx_getR dX11_layer_3 fl_X11_12 (sc_0 hS) rfl (rr_0_0 hS) ?_
  refine wx_getI dX11_layer_6 fl_X11_77 (sc_1 hS) rfl ?_
  refine wx_iconst (v := 1) dX11_layer_9 (by decide) ?_
  refine wx_isub dX11_layer_10 ?_
  obtain ⟨e_11, k_11, h⟩ := bd1_some h
  refine wx_cSi dX11_layer_11 ml_X11_65 my_X11_within sv_X11_within (s_X11_within (d := d - 1) hS (by omega) k_11) rfl (by omega) (by exact Nat.le_of_ble_eq_true rfl) hcu hsu ?_
  refine wx_if_eq (tgt := 29) dX11_layer_14 (by decide) (fun c_14 => ?_) (fun c_14 => ?_)
  · replace h := it_t h c_14
    refine wx_iconst (v := (-1)) dX11_layer_29 (by decide) ?_
    exact wx_sub (s_X11_layer_30 hS hd hcu hsu h g) px_0
  · replace h := it_f h c_14
    refine wx_aload_n dX11_layer_17 rfl ?_
    refine wx_getR dX11_layer_18 fl_X11_12 (sc_0 hS) rfl (rr_0_0 hS) ?_
    refine wx_getR dX11_layer_21 fl_X11_81 (sc_1 hS) rfl (rr_1_4 hS) ?_
    refine wx_iload_n dX11_layer_24 rfl ?_
    obtain ⟨w_25, h⟩ := ok_some h
    refine wx_iald dX11_layer_25 (sc_2 hS) (ix_in w_25) ?_
    refine wx_goto (tgt := 30) dX11_layer_26 (by decide) ?_
    exact wx_sub (s_X11_layer_30 hS hd hcu hsu h g) px_0
noncomputable def f_X11_feed (M : px_M) (p1 : Int32) (p2 : Int32) (p3 : Int32) (p4 : Int32) (p5 : Int32) : Option (Int32 × px_M) :=
  bd1 (f_X6_hasRoom M) fun e_4 =>
  if e_4 = 0 then
    some ((-1), M)
  else
    bd1 (f_X6_addNumber M p1) fun e_17 =>
    bd1 (f_X6_addNumber e_17 p2) fun e_25 =>
    bd1 (f_X6_addNumber e_25 p3) fun e_33 =>
    bd1 (f_X6_addNumber e_33 p4) fun e_42 =>
    bd1 (f_X6_addNumber e_42 p5) fun e_51 =>
    some ((e_51 20 1), e_51)
theorem s_X11_feed {d : Nat} {X : Nat × (Nat → Int32)} {sh : px_Sh} {M : px_M} {L : px_L} {R : px_R} {n : Nat} {p1 : Int32} {p2 : Int32} {p3 : Int32} {p4 : Int32} {p5 : Int32} {e : Int32 × px_M} (hS : SR sh R) (hd : 1 ≤ d) (h : f_X11_feed M p1 p2 p3 p4 p5 = some e) : MX yX11_feed cX11_feed 6 (some .int) d 0 0 X [.ref 0, .int p1, .int p2, .int p3, .int p4, .int p5] sh M L R n (px_pu (some (.int e.1)) sh e.2 L R n) := by
  refine MX.of (by decide +kernel) (by exact Nat.le_of_ble_eq_true rfl) ?_
  have hcu : 0 ≤ 0 := Nat.zero_le _
  have hsu : 0 ≤ 0 := Nat.zero_le _
  have g : px_pu (some (.int e.1)) sh e.2 L R n (some (.int e.1)) sh e.2 L R n := ⟨rfl, rfl, rfl, rfl, rfl, rfl⟩
  unfold f_X11_feed at h
  refine wx_aload_n dX11_feed_0 rfl ?_
  refine wx_getR dX11_feed_1 fl_X11_33 (sc_0 hS) rfl (rr_0_3 hS) ?_
  obtain ⟨e_4, k_4, h⟩ := bd1_some h
  refine wx_cVi dX11_feed_4 ml_X11_220 my_X6_hasRoom iv_X6_hasRoom (sc_20 hS) (by decide) (s_X6_hasRoom (d := d - 1) hS (by omega) k_4) rfl (by omega) (by exact Nat.le_of_ble_eq_true rfl) hcu hsu ?_
  refine wx_if_ne (tgt := 12) dX11_feed_7 (by decide) (fun c_7 => ?_) (fun c_7 => ?_)
  · replace h := it_f h c_7
    refine wx_aload_n dX11_feed_12 rfl ?_
    refine wx_getR dX11_feed_13 fl_X11_33 (sc_0 hS) rfl (rr_0_3 hS) ?_
    refine wx_iload_n dX11_feed_16 rfl ?_
    obtain ⟨e_17, k_17, h⟩ := bd1_some h
    refine wx_cVv dX11_feed_17 ml_X11_224 my_X6_addNumber iv_X6_addNumber (sc_20 hS) (by decide) (s_X6_addNumber (d := d - 1) hS (by omega) k_17) rfl (by omega) (by exact Nat.le_of_ble_eq_true rfl) hcu hsu ?_
    refine wx_aload_n dX11_feed_20 rfl ?_
    refine wx_getR dX11_feed_21 fl_X11_33 (sc_0 hS) rfl (rr_0_3 hS) ?_
    refine wx_iload_n dX11_feed_24 rfl ?_
    obtain ⟨e_25, k_25, h⟩ := bd1_some h
    refine wx_cVv dX11_feed_25 ml_X11_224 my_X6_addNumber iv_X6_addNumber (sc_20 hS) (by decide) (s_X6_addNumber (d := d - 1) hS (by omega) k_25) rfl (by omega) (by exact Nat.le_of_ble_eq_true rfl) hcu hsu ?_
    refine wx_aload_n dX11_feed_28 rfl ?_
    refine wx_getR dX11_feed_29 fl_X11_33 (sc_0 hS) rfl (rr_0_3 hS) ?_
    refine wx_iload_n dX11_feed_32 rfl ?_
    obtain ⟨e_33, k_33, h⟩ := bd1_some h
    refine wx_cVv dX11_feed_33 ml_X11_224 my_X6_addNumber iv_X6_addNumber (sc_20 hS) (by decide) (s_X6_addNumber (d := d - 1) hS (by omega) k_33) rfl (by omega) (by exact Nat.le_of_ble_eq_true rfl) hcu hsu ?_
    refine wx_aload_n dX11_feed_36 rfl ?_
    refine wx_getR dX11_feed_37 fl_X11_33 (sc_0 hS) rfl (rr_0_3 hS) ?_
    refine wx_iload dX11_feed_40 rfl ?_
    obtain ⟨e_42, k_42, h⟩ := bd1_some h
    refine wx_cVv dX11_feed_42 ml_X11_224 my_X6_addNumber iv_X6_addNumber (sc_20 hS) (by decide) (s_X6_addNumber (d := d - 1) hS (by omega) k_42) rfl (by omega) (by exact Nat.le_of_ble_eq_true rfl) hcu hsu ?_
    refine wx_aload_n dX11_feed_45 rfl ?_
    refine wx_getR dX11_feed_46 fl_X11_33 (sc_0 hS) rfl (rr_0_3 hS) ?_
    refine wx_iload dX11_feed_49 rfl ?_
    obtain ⟨e_51, k_51, h⟩ := bd1_some h
    refine wx_cVv dX11_feed_51 ml_X11_224 my_X6_addNumber iv_X6_addNumber (sc_20 hS) (by decide) (s_X6_addNumber (d := d - 1) hS (by omega) k_51) rfl (by omega) (by exact Nat.le_of_ble_eq_true rfl) hcu hsu ?_
    refine wx_aload_n dX11_feed_54 rfl ?_
    refine wx_getR dX11_feed_55 fl_X11_33 (sc_0 hS) rfl (rr_0_3 hS) ?_
    refine wx_getI dX11_feed_58 fl_X11_228 (sc_20 hS) rfl ?_
    refine wx_iret dX11_feed_61 hcu hsu ?_
    obtain rfl := Option.some.inj h
    exact g
  · replace h := it_t h c_7
    refine wx_iconst (v := (-1)) dX11_feed_10 (by decide) ?_
    refine wx_iret dX11_feed_11 hcu hsu ?_
    obtain rfl := Option.some.inj h
    exact g
noncomputable def f_X11_fault (M : px_M) : Option (Int32) :=
  some (M 20 9)
theorem s_X11_fault {d : Nat} {X : Nat × (Nat → Int32)} {sh : px_Sh} {M : px_M} {L : px_L} {R : px_R} {n : Nat} {e : Int32} (hS : SR sh R) (hd : 0 ≤ d) (h : f_X11_fault M = some e) : MX yX11_fault cX11_fault 1 (some .int) d 0 0 X [.ref 0] sh M L R n (px_pu (some (.int e)) sh M L R n) := by
  refine MX.of (by decide +kernel) (by exact Nat.le_of_ble_eq_true rfl) ?_
  have hcu : 0 ≤ 0 := Nat.zero_le _
  have hsu : 0 ≤ 0 := Nat.zero_le _
  have g : px_pu (some (.int e)) sh M L R n (some (.int e)) sh M L R n := ⟨rfl, rfl, rfl, rfl, rfl, rfl⟩
  unfold f_X11_fault at h
  refine wx_aload_n dX11_fault_0 rfl ?_
  refine wx_getR dX11_fault_1 fl_X11_33 (sc_0 hS) rfl (rr_0_3 hS) ?_
  refine wx_getI dX11_fault_4 fl_X11_243 (sc_20 hS) rfl ?_
  refine wx_iret dX11_fault_7 hcu hsu ?_
  obtain rfl := Option.some.inj h
  exact g
noncomputable def f_X11_asks_46 (sh : px_Sh) (M : px_M) (R : px_R) (z0 : Int32) : Option (Int32 × px_M) :=
  some (z0, M)
theorem s_X11_asks_46 {z0 : Int32} {M : px_M} {L : px_L} {R : px_R} {e : (Int32 × px_M)} (hS : SR sh R) (hd : 5 ≤ d) (hcu : cu ≤ mc) (hsu : su ≤ ms) (h : f_X11_asks_46 sh M R z0 = some e) (g : Post (some (.int (e.1))) sh (e.2) L R n) : WX RX11 cX11_asks 2 (some .int) ("asks", []) d mc ms X (px_QF Post mc ms) 46 [] [.int z0] sh M L R n cu su := by
  unfold f_X11_asks_46 at h
  refine wx_iret dX11_asks_46 hcu hsu ?_
  obtain rfl := Option.some.inj h
  exact g
noncomputable def f_X11_asks (sh : px_Sh) (M : px_M) (R : px_R) : Option (Int32 × px_M) :=
  bd1 (R 0 7) fun b_9 =>
  bd1 (f_X8_strength sh M R) fun e_16 =>
  bd1 (f_X9_firstRule sh M R b_9 e_16) fun e_19 =>
  if e_19.1 = (-1) then
    f_X11_asks_46 sh e_19.2 R (-9)
  else
    bd1 (R 0 7) fun b_38 =>
    ok (hk sh b_38 7) <|
    bd1 (f_X7_steerOf sh e_19.2 R b_38 e_19.1) fun e_42 =>
    f_X11_asks_46 sh e_19.2 R ((10 * e_19.1) + e_42)
theorem s_X11_asks {d : Nat} {X : Nat × (Nat → Int32)} {sh : px_Sh} {M : px_M} {L : px_L} {R : px_R} {n : Nat} {e : Int32 × px_M} (hS : SR sh R) (hd : 5 ≤ d) (h : f_X11_asks sh M R = some e) : MX yX11_asks cX11_asks 2 (some .int) d 0 0 X [.ref 0] sh M L R n (px_pu (some (.int e.1)) sh e.2 L R n) := by
  refine MX.of (by decide +kernel) (by exact Nat.le_of_ble_eq_true rfl) ?_
  have hcu : 0 ≤ 0 := Nat.zero_le _
  have hsu : 0 ≤ 0 := Nat.zero_le _
  have g : px_pu (some (.int e.1)) sh e.2 L R n (some (.int e.1)) sh e.2 L R n := ⟨rfl, rfl, rfl, rfl, rfl, rfl⟩
  unfold f_X11_asks at h
  refine wx_aload_n dX11_asks_0 rfl ?_
  refine wx_getR dX11_asks_1 fl_X11_26 (sc_0 hS) rfl (rr_0_2 hS) ?_
  refine wx_aload_n dX11_asks_4 rfl ?_
  refine wx_getR dX11_asks_5 fl_X11_19 (sc_0 hS) rfl (rr_0_1 hS) ?_
  refine wx_aload_n dX11_asks_8 rfl ?_
  obtain ⟨b_9, w_9, h⟩ := bd1_some h
  refine wx_getR dX11_asks_9 fl_X11_61 (sc_0 hS) rfl w_9 ?_
  refine wx_aload_n dX11_asks_12 rfl ?_
  refine wx_getR dX11_asks_13 fl_X11_19 (sc_0 hS) rfl (rr_0_1 hS) ?_
  obtain ⟨e_16, k_16, h⟩ := bd1_some h
  refine wx_cVi dX11_asks_16 ml_X11_208 my_X8_strength iv_X8_strength (sc_6 hS) (by decide) (s_X8_strength (d := d - 1) hS (by omega) k_16) rfl (by omega) (by exact Nat.le_of_ble_eq_true rfl) hcu hsu ?_
  obtain ⟨e_19, k_19, h⟩ := bd1_some h
  refine wx_cVi dX11_asks_19 ml_X11_246 my_X9_firstRule iv_X9_firstRule (sc_14 hS) (by decide) (s_X9_firstRule (d := d - 1) hS (by omega) k_19) rfl (by omega) (by exact Nat.le_of_ble_eq_true rfl) hcu hsu ?_
  refine wx_istore_n (lv' := [(1, _), (0, _)]) dX11_asks_22 (by decide) rfl ?_
  refine wx_iload_n dX11_asks_23 rfl ?_
  refine wx_iconst (v := (-1)) dX11_asks_24 (by decide) ?_
  refine wx_icmp_ne (tgt := 33) dX11_asks_25 (by decide) (fun c_25 => ?_) (fun c_25 => ?_)
  · replace h := it_f h c_25
    refine wx_bipush (v := 10) dX11_asks_33 (by decide) ?_
    refine wx_iload_n dX11_asks_35 rfl ?_
    refine wx_imul dX11_asks_36 ?_
    refine wx_aload_n dX11_asks_37 rfl ?_
    obtain ⟨b_38, w_38, h⟩ := bd1_some h
    refine wx_getR dX11_asks_38 fl_X11_61 (sc_0 hS) rfl w_38 ?_
    refine wx_iload_n dX11_asks_41 rfl ?_
    obtain ⟨ws_42, h⟩ := ok_some h
    obtain ⟨ln_42, wt_42⟩ := hk_some ws_42
    obtain ⟨e_42, k_42, h⟩ := bd1_some h
    refine wx_cVi dX11_asks_42 ml_X11_250 my_X7_steerOf iv_X7_steerOf wt_42 (by decide) (s_X7_steerOf (d := d - 1) hS (by omega) k_42) rfl (by omega) (by exact Nat.le_of_ble_eq_true rfl) hcu hsu ?_
    refine wx_iadd dX11_asks_45 ?_
    exact wx_sub (s_X11_asks_46 hS hd hcu hsu h g) px_0
  · replace h := it_t h c_25
    refine wx_bipush (v := (-9)) dX11_asks_28 (by decide) ?_
    refine wx_goto (tgt := 46) dX11_asks_30 (by decide) ?_
    exact wx_sub (s_X11_asks_46 hS hd hcu hsu h g) px_0
noncomputable def f_X11_hangs (sh : px_Sh) (M : px_M) (L : px_L) (R : px_R) : Option (Int32 × px_M × px_L × px_R) :=
  bd1 (f_X4_settle sh M L R) fun e_4 =>
  ok (zb (e_4.1 40 10)) <|
  some ((e_4.1 40 10), e_4.1, e_4.2.1, e_4.2.2)
theorem s_X11_hangs {d : Nat} {X : Nat × (Nat → Int32)} {sh : px_Sh} {M : px_M} {L : px_L} {R : px_R} {n : Nat} {e : Int32 × px_M × px_L × px_R} (hS : SR sh R) (hd : 6 ≤ d) (h : f_X11_hangs sh M L R = some e) : MX yX11_hangs cX11_hangs 1 (some .boolean) d 0 0 X [.ref 0] sh M L R n (px_ps (some (.int e.1)) sh e.2.1 e.2.2.1 e.2.2.2 n) := by
  refine MX.of (by decide +kernel) (by exact Nat.le_of_ble_eq_true rfl) ?_
  have hcu : 0 ≤ 0 := Nat.zero_le _
  have hsu : 0 ≤ 0 := Nat.zero_le _
  have g : SR sh e.2.2.2 → px_ps (some (.int e.1)) sh e.2.1 e.2.2.1 e.2.2.2 n (some (.int e.1)) sh e.2.1 e.2.2.1 e.2.2.2 n := fun q => ⟨⟨rfl, rfl, rfl, rfl, rfl, rfl⟩, q⟩
  unfold f_X11_hangs at h
  refine wx_aload_n dX11_hangs_0 rfl ?_
  refine wx_getR dX11_hangs_1 fl_X11_47 (sc_0 hS) rfl (rr_0_5 hS) ?_
  obtain ⟨e_4, k_4, h⟩ := bd1_some h
  refine wx_cVvS dX11_hangs_4 ml_X11_300 my_X4_settle iv_X4_settle (sc_40 hS) (by decide) (s_X4_settle (d := d - 1) hS (by omega) k_4) rfl (by omega) (by exact Nat.le_of_ble_eq_true rfl) hcu hsu (fun hS => ?_)
  refine wx_aload_n dX11_hangs_7 rfl ?_
  refine wx_getR dX11_hangs_8 fl_X11_47 (sc_0 hS) rfl (rr_0_5 hS) ?_
  refine wx_getI dX11_hangs_11 fl_X11_303 (sc_40 hS) rfl ?_
  obtain ⟨w_14, h⟩ := ok_some h
  refine wx_zret dX11_hangs_14 (zb_n w_14) hcu hsu ?_
  obtain rfl := Option.some.inj h
  exact g hS
noncomputable def f_X11_cut (M : px_M) : Option (Int32 × px_M) :=
  bd1 (f_X4_cutAll M) fun e_4 =>
  some (e_4.1, e_4.2)
theorem s_X11_cut {d : Nat} {X : Nat × (Nat → Int32)} {sh : px_Sh} {M : px_M} {L : px_L} {R : px_R} {n : Nat} {e : Int32 × px_M} (hS : SR sh R) (hd : 1 ≤ d) (h : f_X11_cut M = some e) : MX yX11_cut cX11_cut 1 (some .int) d 0 0 X [.ref 0] sh M L R n (px_pu (some (.int e.1)) sh e.2 L R n) := by
  refine MX.of (by decide +kernel) (by exact Nat.le_of_ble_eq_true rfl) ?_
  have hcu : 0 ≤ 0 := Nat.zero_le _
  have hsu : 0 ≤ 0 := Nat.zero_le _
  have g : px_pu (some (.int e.1)) sh e.2 L R n (some (.int e.1)) sh e.2 L R n := ⟨rfl, rfl, rfl, rfl, rfl, rfl⟩
  unfold f_X11_cut at h
  refine wx_aload_n dX11_cut_0 rfl ?_
  refine wx_getR dX11_cut_1 fl_X11_47 (sc_0 hS) rfl (rr_0_5 hS) ?_
  obtain ⟨e_4, k_4, h⟩ := bd1_some h
  refine wx_cVi dX11_cut_4 ml_X11_324 my_X4_cutAll iv_X4_cutAll (sc_40 hS) (by decide) (s_X4_cutAll (d := d - 1) hS (by omega) k_4) rfl (by omega) (by exact Nat.le_of_ble_eq_true rfl) hcu hsu ?_
  refine wx_iret dX11_cut_7 hcu hsu ?_
  obtain rfl := Option.some.inj h
  exact g
noncomputable def f_X11_count_193 (sh : px_Sh) (M : px_M) (R : px_R) (z0 : Int32) : Option (Int32) :=
  some z0
theorem s_X11_count_193 {z0 : Int32} {M : px_M} {L : px_L} {R : px_R} {e : (Int32)} (hS : SR sh R) (hd : 5 ≤ d) (hcu : cu ≤ mc) (hsu : su ≤ ms) (h : f_X11_count_193 sh M R z0 = some e) (g : Post (some (.int e)) sh M L R n) : WX RX11 cX11_count 2 (some .int) ("count", []) d mc ms X (px_QF Post mc ms) 193 [] [.int z0] sh M L R n cu su := by
  unfold f_X11_count_193 at h
  refine wx_iret dX11_count_193 hcu hsu ?_
  obtain rfl := Option.some.inj h
  exact g
noncomputable def f_X11_count (sh : px_Sh) (M : px_M) (R : px_R) (p1 : Int32) : Option (Int32) :=
  if p1 = 0 then
    some (M 14 0)
  else if p1 = 1 then
    some (M 14 1)
  else if p1 = 2 then
    some (M 14 2)
  else if p1 = 3 then
    some (M 6 1)
  else if p1 = 4 then
    some (M 6 3)
  else if p1 = 5 then
    some (M 14 5)
  else if p1 = 6 then
    bd1 (R 0 7) fun b_137 =>
    ok (hk sh b_137 7) <|
    some (M b_137 5)
  else if p1 = 7 then
    bd1 (f_X8_strength sh M R) fun e_148 =>
    some e_148
  else if p1 = 8 then
    bd1 (f_X8_strength sh M R) fun e_163 =>
    bd1 (f_X11_stepsAt (M 14 1) e_163) fun e_166 =>
    some e_166
  else if p1 = 9 then
    some (M 20 1)
  else if p1 = 10 then
    bd1 (f_X9_isGoalMet sh M R) fun e_182 =>
    if e_182 = 0 then
      f_X11_count_193 sh M R 0
    else
      f_X11_count_193 sh M R 1
  else if p1 = 11 then
    some (M 27 2)
  else if p1 = 12 then
    some (M 27 6)
  else if p1 = 13 then
    some (M 14 8)
  else if p1 = 14 then
    bd1 (f_J6_bitCount_0f7a4 (M 1 2)) fun e_225 =>
    some e_225
  else if p1 = 15 then
    some (M 40 5)
  else if p1 = 16 then
    some (M 40 8)
  else if p1 = 17 then
    some (M 61 4)
  else some (-1)
theorem s_X11_count {d : Nat} {X : Nat × (Nat → Int32)} {sh : px_Sh} {M : px_M} {L : px_L} {R : px_R} {n : Nat} {p1 : Int32} {e : Int32} (hS : SR sh R) (hd : 5 ≤ d) (h : f_X11_count sh M R p1 = some e) : MX yX11_count cX11_count 2 (some .int) d 0 0 X [.ref 0, .int p1] sh M L R n (px_pu (some (.int e)) sh M L R n) := by
  refine MX.of (by decide +kernel) (by exact Nat.le_of_ble_eq_true rfl) ?_
  have hcu : 0 ≤ 0 := Nat.zero_le _
  have hsu : 0 ≤ 0 := Nat.zero_le _
  have g : px_pu (some (.int e)) sh M L R n (some (.int e)) sh M L R n := ⟨rfl, rfl, rfl, rfl, rfl, rfl⟩
  unfold f_X11_count at h
  refine wx_iload_n dX11_count_0 rfl ?_
  by_cases c_1_0 : p1 = 0
  · replace h := it_t h c_1_0
    refine wx_ts (tgt := 88) dX11_count_1 c_1_0 (by decide) (by decide) rfl (by decide) ?_
    refine wx_aload_n dX11_count_88 rfl ?_
    refine wx_getR dX11_count_89 fl_X11_26 (sc_0 hS) rfl (rr_0_2 hS) ?_
    refine wx_getI dX11_count_92 fl_X11_253 (sc_14 hS) rfl ?_
    refine wx_iret dX11_count_95 hcu hsu ?_
    obtain rfl := Option.some.inj h
    exact g
  replace h := it_f h c_1_0
  by_cases c_1_1 : p1 = 1
  · replace h := it_t h c_1_1
    refine wx_ts (tgt := 96) dX11_count_1 c_1_1 (by decide) (by decide) rfl (by decide) ?_
    refine wx_aload_n dX11_count_96 rfl ?_
    refine wx_getR dX11_count_97 fl_X11_26 (sc_0 hS) rfl (rr_0_2 hS) ?_
    refine wx_getI dX11_count_100 fl_X11_344 (sc_14 hS) rfl ?_
    refine wx_iret dX11_count_103 hcu hsu ?_
    obtain rfl := Option.some.inj h
    exact g
  replace h := it_f h c_1_1
  by_cases c_1_2 : p1 = 2
  · replace h := it_t h c_1_2
    refine wx_ts (tgt := 104) dX11_count_1 c_1_2 (by decide) (by decide) rfl (by decide) ?_
    refine wx_aload_n dX11_count_104 rfl ?_
    refine wx_getR dX11_count_105 fl_X11_26 (sc_0 hS) rfl (rr_0_2 hS) ?_
    refine wx_getI dX11_count_108 fl_X11_347 (sc_14 hS) rfl ?_
    refine wx_iret dX11_count_111 hcu hsu ?_
    obtain rfl := Option.some.inj h
    exact g
  replace h := it_f h c_1_2
  by_cases c_1_3 : p1 = 3
  · replace h := it_t h c_1_3
    refine wx_ts (tgt := 112) dX11_count_1 c_1_3 (by decide) (by decide) rfl (by decide) ?_
    refine wx_aload_n dX11_count_112 rfl ?_
    refine wx_getR dX11_count_113 fl_X11_19 (sc_0 hS) rfl (rr_0_1 hS) ?_
    refine wx_getI dX11_count_116 fl_X11_350 (sc_6 hS) rfl ?_
    refine wx_iret dX11_count_119 hcu hsu ?_
    obtain rfl := Option.some.inj h
    exact g
  replace h := it_f h c_1_3
  by_cases c_1_4 : p1 = 4
  · replace h := it_t h c_1_4
    refine wx_ts (tgt := 120) dX11_count_1 c_1_4 (by decide) (by decide) rfl (by decide) ?_
    refine wx_aload_n dX11_count_120 rfl ?_
    refine wx_getR dX11_count_121 fl_X11_19 (sc_0 hS) rfl (rr_0_1 hS) ?_
    refine wx_getI dX11_count_124 fl_X11_181 (sc_6 hS) rfl ?_
    refine wx_iret dX11_count_127 hcu hsu ?_
    obtain rfl := Option.some.inj h
    exact g
  replace h := it_f h c_1_4
  by_cases c_1_5 : p1 = 5
  · replace h := it_t h c_1_5
    refine wx_ts (tgt := 128) dX11_count_1 c_1_5 (by decide) (by decide) rfl (by decide) ?_
    refine wx_aload_n dX11_count_128 rfl ?_
    refine wx_getR dX11_count_129 fl_X11_26 (sc_0 hS) rfl (rr_0_2 hS) ?_
    refine wx_getI dX11_count_132 fl_X11_353 (sc_14 hS) rfl ?_
    refine wx_iret dX11_count_135 hcu hsu ?_
    obtain rfl := Option.some.inj h
    exact g
  replace h := it_f h c_1_5
  by_cases c_1_6 : p1 = 6
  · replace h := it_t h c_1_6
    refine wx_ts (tgt := 136) dX11_count_1 c_1_6 (by decide) (by decide) rfl (by decide) ?_
    refine wx_aload_n dX11_count_136 rfl ?_
    obtain ⟨b_137, w_137, h⟩ := bd1_some h
    refine wx_getR dX11_count_137 fl_X11_61 (sc_0 hS) rfl w_137 ?_
    obtain ⟨ws_140, h⟩ := ok_some h
    obtain ⟨ln_140, wt_140⟩ := hk_some ws_140
    refine wx_getI dX11_count_140 fl_X11_240 wt_140 rfl ?_
    refine wx_iret dX11_count_143 hcu hsu ?_
    obtain rfl := Option.some.inj h
    exact g
  replace h := it_f h c_1_6
  by_cases c_1_7 : p1 = 7
  · replace h := it_t h c_1_7
    refine wx_ts (tgt := 144) dX11_count_1 c_1_7 (by decide) (by decide) rfl (by decide) ?_
    refine wx_aload_n dX11_count_144 rfl ?_
    refine wx_getR dX11_count_145 fl_X11_19 (sc_0 hS) rfl (rr_0_1 hS) ?_
    obtain ⟨e_148, k_148, h⟩ := bd1_some h
    refine wx_cVi dX11_count_148 ml_X11_208 my_X8_strength iv_X8_strength (sc_6 hS) (by decide) (s_X8_strength (d := d - 1) hS (by omega) k_148) rfl (by omega) (by exact Nat.le_of_ble_eq_true rfl) hcu hsu ?_
    refine wx_iret dX11_count_151 hcu hsu ?_
    obtain rfl := Option.some.inj h
    exact g
  replace h := it_f h c_1_7
  by_cases c_1_8 : p1 = 8
  · replace h := it_t h c_1_8
    refine wx_ts (tgt := 152) dX11_count_1 c_1_8 (by decide) (by decide) rfl (by decide) ?_
    refine wx_aload_n dX11_count_152 rfl ?_
    refine wx_getR dX11_count_153 fl_X11_26 (sc_0 hS) rfl (rr_0_2 hS) ?_
    refine wx_getI dX11_count_156 fl_X11_344 (sc_14 hS) rfl ?_
    refine wx_aload_n dX11_count_159 rfl ?_
    refine wx_getR dX11_count_160 fl_X11_19 (sc_0 hS) rfl (rr_0_1 hS) ?_
    obtain ⟨e_163, k_163, h⟩ := bd1_some h
    refine wx_cVi dX11_count_163 ml_X11_208 my_X8_strength iv_X8_strength (sc_6 hS) (by decide) (s_X8_strength (d := d - 1) hS (by omega) k_163) rfl (by omega) (by exact Nat.le_of_ble_eq_true rfl) hcu hsu ?_
    obtain ⟨e_166, k_166, h⟩ := bd1_some h
    refine wx_cSi dX11_count_166 ml_X11_356 my_X11_stepsAt sv_X11_stepsAt (s_X11_stepsAt (d := d - 1) hS (by omega) k_166) rfl (by omega) (by exact Nat.le_of_ble_eq_true rfl) hcu hsu ?_
    refine wx_iret dX11_count_169 hcu hsu ?_
    obtain rfl := Option.some.inj h
    exact g
  replace h := it_f h c_1_8
  by_cases c_1_9 : p1 = 9
  · replace h := it_t h c_1_9
    refine wx_ts (tgt := 170) dX11_count_1 c_1_9 (by decide) (by decide) rfl (by decide) ?_
    refine wx_aload_n dX11_count_170 rfl ?_
    refine wx_getR dX11_count_171 fl_X11_33 (sc_0 hS) rfl (rr_0_3 hS) ?_
    refine wx_getI dX11_count_174 fl_X11_228 (sc_20 hS) rfl ?_
    refine wx_iret dX11_count_177 hcu hsu ?_
    obtain rfl := Option.some.inj h
    exact g
  replace h := it_f h c_1_9
  by_cases c_1_10 : p1 = 10
  · replace h := it_t h c_1_10
    refine wx_ts (tgt := 178) dX11_count_1 c_1_10 (by decide) (by decide) rfl (by decide) ?_
    refine wx_aload_n dX11_count_178 rfl ?_
    refine wx_getR dX11_count_179 fl_X11_26 (sc_0 hS) rfl (rr_0_2 hS) ?_
    obtain ⟨e_182, k_182, h⟩ := bd1_some h
    refine wx_cVi dX11_count_182 ml_X11_359 my_X9_isGoalMet iv_X9_isGoalMet (sc_14 hS) (by decide) (s_X9_isGoalMet (d := d - 1) hS (by omega) k_182) rfl (by omega) (by exact Nat.le_of_ble_eq_true rfl) hcu hsu ?_
    refine wx_if_eq (tgt := 192) dX11_count_185 (by decide) (fun c_185 => ?_) (fun c_185 => ?_)
    · replace h := it_t h c_185
      refine wx_iconst (v := 0) dX11_count_192 (by decide) ?_
      exact wx_sub (s_X11_count_193 hS hd hcu hsu h g) px_0
    · replace h := it_f h c_185
      refine wx_iconst (v := 1) dX11_count_188 (by decide) ?_
      refine wx_goto (tgt := 193) dX11_count_189 (by decide) ?_
      exact wx_sub (s_X11_count_193 hS hd hcu hsu h g) px_0
  replace h := it_f h c_1_10
  by_cases c_1_11 : p1 = 11
  · replace h := it_t h c_1_11
    refine wx_ts (tgt := 194) dX11_count_1 c_1_11 (by decide) (by decide) rfl (by decide) ?_
    refine wx_aload_n dX11_count_194 rfl ?_
    refine wx_getR dX11_count_195 fl_X11_40 (sc_0 hS) rfl (rr_0_4 hS) ?_
    refine wx_getI dX11_count_198 fl_X11_362 (sc_27 hS) rfl ?_
    refine wx_iret dX11_count_201 hcu hsu ?_
    obtain rfl := Option.some.inj h
    exact g
  replace h := it_f h c_1_11
  by_cases c_1_12 : p1 = 12
  · replace h := it_t h c_1_12
    refine wx_ts (tgt := 202) dX11_count_1 c_1_12 (by decide) (by decide) rfl (by decide) ?_
    refine wx_aload_n dX11_count_202 rfl ?_
    refine wx_getR dX11_count_203 fl_X11_40 (sc_0 hS) rfl (rr_0_4 hS) ?_
    refine wx_getI dX11_count_206 fl_X11_365 (sc_27 hS) rfl ?_
    refine wx_iret dX11_count_209 hcu hsu ?_
    obtain rfl := Option.some.inj h
    exact g
  replace h := it_f h c_1_12
  by_cases c_1_13 : p1 = 13
  · replace h := it_t h c_1_13
    refine wx_ts (tgt := 210) dX11_count_1 c_1_13 (by decide) (by decide) rfl (by decide) ?_
    refine wx_aload_n dX11_count_210 rfl ?_
    refine wx_getR dX11_count_211 fl_X11_26 (sc_0 hS) rfl (rr_0_2 hS) ?_
    refine wx_getI dX11_count_214 fl_X11_368 (sc_14 hS) rfl ?_
    refine wx_iret dX11_count_217 hcu hsu ?_
    obtain rfl := Option.some.inj h
    exact g
  replace h := it_f h c_1_13
  by_cases c_1_14 : p1 = 14
  · replace h := it_t h c_1_14
    refine wx_ts (tgt := 218) dX11_count_1 c_1_14 (by decide) (by decide) rfl (by decide) ?_
    refine wx_aload_n dX11_count_218 rfl ?_
    refine wx_getR dX11_count_219 fl_X11_12 (sc_0 hS) rfl (rr_0_0 hS) ?_
    refine wx_getI dX11_count_222 fl_X11_98 (sc_1 hS) rfl ?_
    obtain ⟨e_225, k_225, h⟩ := bd1_some h
    refine wx_cSi dX11_count_225 ml_X11_371 my_J6_bitCount_0f7a4 sv_J6_bitCount_0f7a4 (s_J6_bitCount_0f7a4 (d := d - 1) hS (by omega) k_225) rfl (by omega) (by exact Nat.le_of_ble_eq_true rfl) hcu hsu ?_
    refine wx_iret dX11_count_228 hcu hsu ?_
    obtain rfl := Option.some.inj h
    exact g
  replace h := it_f h c_1_14
  by_cases c_1_15 : p1 = 15
  · replace h := it_t h c_1_15
    refine wx_ts (tgt := 229) dX11_count_1 c_1_15 (by decide) (by decide) rfl (by decide) ?_
    refine wx_aload_n dX11_count_229 rfl ?_
    refine wx_getR dX11_count_230 fl_X11_47 (sc_0 hS) rfl (rr_0_5 hS) ?_
    refine wx_getI dX11_count_233 fl_X11_376 (sc_40 hS) rfl ?_
    refine wx_iret dX11_count_236 hcu hsu ?_
    obtain rfl := Option.some.inj h
    exact g
  replace h := it_f h c_1_15
  by_cases c_1_16 : p1 = 16
  · replace h := it_t h c_1_16
    refine wx_ts (tgt := 237) dX11_count_1 c_1_16 (by decide) (by decide) rfl (by decide) ?_
    refine wx_aload_n dX11_count_237 rfl ?_
    refine wx_getR dX11_count_238 fl_X11_47 (sc_0 hS) rfl (rr_0_5 hS) ?_
    refine wx_getI dX11_count_241 fl_X11_379 (sc_40 hS) rfl ?_
    refine wx_iret dX11_count_244 hcu hsu ?_
    obtain rfl := Option.some.inj h
    exact g
  replace h := it_f h c_1_16
  by_cases c_1_17 : p1 = 17
  · replace h := it_t h c_1_17
    refine wx_ts (tgt := 245) dX11_count_1 c_1_17 (by decide) (by decide) rfl (by decide) ?_
    refine wx_aload_n dX11_count_245 rfl ?_
    refine wx_getR dX11_count_246 fl_X11_54 (sc_0 hS) rfl (rr_0_6 hS) ?_
    refine wx_getI dX11_count_249 fl_X11_382 (sc_61 hS) rfl ?_
    refine wx_iret dX11_count_252 hcu hsu ?_
    obtain rfl := Option.some.inj h
    exact g
  replace h := it_f h c_1_17
  have n_1_0 := ts_ne (j := 0) c_1_0 (by decide)
  have n_1_1 := ts_ne (j := 1) c_1_1 (by decide)
  have n_1_2 := ts_ne (j := 2) c_1_2 (by decide)
  have n_1_3 := ts_ne (j := 3) c_1_3 (by decide)
  have n_1_4 := ts_ne (j := 4) c_1_4 (by decide)
  have n_1_5 := ts_ne (j := 5) c_1_5 (by decide)
  have n_1_6 := ts_ne (j := 6) c_1_6 (by decide)
  have n_1_7 := ts_ne (j := 7) c_1_7 (by decide)
  have n_1_8 := ts_ne (j := 8) c_1_8 (by decide)
  have n_1_9 := ts_ne (j := 9) c_1_9 (by decide)
  have n_1_10 := ts_ne (j := 10) c_1_10 (by decide)
  have n_1_11 := ts_ne (j := 11) c_1_11 (by decide)
  have n_1_12 := ts_ne (j := 12) c_1_12 (by decide)
  have n_1_13 := ts_ne (j := 13) c_1_13 (by decide)
  have n_1_14 := ts_ne (j := 14) c_1_14 (by decide)
  have n_1_15 := ts_ne (j := 15) c_1_15 (by decide)
  have n_1_16 := ts_ne (j := 16) c_1_16 (by decide)
  have n_1_17 := ts_ne (j := 17) c_1_17 (by decide)
  refine wx_tsOut (tgt := 253) dX11_count_1 (by omega) (by decide) ?_
  refine wx_iconst (v := (-1)) dX11_count_253 (by decide) ?_
  refine wx_iret dX11_count_254 hcu hsu ?_
  obtain rfl := Option.some.inj h
  exact g
noncomputable def f_X11_isFitLength_25 (M : px_M) (z0 : Int32) : Option (Int32) :=
  ok (zb z0) <|
  some z0
theorem s_X11_isFitLength_25 {z0 : Int32} {M : px_M} {L : px_L} {R : px_R} {e : (Int32)} (hS : SR sh R) (hd : 1 ≤ d) (hcu : cu ≤ mc) (hsu : su ≤ ms) (h : f_X11_isFitLength_25 M z0 = some e) (g : Post (some (.int e)) sh M L R n) : WX RX11 cX11_isFitLength 2 (some .boolean) ("isFitLength", []) d mc ms X (px_QF Post mc ms) 25 [] [.int z0] sh M L R n cu su := by
  unfold f_X11_isFitLength_25 at h
  obtain ⟨w_25, h⟩ := ok_some h
  refine wx_zret dX11_isFitLength_25 (zb_n w_25) hcu hsu ?_
  obtain rfl := Option.some.inj h
  exact g
noncomputable def f_X11_isFitLength_24 (M : px_M) : Option (Int32) :=
  f_X11_isFitLength_25 M 0
theorem s_X11_isFitLength_24 {M : px_M} {L : px_L} {R : px_R} {e : (Int32)} (hS : SR sh R) (hd : 1 ≤ d) (hcu : cu ≤ mc) (hsu : su ≤ ms) (h : f_X11_isFitLength_24 M = some e) (g : Post (some (.int e)) sh M L R n) : WX RX11 cX11_isFitLength 2 (some .boolean) ("isFitLength", []) d mc ms X (px_QF Post mc ms) 24 [] [] sh M L R n cu su := by
  unfold f_X11_isFitLength_24 at h
  refine wx_iconst (v := 0) dX11_isFitLength_24 (by decide) ?_
  exact wx_sub (s_X11_isFitLength_25 hS hd hcu hsu h g) px_0
noncomputable def f_X11_isFitLength (M : px_M) (p1 : Int32) : Option (Int32) :=
  bd1 (f_X11_within p1 1 4) fun e_3 =>
  if e_3 = 0 then
    f_X11_isFitLength_24 M
  else
    if (M 6 1) < p1 then
      f_X11_isFitLength_24 M
    else
      f_X11_isFitLength_25 M 1
theorem s_X11_isFitLength {d : Nat} {X : Nat × (Nat → Int32)} {sh : px_Sh} {M : px_M} {L : px_L} {R : px_R} {n : Nat} {p1 : Int32} {e : Int32} (hS : SR sh R) (hd : 1 ≤ d) (h : f_X11_isFitLength M p1 = some e) : MX yX11_isFitLength cX11_isFitLength 2 (some .boolean) d 0 0 X [.ref 0, .int p1] sh M L R n (px_pu (some (.int e)) sh M L R n) := by
  refine MX.of (by decide +kernel) (by exact Nat.le_of_ble_eq_true rfl) ?_
  have hcu : 0 ≤ 0 := Nat.zero_le _
  have hsu : 0 ≤ 0 := Nat.zero_le _
  have g : px_pu (some (.int e)) sh M L R n (some (.int e)) sh M L R n := ⟨rfl, rfl, rfl, rfl, rfl, rfl⟩
  unfold f_X11_isFitLength at h
  refine wx_iload_n dX11_isFitLength_0 rfl ?_
  refine wx_iconst (v := 1) dX11_isFitLength_1 (by decide) ?_
  refine wx_iconst (v := 4) dX11_isFitLength_2 (by decide) ?_
  obtain ⟨e_3, k_3, h⟩ := bd1_some h
  refine wx_cSi dX11_isFitLength_3 ml_X11_65 my_X11_within sv_X11_within (s_X11_within (d := d - 1) hS (by omega) k_3) rfl (by omega) (by exact Nat.le_of_ble_eq_true rfl) hcu hsu ?_
  refine wx_if_eq (tgt := 24) dX11_isFitLength_6 (by decide) (fun c_6 => ?_) (fun c_6 => ?_)
  · replace h := it_t h c_6
    exact wx_sub (s_X11_isFitLength_24 hS hd hcu hsu h g) px_0
  · replace h := it_f h c_6
    refine wx_iload_n dX11_isFitLength_9 rfl ?_
    refine wx_aload_n dX11_isFitLength_10 rfl ?_
    refine wx_getR dX11_isFitLength_11 fl_X11_19 (sc_0 hS) rfl (rr_0_1 hS) ?_
    refine wx_getI dX11_isFitLength_14 fl_X11_350 (sc_6 hS) rfl ?_
    refine wx_icmp_gt (tgt := 24) dX11_isFitLength_17 (by decide) (fun c_17 => ?_) (fun c_17 => ?_)
    · replace h := it_t h c_17
      exact wx_sub (s_X11_isFitLength_24 hS hd hcu hsu h g) px_0
    · replace h := it_f h c_17
      refine wx_iconst (v := 1) dX11_isFitLength_20 (by decide) ?_
      refine wx_goto (tgt := 25) dX11_isFitLength_21 (by decide) ?_
      exact wx_sub (s_X11_isFitLength_25 hS hd hcu hsu h g) px_0
end LIFT
