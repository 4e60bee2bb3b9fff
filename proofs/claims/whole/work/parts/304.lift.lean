/-! World and Chart -/
section LIFT
variable {d mc ms : Nat} {X : Nat × (Nat → Int32)} {Post : px_Post} {sh : px_Sh} {n cu su : Nat}
noncomputable def f_X10_angleOn (sh : px_Sh) (M : px_M) (a0 : Nat) (p1 : Int32) : Option (Int32) :=
  ok (hk sh a0 10) <|
  ok (hk sh a0 10) <|
  some (((M a0 1) + ((M a0 2) * p1)) - ((M a0 1) + ((M a0 2) * p1)) / 72 * 72)
theorem s_X10_angleOn {d : Nat} {X : Nat × (Nat → Int32)} {sh : px_Sh} {M : px_M} {L : px_L} {R : px_R} {n : Nat} {a0 : Nat} {p1 : Int32} {e : Int32} (hS : SR sh R) (hd : 0 ≤ d) (h : f_X10_angleOn sh M a0 p1 = some e) : MX yX10_angleOn cX10_angleOn 2 (some .int) d 0 0 X [.ref a0, .int p1] sh M L R n (px_pu (some (.int e)) sh M L R n) := by
  refine MX.of (by decide +kernel) (by exact Nat.le_of_ble_eq_true rfl) ?_
  have hcu : 0 ≤ 0 := Nat.zero_le _
  have hsu : 0 ≤ 0 := Nat.zero_le _
  have g : px_pu (some (.int e)) sh M L R n (some (.int e)) sh M L R n := ⟨rfl, rfl, rfl, rfl, rfl, rfl⟩
  unfold f_X10_angleOn at h
  refine wx_aload_n dX10_angleOn_0 rfl ?_
  obtain ⟨ws_1, h⟩ := ok_some h
  obtain ⟨ln_1, wt_1⟩ := hk_some ws_1
  refine wx_getI dX10_angleOn_1 fl_X10_13 wt_1 rfl ?_
  refine wx_aload_n dX10_angleOn_4 rfl ?_
  obtain ⟨ws_5, h⟩ := ok_some h
  obtain ⟨ln_5, wt_5⟩ := hk_some ws_5
  refine wx_getI dX10_angleOn_5 fl_X10_16 wt_5 rfl ?_
  refine wx_iload_n dX10_angleOn_8 rfl ?_
  refine wx_imul dX10_angleOn_9 ?_
  refine wx_iadd dX10_angleOn_10 ?_
  refine wx_bipush (v := 72) dX10_angleOn_11 (by decide) ?_
  refine wx_irem dX10_angleOn_13 (by decide) ?_
  refine wx_iret dX10_angleOn_14 hcu hsu ?_
  obtain rfl := Option.some.inj h
  exact g
noncomputable def f_X10_aheadOn (sh : px_Sh) (M : px_M) (a0 : Nat) (p1 : Int32) (p2 : Int32) : Option (Int32) :=
  ok (hk sh a0 10) <|
  bd1 (f_X10_angleOn sh M a0 p1) fun e_3 =>
  bd1 (f_J9_floorMod_7cf53 (p2 - e_3) 72) fun e_9 =>
  some e_9
theorem s_X10_aheadOn {d : Nat} {X : Nat × (Nat → Int32)} {sh : px_Sh} {M : px_M} {L : px_L} {R : px_R} {n : Nat} {a0 : Nat} {p1 : Int32} {p2 : Int32} {e : Int32} (hS : SR sh R) (hd : 1 ≤ d) (h : f_X10_aheadOn sh M a0 p1 p2 = some e) : MX yX10_aheadOn cX10_aheadOn 3 (some .int) d 0 0 X [.ref a0, .int p1, .int p2] sh M L R n (px_pu (some (.int e)) sh M L R n) := by
  refine MX.of (by decide +kernel) (by exact Nat.le_of_ble_eq_true rfl) ?_
  have hcu : 0 ≤ 0 := Nat.zero_le _
  have hsu : 0 ≤ 0 := Nat.zero_le _
  have g : px_pu (some (.int e)) sh M L R n (some (.int e)) sh M L R n := ⟨rfl, rfl, rfl, rfl, rfl, rfl⟩
  unfold f_X10_aheadOn at h
  refine wx_iload_n dX10_aheadOn_0 rfl ?_
  refine wx_aload_n dX10_aheadOn_1 rfl ?_
  refine wx_iload_n dX10_aheadOn_2 rfl ?_
  obtain ⟨ws_3, h⟩ := ok_some h
  obtain ⟨ln_3, wt_3⟩ := hk_some ws_3
  obtain ⟨e_3, k_3, h⟩ := bd1_some h
  refine wx_cVi dX10_aheadOn_3 ml_X10_21 my_X10_angleOn iv_X10_angleOn wt_3 (by decide) (s_X10_angleOn (d := d - 1) hS (by omega) k_3) rfl (by omega) (by exact Nat.le_of_ble_eq_true rfl) hcu hsu ?_
  refine wx_isub dX10_aheadOn_6 ?_
  refine wx_bipush (v := 72) dX10_aheadOn_7 (by decide) ?_
  obtain ⟨e_9, k_9, h⟩ := bd1_some h
  refine wx_cSi dX10_aheadOn_9 ml_X10_25 my_J9_floorMod_7cf53 sv_J9_floorMod_7cf53 (s_J9_floorMod_7cf53 (d := d - 1) hS (by omega) k_9) rfl (by omega) (by exact Nat.le_of_ble_eq_true rfl) hcu hsu ?_
  refine wx_iret dX10_aheadOn_12 hcu hsu ?_
  obtain rfl := Option.some.inj h
  exact g
noncomputable def f_X10_init (sh : px_Sh) (M : px_M) (a0 : Nat) (p1 : Int32) (p2 : Int32) (p3 : Int32) : Option (px_M) :=
  ok (hk sh a0 10) <|
  nm (px_u M a0 0 p1) fun M_6 =>
  ok (hk sh a0 10) <|
  nm (px_u M_6 a0 1 p2) fun M_11 =>
  ok (hk sh a0 10) <|
  nm (px_u M_11 a0 2 p3) fun M_16 =>
  some M_16
theorem s_X10_init {d : Nat} {X : Nat × (Nat → Int32)} {sh : px_Sh} {M : px_M} {L : px_L} {R : px_R} {n : Nat} {a0 : Nat} {p1 : Int32} {p2 : Int32} {p3 : Int32} {e : px_M} (hS : SR sh R) (hd : 1 ≤ d) (h : f_X10_init sh M a0 p1 p2 p3 = some e) : MX yX10_init cX10_init 4 none d 0 0 X [.ref a0, .int p1, .int p2, .int p3] sh M L R n (px_pu none sh e L R n) := by
  refine MX.of (by decide +kernel) (by exact Nat.le_of_ble_eq_true rfl) ?_
  have hcu : 0 ≤ 0 := Nat.zero_le _
  have hsu : 0 ≤ 0 := Nat.zero_le _
  have g : px_pu none sh e L R n none sh e L R n := ⟨rfl, rfl, rfl, rfl, rfl, rfl⟩
  unfold f_X10_init at h
  refine wx_aload_n dX10_init_0 rfl ?_
  refine wx_objInit dX10_init_1 oi_X10_1 (by omega) (by exact Nat.le_of_ble_eq_true rfl) ?_
  refine wx_aload_n dX10_init_4 rfl ?_
  refine wx_iload_n dX10_init_5 rfl ?_
  obtain ⟨ws_6, h⟩ := ok_some h
  obtain ⟨ln_6, wt_6⟩ := hk_some ws_6
  refine wx_putI dX10_init_6 fl_X10_7 wt_6 (Or.inr ⟨rfl, rfl, rfl, px_mem 1086 (by decide +kernel) rfl⟩) rfl ⟨rfl, rfl⟩ ?_
  refine wx_namM (fun M_6 q_6 => ?_)
  replace h := nm_at h q_6
  refine wx_aload_n dX10_init_9 rfl ?_
  refine wx_iload_n dX10_init_10 rfl ?_
  obtain ⟨ws_11, h⟩ := ok_some h
  obtain ⟨ln_11, wt_11⟩ := hk_some ws_11
  refine wx_putI dX10_init_11 fl_X10_13 wt_11 (Or.inr ⟨rfl, rfl, rfl, px_mem 1088 (by decide +kernel) rfl⟩) rfl ⟨rfl, rfl⟩ ?_
  refine wx_namM (fun M_11 q_11 => ?_)
  replace h := nm_at h q_11
  refine wx_aload_n dX10_init_14 rfl ?_
  refine wx_iload_n dX10_init_15 rfl ?_
  obtain ⟨ws_16, h⟩ := ok_some h
  obtain ⟨ln_16, wt_16⟩ := hk_some ws_16
  refine wx_putI dX10_init_16 fl_X10_16 wt_16 (Or.inr ⟨rfl, rfl, rfl, px_mem 1089 (by decide +kernel) rfl⟩) rfl ⟨rfl, rfl⟩ ?_
  refine wx_namM (fun M_16 q_16 => ?_)
  replace h := nm_at h q_16
  refine wx_vret dX10_init_19 hcu hsu ?_
  obtain rfl := Option.some.inj h
  exact g
noncomputable def f_X1_fitTo_18 (sh : px_Sh) (M : px_M) : Option (px_M) :=
  some M
theorem s_X1_fitTo_18 {M : px_M} {L : px_L} {R : px_R} {e : (px_M)} (hS : SR sh R) (hd : 0 ≤ d) (hcu : cu ≤ mc) (hsu : su ≤ ms) (h : f_X1_fitTo_18 sh M = some e) (g : Post none sh e L R n) : WX RX1 cX1_fitTo 2 none ("fitTo", []) d mc ms X (px_QF Post mc ms) 18 [] [] sh M L R n cu su := by
  unfold f_X1_fitTo_18 at h
  refine wx_vret dX1_fitTo_18 hcu hsu ?_
  obtain rfl := Option.some.inj h
  exact g
noncomputable def f_X1_fitTo (sh : px_Sh) (M : px_M) (a0 : Nat) (p1 : Int32) : Option (px_M) :=
  ok (hk sh a0 1) <|
  if (M a0 1) = p1 then
    f_X1_fitTo_18 sh M
  else
    ok (hk sh a0 1) <|
    nm (px_u M a0 1 p1) fun M_10 =>
    ok (hk sh a0 1) <|
    nm (px_u M_10 a0 2 1) fun M_15 =>
    f_X1_fitTo_18 sh M_15
theorem s_X1_fitTo {d : Nat} {X : Nat × (Nat → Int32)} {sh : px_Sh} {M : px_M} {L : px_L} {R : px_R} {n : Nat} {a0 : Nat} {p1 : Int32} {e : px_M} (hS : SR sh R) (hd : 0 ≤ d) (h : f_X1_fitTo sh M a0 p1 = some e) : MX yX1_fitTo cX1_fitTo 2 none d 0 0 X [.ref a0, .int p1] sh M L R n (px_pu none sh e L R n) := by
  refine MX.of (by decide +kernel) (by exact Nat.le_of_ble_eq_true rfl) ?_
  have hcu : 0 ≤ 0 := Nat.zero_le _
  have hsu : 0 ≤ 0 := Nat.zero_le _
  have g : px_pu none sh e L R n none sh e L R n := ⟨rfl, rfl, rfl, rfl, rfl, rfl⟩
  unfold f_X1_fitTo at h
  refine wx_aload_n dX1_fitTo_0 rfl ?_
  obtain ⟨ws_1, h⟩ := ok_some h
  obtain ⟨ln_1, wt_1⟩ := hk_some ws_1
  refine wx_getI dX1_fitTo_1 fl_X1_13 wt_1 rfl ?_
  refine wx_iload_n dX1_fitTo_4 rfl ?_
  refine wx_icmp_eq (tgt := 18) dX1_fitTo_5 (by decide) (fun c_5 => ?_) (fun c_5 => ?_)
  · replace h := it_t h c_5
    exact wx_sub (s_X1_fitTo_18 hS hd hcu hsu h g) px_0
  · replace h := it_f h c_5
    refine wx_aload_n dX1_fitTo_8 rfl ?_
    refine wx_iload_n dX1_fitTo_9 rfl ?_
    obtain ⟨ws_10, h⟩ := ok_some h
    obtain ⟨ln_10, wt_10⟩ := hk_some ws_10
    refine wx_putI dX1_fitTo_10 fl_X1_13 wt_10 (Or.inl rfl) rfl ⟨rfl, rfl⟩ ?_
    refine wx_namM (fun M_10 q_10 => ?_)
    replace h := nm_at h q_10
    refine wx_aload_n dX1_fitTo_13 rfl ?_
    refine wx_iconst (v := 1) dX1_fitTo_14 (by decide) ?_
    obtain ⟨ws_15, h⟩ := ok_some h
    obtain ⟨ln_15, wt_15⟩ := hk_some ws_15
    refine wx_putI dX1_fitTo_15 fl_X1_41 wt_15 (Or.inl rfl) rfl ⟨rfl, rfl⟩ ?_
    refine wx_namM (fun M_15 q_15 => ?_)
    replace h := nm_at h q_15
    exact wx_sub (s_X1_fitTo_18 hS hd hcu hsu h g) px_0
noncomputable def f_X10_chartFor (sh : px_Sh) (M : px_M) (R : px_R) (a0 : Nat) (p1 : Int32) : Option (Nat × px_M) :=
  ok (hk sh a0 10) <|
  bd1 (R a0 3) fun b_1 =>
  ok (hk sh a0 10) <|
  bd1 (R a0 3) fun b_27 =>
  ok (hk sh b_27 1) <|
  bd1 (f_X1_fitTo sh M b_27 p1) fun e_31 =>
  ok (hk sh a0 10) <|
  bd1 (R a0 3) fun b_35 =>
  some (b_35, e_31)
theorem s_X10_chartFor {d : Nat} {X : Nat × (Nat → Int32)} {sh : px_Sh} {M : px_M} {L : px_L} {R : px_R} {n : Nat} {a0 : Nat} {p1 : Int32} {e : Nat × px_M} (hS : SR sh R) (hd : 1 ≤ d) (h : f_X10_chartFor sh M R a0 p1 = some e) : MX yX10_chartFor cX10_chartFor 2 (some (.object "LightSails$Chart")) d 0 0 X [.ref a0, .int p1] sh M L R n (px_pu (some (.ref e.1)) sh e.2 L R n) := by
  refine MX.of (by decide +kernel) (by exact Nat.le_of_ble_eq_true rfl) ?_
  have hcu : 0 ≤ 0 := Nat.zero_le _
  have hsu : 0 ≤ 0 := Nat.zero_le _
  have g : px_pu (some (.ref e.1)) sh e.2 L R n (some (.ref e.1)) sh e.2 L R n := ⟨rfl, rfl, rfl, rfl, rfl, rfl⟩
  unfold f_X10_chartFor at h
  refine wx_aload_n dX10_chartFor_0 rfl ?_
  obtain ⟨ws_1, h⟩ := ok_some h
  obtain ⟨ln_1, wt_1⟩ := hk_some ws_1
  obtain ⟨b_1, w_1, h⟩ := bd1_some h
  refine wx_getR dX10_chartFor_1 fl_X10_31 wt_1 rfl w_1 ?_
  refine wx_ifnonnull (tgt := 26) dX10_chartFor_4 (by decide) ?_
  refine wx_aload_n dX10_chartFor_26 rfl ?_
  obtain ⟨ws_27, h⟩ := ok_some h
  obtain ⟨ln_27, wt_27⟩ := hk_some ws_27
  obtain ⟨b_27, w_27, h⟩ := bd1_some h
  refine wx_getR dX10_chartFor_27 fl_X10_31 wt_27 rfl w_27 ?_
  refine wx_iload_n dX10_chartFor_30 rfl ?_
  obtain ⟨ws_31, h⟩ := ok_some h
  obtain ⟨ln_31, wt_31⟩ := hk_some ws_31
  obtain ⟨e_31, k_31, h⟩ := bd1_some h
  refine wx_cVv dX10_chartFor_31 ml_X10_40 my_X1_fitTo iv_X1_fitTo wt_31 (by decide) (s_X1_fitTo (d := d - 1) hS (by omega) k_31) rfl (by omega) (by exact Nat.le_of_ble_eq_true rfl) hcu hsu ?_
  refine wx_aload_n dX10_chartFor_34 rfl ?_
  obtain ⟨ws_35, h⟩ := ok_some h
  obtain ⟨ln_35, wt_35⟩ := hk_some ws_35
  obtain ⟨b_35, w_35, h⟩ := bd1_some h
  refine wx_getR dX10_chartFor_35 fl_X10_31 wt_35 rfl w_35 ?_
  refine wx_aret dX10_chartFor_38 hcu hsu ?_
  obtain rfl := Option.some.inj h
  exact g
noncomputable def f_X1_isMet_34 (z0 : Int32) : Option (Int32) :=
  ok (zb z0) <|
  some z0
theorem s_X1_isMet_34 {z0 : Int32} {M : px_M} {L : px_L} {R : px_R} {e : (Int32)} (hS : SR sh R) (hd : 1 ≤ d) (hcu : cu ≤ mc) (hsu : su ≤ ms) (h : f_X1_isMet_34 z0 = some e) (g : Post (some (.int e)) sh M L R n) : WX RX1 cX1_isMet 3 (some .boolean) ("isMet", []) d mc ms X (px_QF Post mc ms) 34 [] [.int z0] sh M L R n cu su := by
  unfold f_X1_isMet_34 at h
  obtain ⟨w_34, h⟩ := ok_some h
  refine wx_zret dX1_isMet_34 (zb_n w_34) hcu hsu ?_
  obtain rfl := Option.some.inj h
  exact g
noncomputable def f_X1_isMet_33 : Option (Int32) :=
  f_X1_isMet_34 0
theorem s_X1_isMet_33 {M : px_M} {L : px_L} {R : px_R} {e : (Int32)} (hS : SR sh R) (hd : 1 ≤ d) (hcu : cu ≤ mc) (hsu : su ≤ ms) (h : f_X1_isMet_33 = some e) (g : Post (some (.int e)) sh M L R n) : WX RX1 cX1_isMet 3 (some .boolean) ("isMet", []) d mc ms X (px_QF Post mc ms) 33 [] [] sh M L R n cu su := by
  unfold f_X1_isMet_33 at h
  refine wx_iconst (v := 0) dX1_isMet_33 (by decide) ?_
  exact wx_sub (s_X1_isMet_34 hS hd hcu hsu h g) px_0
noncomputable def f_X1_isMet_16 (x0 : Int32) (z0 : Int32) : Option (Int32) :=
  if z0 = 0 then
    f_X1_isMet_33
  else
    bd1 (f_J9_abs_0f7a4 x0) fun e_22 =>
    if 4 < e_22 then
      f_X1_isMet_33
    else
      f_X1_isMet_34 1
theorem s_X1_isMet_16 {x0 : Int32} {z0 : Int32} {M : px_M} {L : px_L} {R : px_R} {e : (Int32)} (hS : SR sh R) (hd : 1 ≤ d) (hcu : cu ≤ mc) (hsu : su ≤ ms) (h : f_X1_isMet_16 x0 z0 = some e) (g : Post (some (.int e)) sh M L R n) : WX RX1 cX1_isMet 3 (some .boolean) ("isMet", []) d mc ms X (px_QF Post mc ms) 16 [(0, .int x0)] [.int z0] sh M L R n cu su := by
  unfold f_X1_isMet_16 at h
  refine wx_istore_n (lv' := [(2, _), (0, _)]) dX1_isMet_16 (by decide) rfl ?_
  refine wx_iload_n dX1_isMet_17 rfl ?_
  refine wx_if_eq (tgt := 33) dX1_isMet_18 (by decide) (fun c_18 => ?_) (fun c_18 => ?_)
  · replace h := it_t h c_18
    exact wx_sub (s_X1_isMet_33 hS hd hcu hsu h g) px_0
  · replace h := it_f h c_18
    refine wx_iload_n dX1_isMet_21 rfl ?_
    obtain ⟨e_22, k_22, h⟩ := bd1_some h
    refine wx_cSi dX1_isMet_22 ml_X1_37 my_J9_abs_0f7a4 sv_J9_abs_0f7a4 (s_J9_abs_0f7a4 (d := d - 1) hS (by omega) k_22) rfl (by omega) (by exact Nat.le_of_ble_eq_true rfl) hcu hsu ?_
    refine wx_iconst (v := 4) dX1_isMet_25 (by decide) ?_
    refine wx_icmp_gt (tgt := 33) dX1_isMet_26 (by decide) (fun c_26 => ?_) (fun c_26 => ?_)
    · replace h := it_t h c_26
      exact wx_sub (s_X1_isMet_33 hS hd hcu hsu h g) px_0
    · replace h := it_f h c_26
      refine wx_iconst (v := 1) dX1_isMet_29 (by decide) ?_
      refine wx_goto (tgt := 34) dX1_isMet_30 (by decide) ?_
      exact wx_sub (s_X1_isMet_34 hS hd hcu hsu h g) px_0
noncomputable def f_X1_isMet_11 (x0 : Int32) : Option (Int32) :=
  f_X1_isMet_16 x0 1
theorem s_X1_isMet_11 {x0 : Int32} {M : px_M} {L : px_L} {R : px_R} {e : (Int32)} (hS : SR sh R) (hd : 1 ≤ d) (hcu : cu ≤ mc) (hsu : su ≤ ms) (h : f_X1_isMet_11 x0 = some e) (g : Post (some (.int e)) sh M L R n) : WX RX1 cX1_isMet 3 (some .boolean) ("isMet", []) d mc ms X (px_QF Post mc ms) 11 [(0, .int x0)] [] sh M L R n cu su := by
  unfold f_X1_isMet_11 at h
  refine wx_iconst (v := 1) dX1_isMet_11 (by decide) ?_
  refine wx_goto (tgt := 16) dX1_isMet_12 (by decide) ?_
  exact wx_sub (s_X1_isMet_16 hS hd hcu hsu h g) (px_s rfl px_0)
noncomputable def f_X1_isMet (p0 : Int32) (p1 : Int32) : Option (Int32) :=
  if p1 ≤ 2 then
    f_X1_isMet_11 p0
  else
    if p1 < 70 then
      f_X1_isMet_16 p0 0
    else
      f_X1_isMet_11 p0
theorem s_X1_isMet {d : Nat} {X : Nat × (Nat → Int32)} {sh : px_Sh} {M : px_M} {L : px_L} {R : px_R} {n : Nat} {p0 : Int32} {p1 : Int32} {e : Int32} (hS : SR sh R) (hd : 1 ≤ d) (h : f_X1_isMet p0 p1 = some e) : MX yX1_isMet cX1_isMet 3 (some .boolean) d 0 0 X [.int p0, .int p1] sh M L R n (px_pu (some (.int e)) sh M L R n) := by
  refine MX.of (by decide +kernel) (by exact Nat.le_of_ble_eq_true rfl) ?_
  have hcu : 0 ≤ 0 := Nat.zero_le _
  have hsu : 0 ≤ 0 := Nat.zero_le _
  have g : px_pu (some (.int e)) sh M L R n (some (.int e)) sh M L R n := ⟨rfl, rfl, rfl, rfl, rfl, rfl⟩
  unfold f_X1_isMet at h
  refine wx_iload_n dX1_isMet_0 rfl ?_
  refine wx_iconst (v := 2) dX1_isMet_1 (by decide) ?_
  refine wx_icmp_le (tgt := 11) dX1_isMet_2 (by decide) (fun c_2 => ?_) (fun c_2 => ?_)
  · replace h := it_t h c_2
    exact wx_sub (s_X1_isMet_11 hS hd hcu hsu h g) (px_s rfl px_0)
  · replace h := it_f h c_2
    refine wx_iload_n dX1_isMet_5 rfl ?_
    refine wx_bipush (v := 70) dX1_isMet_6 (by decide) ?_
    refine wx_icmp_lt (tgt := 15) dX1_isMet_8 (by decide) (fun c_8 => ?_) (fun c_8 => ?_)
    · replace h := it_t h c_8
      refine wx_iconst (v := 0) dX1_isMet_15 (by decide) ?_
      exact wx_sub (s_X1_isMet_16 hS hd hcu hsu h g) (px_s rfl px_0)
    · replace h := it_f h c_8
      exact wx_sub (s_X1_isMet_11 hS hd hcu hsu h g) (px_s rfl px_0)
noncomputable def f_X1_storeTurned_55 (sh : px_Sh) (L : px_L) (R : px_R) (a0 : Nat) (x1 : Int32) (x8 : Int32) (y9 : Int64) (z0 : Int64) : Option (px_L) :=
  ok (hk sh a0 1) <|
  bd1 (R a0 3) fun b_58 =>
  nm (((y9 <<< ((x8 : Int32).toInt64 &&& 63)) ||| (((z0 : Int64).toUInt64 >>> (((36 - x8) : Int32).toInt64.toUInt64 &&& Int64.toUInt64 63)).toInt64)) &&& 68719476735) fun v_80 =>
  ok (xk sh b_58 14 x1) <|
  nm (px_u L b_58 x1.toNatClampNeg v_80) fun L_80 =>
  ok (hk sh a0 1) <|
  bd1 (R a0 3) fun b_82 =>
  nm (((z0 <<< ((x8 : Int32).toInt64 &&& 63)) ||| (((y9 : Int64).toUInt64 >>> (((36 - x8) : Int32).toInt64.toUInt64 &&& Int64.toUInt64 63)).toInt64)) &&& 68719476735) fun v_106 =>
  ok (xk sh b_82 14 (x1 + 1)) <|
  nm (px_u L_80 b_82 (x1 + 1).toNatClampNeg v_106) fun L_106 =>
  some L_106
theorem s_X1_storeTurned_55 {a0 : Nat} {x1 : Int32} {x8 : Int32} {y9 : Int64} {z0 : Int64} {M : px_M} {L : px_L} {R : px_R} {e : (px_L)} (hS : SR sh R) (hd : 0 ≤ d) (hcu : cu ≤ mc) (hsu : su ≤ ms) (h : f_X1_storeTurned_55 sh L R a0 x1 x8 y9 z0 = some e) (g : Post none sh M e R n) : WX RX1 cX1_storeTurned 13 none ("storeTurned", []) d mc ms X (px_QF Post mc ms) 55 [(0, .ref a0), (1, .int x1), (8, .int x8), (9, .long y9)] [.long z0] sh M L R n cu su := by
  unfold f_X1_storeTurned_55 at h
  refine wx_lstore (lv' := [(11, _), (0, _), (1, _), (8, _), (9, _)]) dX1_storeTurned_55 (by decide) rfl ?_
  refine wx_aload_n dX1_storeTurned_57 rfl ?_
  obtain ⟨ws_58, h⟩ := ok_some h
  obtain ⟨ln_58, wt_58⟩ := hk_some ws_58
  obtain ⟨b_58, w_58, h⟩ := bd1_some h
  refine wx_getR dX1_storeTurned_58 fl_X1_17 wt_58 rfl w_58 ?_
  refine wx_iload_n dX1_storeTurned_61 rfl ?_
  refine wx_lload dX1_storeTurned_62 rfl ?_
  refine wx_iload dX1_storeTurned_64 rfl ?_
  refine wx_lshl dX1_storeTurned_66 ?_
  refine wx_lload dX1_storeTurned_67 rfl ?_
  refine wx_bipush (v := 36) dX1_storeTurned_69 (by decide) ?_
  refine wx_iload dX1_storeTurned_71 rfl ?_
  refine wx_isub dX1_storeTurned_73 ?_
  refine wx_lushr dX1_storeTurned_74 ?_
  refine wx_lor dX1_storeTurned_75 ?_
  refine wx_ldc2 dX1_storeTurned_76 kl_X1_75 ?_
  refine wx_land dX1_storeTurned_79 ?_
  refine wx_naml (fun v_80 q_80 => ?_)
  replace h := nm_at h q_80
  obtain ⟨w_80, h⟩ := ok_some h
  obtain ⟨ln_80, wt_80, wi_80⟩ := xk_some w_80
  refine wx_last dX1_storeTurned_80 wt_80 wi_80 ?_
  refine wx_namL (fun L_80 q_80 => ?_)
  replace h := nm_at h q_80
  refine wx_aload_n dX1_storeTurned_81 rfl ?_
  obtain ⟨ws_82, h⟩ := ok_some h
  obtain ⟨ln_82, wt_82⟩ := hk_some ws_82
  obtain ⟨b_82, w_82, h⟩ := bd1_some h
  refine wx_getR dX1_storeTurned_82 fl_X1_17 wt_82 rfl w_82 ?_
  refine wx_iload_n dX1_storeTurned_85 rfl ?_
  refine wx_iconst (v := 1) dX1_storeTurned_86 (by decide) ?_
  refine wx_iadd dX1_storeTurned_87 ?_
  refine wx_lload dX1_storeTurned_88 rfl ?_
  refine wx_iload dX1_storeTurned_90 rfl ?_
  refine wx_lshl dX1_storeTurned_92 ?_
  refine wx_lload dX1_storeTurned_93 rfl ?_
  refine wx_bipush (v := 36) dX1_storeTurned_95 (by decide) ?_
  refine wx_iload dX1_storeTurned_97 rfl ?_
  refine wx_isub dX1_storeTurned_99 ?_
  refine wx_lushr dX1_storeTurned_100 ?_
  refine wx_lor dX1_storeTurned_101 ?_
  refine wx_ldc2 dX1_storeTurned_102 kl_X1_75 ?_
  refine wx_land dX1_storeTurned_105 ?_
  refine wx_naml (fun v_106 q_106 => ?_)
  replace h := nm_at h q_106
  obtain ⟨w_106, h⟩ := ok_some h
  obtain ⟨ln_106, wt_106, wi_106⟩ := xk_some w_106
  refine wx_last dX1_storeTurned_106 wt_106 wi_106 ?_
  refine wx_namL (fun L_106 q_106 => ?_)
  replace h := nm_at h q_106
  refine wx_vret dX1_storeTurned_107 hcu hsu ?_
  obtain rfl := Option.some.inj h
  exact g
noncomputable def f_X1_storeTurned_42 (sh : px_Sh) (L : px_L) (R : px_R) (a0 : Nat) (x1 : Int32) (y2 : Int64) (y4 : Int64) (x7 : Int32) (x8 : Int32) (z0 : Int64) : Option (px_L) :=
  if x7 = 0 then
    f_X1_storeTurned_55 sh L R a0 x1 x8 z0 y4
  else
    f_X1_storeTurned_55 sh L R a0 x1 x8 z0 y2
theorem s_X1_storeTurned_42 {a0 : Nat} {x1 : Int32} {y2 : Int64} {y4 : Int64} {x7 : Int32} {x8 : Int32} {z0 : Int64} {M : px_M} {L : px_L} {R : px_R} {e : (px_L)} (hS : SR sh R) (hd : 0 ≤ d) (hcu : cu ≤ mc) (hsu : su ≤ ms) (h : f_X1_storeTurned_42 sh L R a0 x1 y2 y4 x7 x8 z0 = some e) (g : Post none sh M e R n) : WX RX1 cX1_storeTurned 13 none ("storeTurned", []) d mc ms X (px_QF Post mc ms) 42 [(0, .ref a0), (1, .int x1), (2, .long y2), (4, .long y4), (7, .int x7), (8, .int x8)] [.long z0] sh M L R n cu su := by
  unfold f_X1_storeTurned_42 at h
  refine wx_lstore (lv' := [(9, _), (0, _), (1, _), (2, _), (4, _), (7, _), (8, _)]) dX1_storeTurned_42 (by decide) rfl ?_
  refine wx_iload dX1_storeTurned_44 rfl ?_
  refine wx_if_eq (tgt := 53) dX1_storeTurned_46 (by decide) (fun c_46 => ?_) (fun c_46 => ?_)
  · replace h := it_t h c_46
    refine wx_lload dX1_storeTurned_53 rfl ?_
    exact wx_sub (s_X1_storeTurned_55 hS hd hcu hsu h g) (px_s rfl (px_s rfl (px_s rfl (px_s rfl px_0))))
  · replace h := it_f h c_46
    refine wx_lload_n dX1_storeTurned_49 rfl ?_
    refine wx_goto (tgt := 55) dX1_storeTurned_50 (by decide) ?_
    exact wx_sub (s_X1_storeTurned_55 hS hd hcu hsu h g) (px_s rfl (px_s rfl (px_s rfl (px_s rfl px_0))))
noncomputable def f_X1_storeTurned_29 (sh : px_Sh) (L : px_L) (R : px_R) (a0 : Nat) (x1 : Int32) (y2 : Int64) (y4 : Int64) (x7 : Int32) (z0 : Int32) : Option (px_L) :=
  if x7 = 0 then
    f_X1_storeTurned_42 sh L R a0 x1 y2 y4 x7 z0 y2
  else
    f_X1_storeTurned_42 sh L R a0 x1 y2 y4 x7 z0 y4
theorem s_X1_storeTurned_29 {a0 : Nat} {x1 : Int32} {y2 : Int64} {y4 : Int64} {x7 : Int32} {z0 : Int32} {M : px_M} {L : px_L} {R : px_R} {e : (px_L)} (hS : SR sh R) (hd : 0 ≤ d) (hcu : cu ≤ mc) (hsu : su ≤ ms) (h : f_X1_storeTurned_29 sh L R a0 x1 y2 y4 x7 z0 = some e) (g : Post none sh M e R n) : WX RX1 cX1_storeTurned 13 none ("storeTurned", []) d mc ms X (px_QF Post mc ms) 29 [(0, .ref a0), (1, .int x1), (2, .long y2), (4, .long y4), (7, .int x7)] [.int z0] sh M L R n cu su := by
  unfold f_X1_storeTurned_29 at h
  refine wx_istore (lv' := [(8, _), (0, _), (1, _), (2, _), (4, _), (7, _)]) dX1_storeTurned_29 (by decide) rfl ?_
  refine wx_iload dX1_storeTurned_31 rfl ?_
  refine wx_if_eq (tgt := 41) dX1_storeTurned_33 (by decide) (fun c_33 => ?_) (fun c_33 => ?_)
  · replace h := it_t h c_33
    refine wx_lload_n dX1_storeTurned_41 rfl ?_
    exact wx_sub (s_X1_storeTurned_42 hS hd hcu hsu h g) (px_s rfl (px_s rfl (px_s rfl (px_s rfl (px_s rfl (px_s rfl px_0))))))
  · replace h := it_f h c_33
    refine wx_lload dX1_storeTurned_36 rfl ?_
    refine wx_goto (tgt := 42) dX1_storeTurned_38 (by decide) ?_
    exact wx_sub (s_X1_storeTurned_42 hS hd hcu hsu h g) (px_s rfl (px_s rfl (px_s rfl (px_s rfl (px_s rfl (px_s rfl px_0))))))
noncomputable def f_X1_storeTurned_12 (sh : px_Sh) (L : px_L) (R : px_R) (a0 : Nat) (x1 : Int32) (y2 : Int64) (y4 : Int64) (x6 : Int32) (z0 : Int32) : Option (px_L) :=
  if z0 = 0 then
    f_X1_storeTurned_29 sh L R a0 x1 y2 y4 z0 x6
  else
    f_X1_storeTurned_29 sh L R a0 x1 y2 y4 z0 (x6 - 36)
theorem s_X1_storeTurned_12 {a0 : Nat} {x1 : Int32} {y2 : Int64} {y4 : Int64} {x6 : Int32} {z0 : Int32} {M : px_M} {L : px_L} {R : px_R} {e : (px_L)} (hS : SR sh R) (hd : 0 ≤ d) (hcu : cu ≤ mc) (hsu : su ≤ ms) (h : f_X1_storeTurned_12 sh L R a0 x1 y2 y4 x6 z0 = some e) (g : Post none sh M e R n) : WX RX1 cX1_storeTurned 13 none ("storeTurned", []) d mc ms X (px_QF Post mc ms) 12 [(0, .ref a0), (1, .int x1), (2, .long y2), (4, .long y4), (6, .int x6)] [.int z0] sh M L R n cu su := by
  unfold f_X1_storeTurned_12 at h
  refine wx_istore (lv' := [(7, _), (0, _), (1, _), (2, _), (4, _), (6, _)]) dX1_storeTurned_12 (by decide) rfl ?_
  refine wx_iload dX1_storeTurned_14 rfl ?_
  refine wx_if_eq (tgt := 27) dX1_storeTurned_16 (by decide) (fun c_16 => ?_) (fun c_16 => ?_)
  · replace h := it_t h c_16
    refine wx_iload dX1_storeTurned_27 rfl ?_
    exact wx_sub (s_X1_storeTurned_29 hS hd hcu hsu h g) (px_s rfl (px_s rfl (px_s rfl (px_s rfl (px_s rfl px_0)))))
  · replace h := it_f h c_16
    refine wx_iload dX1_storeTurned_19 rfl ?_
    refine wx_bipush (v := 36) dX1_storeTurned_21 (by decide) ?_
    refine wx_isub dX1_storeTurned_23 ?_
    refine wx_goto (tgt := 29) dX1_storeTurned_24 (by decide) ?_
    exact wx_sub (s_X1_storeTurned_29 hS hd hcu hsu h g) (px_s rfl (px_s rfl (px_s rfl (px_s rfl (px_s rfl px_0)))))
noncomputable def f_X1_storeTurned (sh : px_Sh) (L : px_L) (R : px_R) (a0 : Nat) (p1 : Int32) (p2 : Int64) (p4 : Int64) (p6 : Int32) : Option (px_L) :=
  if p6 < 36 then
    f_X1_storeTurned_12 sh L R a0 p1 p2 p4 p6 0
  else
    f_X1_storeTurned_12 sh L R a0 p1 p2 p4 p6 1
theorem s_X1_storeTurned {d : Nat} {X : Nat × (Nat → Int32)} {sh : px_Sh} {M : px_M} {L : px_L} {R : px_R} {n : Nat} {a0 : Nat} {p1 : Int32} {p2 : Int64} {p4 : Int64} {p6 : Int32} {e : px_L} (hS : SR sh R) (hd : 0 ≤ d) (h : f_X1_storeTurned sh L R a0 p1 p2 p4 p6 = some e) : MX yX1_storeTurned cX1_storeTurned 13 none d 0 0 X [.ref a0, .int p1, .long p2, .long p4, .int p6] sh M L R n (px_pu none sh M e R n) := by
  refine MX.of (by decide +kernel) (by exact Nat.le_of_ble_eq_true rfl) ?_
  have hcu : 0 ≤ 0 := Nat.zero_le _
  have hsu : 0 ≤ 0 := Nat.zero_le _
  have g : px_pu none sh M e R n none sh M e R n := ⟨rfl, rfl, rfl, rfl, rfl, rfl⟩
  unfold f_X1_storeTurned at h
  refine wx_iload dX1_storeTurned_0 rfl ?_
  refine wx_bipush (v := 36) dX1_storeTurned_2 (by decide) ?_
  refine wx_icmp_lt (tgt := 11) dX1_storeTurned_4 (by decide) (fun c_4 => ?_) (fun c_4 => ?_)
  · replace h := it_t h c_4
    refine wx_iconst (v := 0) dX1_storeTurned_11 (by decide) ?_
    exact wx_sub (s_X1_storeTurned_12 hS hd hcu hsu h g) (px_s rfl (px_s rfl (px_s rfl (px_s rfl (px_s rfl px_0)))))
  · replace h := it_f h c_4
    refine wx_iconst (v := 1) dX1_storeTurned_7 (by decide) ?_
    refine wx_goto (tgt := 12) dX1_storeTurned_8 (by decide) ?_
    exact wx_sub (s_X1_storeTurned_12 hS hd hcu hsu h g) (px_s rfl (px_s rfl (px_s rfl (px_s rfl (px_s rfl px_0)))))
noncomputable def f_X1_workLayer_145 (sh : px_Sh) (M : px_M) (L : px_L) (R : px_R) (a0 : Nat) (x1 : Int32) (x2 : Int32) (x3 : Int32) (y5 : Int64) (y7 : Int64) : Option ((Int32 × px_L) ⊕ (px_L)) :=
  ok (hk sh a0 1) <|
  bd1 (f_X11_turnOfDay x3) fun e_150 =>
  bd1 (f_J9_floorMod_7cf53 ((M a0 0) - e_150) 72) fun e_156 =>
  ok (hk sh a0 1) <|
  bd1 (f_X1_storeTurned sh L R a0 ((x1 * 512) + (2 * x3)) y5 y7 e_156) fun e_177 =>
  some (.inl ((x3 + 1), e_177))
theorem s_X1_workLayer_145 {a0 : Nat} {x1 : Int32} {x2 : Int32} {x3 : Int32} {y5 : Int64} {y7 : Int64} {M : px_M} {L : px_L} {R : px_R} {e : ((Int32 × px_L) ⊕ (px_L))} (hS : SR sh R) (hd : 1 ≤ d) (hcu : cu ≤ mc) (hsu : su ≤ ms) (h : f_X1_workLayer_145 sh M L R a0 x1 x2 x3 y5 y7 = some e) (g : (sE (fun a => WX RX1 cX1_workLayer 10 none ("workLayer", []) d mc ms X (px_QF Post mc ms) 10 [(0, .ref a0), (1, .int x1), (2, .int x2), (3, .int a.1)] [] sh M (a.2) R n cu su) (fun t => WX RX1 cX1_workLayer 10 none ("workLayer", []) d mc ms X (px_QF Post mc ms) 186 [] [] sh M t R n cu su)) e) : WX RX1 cX1_workLayer 10 none ("workLayer", []) d mc ms X (px_QF Post mc ms) 145 [(0, .ref a0), (1, .int x1), (2, .int x2), (3, .int x3), (5, .long y5), (7, .long y7)] [] sh M L R n cu su := by
  unfold f_X1_workLayer_145 at h
  refine wx_aload_n dX1_workLayer_145 rfl ?_
  obtain ⟨ws_146, h⟩ := ok_some h
  obtain ⟨ln_146, wt_146⟩ := hk_some ws_146
  refine wx_getI dX1_workLayer_146 fl_X1_21 wt_146 rfl ?_
  refine wx_iload_n dX1_workLayer_149 rfl ?_
  obtain ⟨e_150, k_150, h⟩ := bd1_some h
  refine wx_cSi dX1_workLayer_150 ml_X1_55 my_X11_turnOfDay sv_X11_turnOfDay (s_X11_turnOfDay (d := d - 1) hS (by omega) k_150) rfl (by omega) (by exact Nat.le_of_ble_eq_true rfl) hcu hsu ?_
  refine wx_isub dX1_workLayer_153 ?_
  refine wx_bipush (v := 72) dX1_workLayer_154 (by decide) ?_
  obtain ⟨e_156, k_156, h⟩ := bd1_some h
  refine wx_cSi dX1_workLayer_156 ml_X1_58 my_J9_floorMod_7cf53 sv_J9_floorMod_7cf53 (s_J9_floorMod_7cf53 (d := d - 1) hS (by omega) k_156) rfl (by omega) (by exact Nat.le_of_ble_eq_true rfl) hcu hsu ?_
  refine wx_istore (lv' := [(9, _), (0, _), (1, _), (2, _), (3, _), (5, _), (7, _)]) dX1_workLayer_159 (by decide) rfl ?_
  refine wx_aload_n dX1_workLayer_161 rfl ?_
  refine wx_iload_n dX1_workLayer_162 rfl ?_
  refine wx_sipush (v := 512) dX1_workLayer_163 (by decide) ?_
  refine wx_imul dX1_workLayer_166 ?_
  refine wx_iconst (v := 2) dX1_workLayer_167 (by decide) ?_
  refine wx_iload_n dX1_workLayer_168 rfl ?_
  refine wx_imul dX1_workLayer_169 ?_
  refine wx_iadd dX1_workLayer_170 ?_
  refine wx_lload dX1_workLayer_171 rfl ?_
  refine wx_lload dX1_workLayer_173 rfl ?_
  refine wx_iload dX1_workLayer_175 rfl ?_
  obtain ⟨ws_177, h⟩ := ok_some h
  obtain ⟨ln_177, wt_177⟩ := hk_some ws_177
  obtain ⟨e_177, k_177, h⟩ := bd1_some h
  refine wx_cVv dX1_workLayer_177 ml_X1_71 my_X1_storeTurned iv_X1_storeTurned wt_177 (by decide) (s_X1_storeTurned (d := d - 1) hS (by omega) k_177) rfl (by omega) (by exact Nat.le_of_ble_eq_true rfl) hcu hsu ?_
  refine wx_iinc (lv' := [(3, _), (9, _), (0, _), (1, _), (2, _), (5, _), (7, _)]) dX1_workLayer_180 rfl (i_1 _) (by decide) rfl ?_
  refine wx_goto (tgt := 10) dX1_workLayer_183 (by decide) ?_
  obtain rfl := Option.some.inj h
  replace g := sE_l g
  exact wx_sub g (px_s rfl (px_s rfl (px_s rfl (px_s rfl px_0))))
noncomputable def f_X1_workLayer_97 (sh : px_Sh) (M : px_M) (L : px_L) (R : px_R) (a0 : Nat) (x1 : Int32) (x2 : Int32) (x3 : Int32) (x4 : Int32) (y5 : Int64) (y7 : Int64) : Option ((Int32 × px_L) ⊕ (px_L)) :=
  if 255 < (x3 + x4) then
    f_X1_workLayer_145 sh M L R a0 x1 x2 x3 y5 y7
  else
    ok (hk sh a0 1) <|
    bd1 (R a0 3) fun b_110 =>
    nm (x2 + (2 * (x3 + x4))) fun v_121 =>
    ok (xk sh b_110 14 v_121) <|
    nm (y5 ||| (L b_110 v_121.toNatClampNeg)) fun v_123 =>
    ok (hk sh a0 1) <|
    bd1 (R a0 3) fun b_128 =>
    nm ((x2 + (2 * (x3 + x4))) + 1) fun v_141 =>
    ok (xk sh b_128 14 v_141) <|
    nm (y7 ||| (L b_128 v_141.toNatClampNeg)) fun v_143 =>
    f_X1_workLayer_145 sh M L R a0 x1 x2 x3 v_123 v_143
theorem s_X1_workLayer_97 {a0 : Nat} {x1 : Int32} {x2 : Int32} {x3 : Int32} {x4 : Int32} {y5 : Int64} {y7 : Int64} {M : px_M} {L : px_L} {R : px_R} {e : ((Int32 × px_L) ⊕ (px_L))} (hS : SR sh R) (hd : 1 ≤ d) (hcu : cu ≤ mc) (hsu : su ≤ ms) (h : f_X1_workLayer_97 sh M L R a0 x1 x2 x3 x4 y5 y7 = some e) (g : (sE (fun a => WX RX1 cX1_workLayer 10 none ("workLayer", []) d mc ms X (px_QF Post mc ms) 10 [(0, .ref a0), (1, .int x1), (2, .int x2), (3, .int a.1)] [] sh M (a.2) R n cu su) (fun t => WX RX1 cX1_workLayer 10 none ("workLayer", []) d mc ms X (px_QF Post mc ms) 186 [] [] sh M t R n cu su)) e) : WX RX1 cX1_workLayer 10 none ("workLayer", []) d mc ms X (px_QF Post mc ms) 97 [(0, .ref a0), (1, .int x1), (2, .int x2), (3, .int x3), (4, .int x4), (5, .long y5), (7, .long y7)] [] sh M L R n cu su := by
  unfold f_X1_workLayer_97 at h
  refine wx_iload_n dX1_workLayer_97 rfl ?_
  refine wx_iload dX1_workLayer_98 rfl ?_
  refine wx_iadd dX1_workLayer_100 ?_
  refine wx_sipush (v := 255) dX1_workLayer_101 (by decide) ?_
  refine wx_icmp_gt (tgt := 145) dX1_workLayer_104 (by decide) (fun c_104 => ?_) (fun c_104 => ?_)
  · replace h := it_t h c_104
    exact wx_sub (s_X1_workLayer_145 hS hd hcu hsu h g) (px_s rfl (px_s rfl (px_s rfl (px_s rfl (px_s rfl (px_s rfl px_0))))))
  · replace h := it_f h c_104
    refine wx_lload dX1_workLayer_107 rfl ?_
    refine wx_aload_n dX1_workLayer_109 rfl ?_
    obtain ⟨ws_110, h⟩ := ok_some h
    obtain ⟨ln_110, wt_110⟩ := hk_some ws_110
    obtain ⟨b_110, w_110, h⟩ := bd1_some h
    refine wx_getR dX1_workLayer_110 fl_X1_17 wt_110 rfl w_110 ?_
    refine wx_iload_n dX1_workLayer_113 rfl ?_
    refine wx_iconst (v := 2) dX1_workLayer_114 (by decide) ?_
    refine wx_iload_n dX1_workLayer_115 rfl ?_
    refine wx_iload dX1_workLayer_116 rfl ?_
    refine wx_iadd dX1_workLayer_118 ?_
    refine wx_imul dX1_workLayer_119 ?_
    refine wx_iadd dX1_workLayer_120 ?_
    refine wx_nami (fun v_121 q_121 => ?_)
    replace h := nm_at h q_121
    obtain ⟨w_121, h⟩ := ok_some h
    obtain ⟨ln_121, wt_121, wi_121⟩ := xk_some w_121
    refine wx_lald dX1_workLayer_121 wt_121 wi_121 ?_
    refine wx_lor dX1_workLayer_122 ?_
    refine wx_naml (fun v_123 q_123 => ?_)
    replace h := nm_at h q_123
    refine wx_lstore (lv' := [(5, _), (0, _), (1, _), (2, _), (3, _), (4, _), (7, _)]) dX1_workLayer_123 (by decide) rfl ?_
    refine wx_lload dX1_workLayer_125 rfl ?_
    refine wx_aload_n dX1_workLayer_127 rfl ?_
    obtain ⟨ws_128, h⟩ := ok_some h
    obtain ⟨ln_128, wt_128⟩ := hk_some ws_128
    obtain ⟨b_128, w_128, h⟩ := bd1_some h
    refine wx_getR dX1_workLayer_128 fl_X1_17 wt_128 rfl w_128 ?_
    refine wx_iload_n dX1_workLayer_131 rfl ?_
    refine wx_iconst (v := 2) dX1_workLayer_132 (by decide) ?_
    refine wx_iload_n dX1_workLayer_133 rfl ?_
    refine wx_iload dX1_workLayer_134 rfl ?_
    refine wx_iadd dX1_workLayer_136 ?_
    refine wx_imul dX1_workLayer_137 ?_
    refine wx_iadd dX1_workLayer_138 ?_
    refine wx_iconst (v := 1) dX1_workLayer_139 (by decide) ?_
    refine wx_iadd dX1_workLayer_140 ?_
    refine wx_nami (fun v_141 q_141 => ?_)
    replace h := nm_at h q_141
    obtain ⟨w_141, h⟩ := ok_some h
    obtain ⟨ln_141, wt_141, wi_141⟩ := xk_some w_141
    refine wx_lald dX1_workLayer_141 wt_141 wi_141 ?_
    refine wx_lor dX1_workLayer_142 ?_
    refine wx_naml (fun v_143 q_143 => ?_)
    replace h := nm_at h q_143
    refine wx_lstore (lv' := [(7, _), (5, _), (0, _), (1, _), (2, _), (3, _), (4, _)]) dX1_workLayer_143 (by decide) rfl ?_
    exact wx_sub (s_X1_workLayer_145 hS hd hcu hsu h g) (px_s rfl (px_s rfl (px_s rfl (px_s rfl (px_s rfl (px_s rfl px_0))))))
noncomputable def f_X1_workLayer_10 (sh : px_Sh) (M : px_M) (L : px_L) (R : px_R) (a0 : Nat) (x1 : Int32) (x2 : Int32) (x3 : Int32) : Option ((Int32 × px_L) ⊕ (px_L)) :=
  if 255 < x3 then
    some (.inr L)
  else
    ok (hk sh a0 1) <|
    bd1 (f_X11_stepsAt x3 (M a0 1)) fun e_22 =>
    ok (hk sh a0 1) <|
    bd1 (R a0 3) fun b_28 =>
    nm (x2 + (2 * x3)) fun v_36 =>
    ok (xk sh b_28 14 v_36) <|
    nm (L b_28 v_36.toNatClampNeg) fun v_37 =>
    ok (hk sh a0 1) <|
    bd1 (R a0 3) fun b_40 =>
    nm ((x2 + (2 * x3)) + 1) fun v_50 =>
    ok (xk sh b_40 14 v_50) <|
    nm (L b_40 v_50.toNatClampNeg) fun v_51 =>
    if x3 < e_22 then
      f_X1_workLayer_97 sh M L R a0 x1 x2 x3 e_22 v_37 v_51
    else
      ok (hk sh a0 1) <|
      bd1 (R a0 3) fun b_62 =>
      nm (x2 + (2 * (x3 - e_22))) fun v_73 =>
      ok (xk sh b_62 14 v_73) <|
      nm (v_37 ||| (L b_62 v_73.toNatClampNeg)) fun v_75 =>
      ok (hk sh a0 1) <|
      bd1 (R a0 3) fun b_80 =>
      nm ((x2 + (2 * (x3 - e_22))) + 1) fun v_93 =>
      ok (xk sh b_80 14 v_93) <|
      nm (v_51 ||| (L b_80 v_93.toNatClampNeg)) fun v_95 =>
      f_X1_workLayer_97 sh M L R a0 x1 x2 x3 e_22 v_75 v_95
theorem s_X1_workLayer_10b {a0 : Nat} {x1 : Int32} {x2 : Int32} {x3 : Int32} {M : px_M} {L : px_L} {R : px_R} {e : ((Int32 × px_L) ⊕ (px_L))} (hS : SR sh R) (hd : 1 ≤ d) (hcu : cu ≤ mc) (hsu : su ≤ ms) (h : f_X1_workLayer_10 sh M L R a0 x1 x2 x3 = some e) (g : (sE (fun a => WX RX1 cX1_workLayer 10 none ("workLayer", []) d mc ms X (px_QF Post mc ms) 10 [(0, .ref a0), (1, .int x1), (2, .int x2), (3, .int a.1)] [] sh M (a.2) R n cu su) (fun t => WX RX1 cX1_workLayer 10 none ("workLayer", []) d mc ms X (px_QF Post mc ms) 186 [] [] sh M t R n cu su)) e) : WX RX1 cX1_workLayer 10 none ("workLayer", []) d mc ms X (px_QF Post mc ms) 10 [(0, .ref a0), (1, .int x1), (2, .int x2), (3, .int x3)] [] sh M L R n cu su := by
  unfold f_X1_workLayer_10 at h
  refine wx_iload_n dX1_workLayer_10 rfl ?_
  refine wx_sipush (v := 255) dX1_workLayer_11 (by decide) ?_
  refine wx_icmp_gt (tgt := 186) dX1_workLayer_14 (by decide) (fun c_14 => ?_) (fun c_14 => ?_)
  · replace h := it_t h c_14
    obtain rfl := Option.some.inj h
    replace g := sE_r g
    exact wx_sub g px_0
  · replace h := it_f h c_14
    refine wx_iload_n dX1_workLayer_17 rfl ?_
    refine wx_aload_n dX1_workLayer_18 rfl ?_
    obtain ⟨ws_19, h⟩ := ok_some h
    obtain ⟨ln_19, wt_19⟩ := hk_some ws_19
    refine wx_getI dX1_workLayer_19 fl_X1_13 wt_19 rfl ?_
    obtain ⟨e_22, k_22, h⟩ := bd1_some h
    refine wx_cSi dX1_workLayer_22 ml_X1_68 my_X11_stepsAt sv_X11_stepsAt (s_X11_stepsAt (d := d - 1) hS (by omega) k_22) rfl (by omega) (by exact Nat.le_of_ble_eq_true rfl) hcu hsu ?_
    refine wx_istore (lv' := [(4, _), (0, _), (1, _), (2, _), (3, _)]) dX1_workLayer_25 (by decide) rfl ?_
    refine wx_aload_n dX1_workLayer_27 rfl ?_
    obtain ⟨ws_28, h⟩ := ok_some h
    obtain ⟨ln_28, wt_28⟩ := hk_some ws_28
    obtain ⟨b_28, w_28, h⟩ := bd1_some h
    refine wx_getR dX1_workLayer_28 fl_X1_17 wt_28 rfl w_28 ?_
    refine wx_iload_n dX1_workLayer_31 rfl ?_
    refine wx_iconst (v := 2) dX1_workLayer_32 (by decide) ?_
    refine wx_iload_n dX1_workLayer_33 rfl ?_
    refine wx_imul dX1_workLayer_34 ?_
    refine wx_iadd dX1_workLayer_35 ?_
    refine wx_nami (fun v_36 q_36 => ?_)
    replace h := nm_at h q_36
    obtain ⟨w_36, h⟩ := ok_some h
    obtain ⟨ln_36, wt_36, wi_36⟩ := xk_some w_36
    refine wx_lald dX1_workLayer_36 wt_36 wi_36 ?_
    refine wx_naml (fun v_37 q_37 => ?_)
    replace h := nm_at h q_37
    refine wx_lstore (lv' := [(5, _), (4, _), (0, _), (1, _), (2, _), (3, _)]) dX1_workLayer_37 (by decide) rfl ?_
    refine wx_aload_n dX1_workLayer_39 rfl ?_
    obtain ⟨ws_40, h⟩ := ok_some h
    obtain ⟨ln_40, wt_40⟩ := hk_some ws_40
    obtain ⟨b_40, w_40, h⟩ := bd1_some h
    refine wx_getR dX1_workLayer_40 fl_X1_17 wt_40 rfl w_40 ?_
    refine wx_iload_n dX1_workLayer_43 rfl ?_
    refine wx_iconst (v := 2) dX1_workLayer_44 (by decide) ?_
    refine wx_iload_n dX1_workLayer_45 rfl ?_
    refine wx_imul dX1_workLayer_46 ?_
    refine wx_iadd dX1_workLayer_47 ?_
    refine wx_iconst (v := 1) dX1_workLayer_48 (by decide) ?_
    refine wx_iadd dX1_workLayer_49 ?_
    refine wx_nami (fun v_50 q_50 => ?_)
    replace h := nm_at h q_50
    obtain ⟨w_50, h⟩ := ok_some h
    obtain ⟨ln_50, wt_50, wi_50⟩ := xk_some w_50
    refine wx_lald dX1_workLayer_50 wt_50 wi_50 ?_
    refine wx_naml (fun v_51 q_51 => ?_)
    replace h := nm_at h q_51
    refine wx_lstore (lv' := [(7, _), (5, _), (4, _), (0, _), (1, _), (2, _), (3, _)]) dX1_workLayer_51 (by decide) rfl ?_
    refine wx_iload_n dX1_workLayer_53 rfl ?_
    refine wx_iload dX1_workLayer_54 rfl ?_
    refine wx_icmp_lt (tgt := 97) dX1_workLayer_56 (by decide) (fun c_56 => ?_) (fun c_56 => ?_)
    · replace h := it_t h c_56
      exact wx_sub (s_X1_workLayer_97 hS hd hcu hsu h g) (px_s rfl (px_s rfl (px_s rfl (px_s rfl (px_s rfl (px_s rfl (px_s rfl px_0)))))))
    · replace h := it_f h c_56
      refine wx_lload dX1_workLayer_59 rfl ?_
      refine wx_aload_n dX1_workLayer_61 rfl ?_
      obtain ⟨ws_62, h⟩ := ok_some h
      obtain ⟨ln_62, wt_62⟩ := hk_some ws_62
      obtain ⟨b_62, w_62, h⟩ := bd1_some h
      refine wx_getR dX1_workLayer_62 fl_X1_17 wt_62 rfl w_62 ?_
      refine wx_iload_n dX1_workLayer_65 rfl ?_
      refine wx_iconst (v := 2) dX1_workLayer_66 (by decide) ?_
      refine wx_iload_n dX1_workLayer_67 rfl ?_
      refine wx_iload dX1_workLayer_68 rfl ?_
      refine wx_isub dX1_workLayer_70 ?_
      refine wx_imul dX1_workLayer_71 ?_
      refine wx_iadd dX1_workLayer_72 ?_
      refine wx_nami (fun v_73 q_73 => ?_)
      replace h := nm_at h q_73
      obtain ⟨w_73, h⟩ := ok_some h
      obtain ⟨ln_73, wt_73, wi_73⟩ := xk_some w_73
      refine wx_lald dX1_workLayer_73 wt_73 wi_73 ?_
      refine wx_lor dX1_workLayer_74 ?_
      refine wx_naml (fun v_75 q_75 => ?_)
      replace h := nm_at h q_75
      refine wx_lstore (lv' := [(5, _), (7, _), (4, _), (0, _), (1, _), (2, _), (3, _)]) dX1_workLayer_75 (by decide) rfl ?_
      refine wx_lload dX1_workLayer_77 rfl ?_
      refine wx_aload_n dX1_workLayer_79 rfl ?_
      obtain ⟨ws_80, h⟩ := ok_some h
      obtain ⟨ln_80, wt_80⟩ := hk_some ws_80
      obtain ⟨b_80, w_80, h⟩ := bd1_some h
      refine wx_getR dX1_workLayer_80 fl_X1_17 wt_80 rfl w_80 ?_
      refine wx_iload_n dX1_workLayer_83 rfl ?_
      refine wx_iconst (v := 2) dX1_workLayer_84 (by decide) ?_
      refine wx_iload_n dX1_workLayer_85 rfl ?_
      refine wx_iload dX1_workLayer_86 rfl ?_
      refine wx_isub dX1_workLayer_88 ?_
      refine wx_imul dX1_workLayer_89 ?_
      refine wx_iadd dX1_workLayer_90 ?_
      refine wx_iconst (v := 1) dX1_workLayer_91 (by decide) ?_
      refine wx_iadd dX1_workLayer_92 ?_
      refine wx_nami (fun v_93 q_93 => ?_)
      replace h := nm_at h q_93
      obtain ⟨w_93, h⟩ := ok_some h
      obtain ⟨ln_93, wt_93, wi_93⟩ := xk_some w_93
      refine wx_lald dX1_workLayer_93 wt_93 wi_93 ?_
      refine wx_lor dX1_workLayer_94 ?_
      refine wx_naml (fun v_95 q_95 => ?_)
      replace h := nm_at h q_95
      refine wx_lstore (lv' := [(7, _), (5, _), (4, _), (0, _), (1, _), (2, _), (3, _)]) dX1_workLayer_95 (by decide) rfl ?_
      exact wx_sub (s_X1_workLayer_97 hS hd hcu hsu h g) (px_s rfl (px_s rfl (px_s rfl (px_s rfl (px_s rfl (px_s rfl (px_s rfl px_0)))))))
theorem s_X1_workLayer_10 {a0 : Nat} {x1 : Int32} {x2 : Int32} {x3 : Int32} {M : px_M} {L : px_L} {R : px_R} {e : (px_L)} (hS : SR sh R) (hd : 1 ≤ d) (hcu : cu ≤ mc) (hsu : su ≤ ms) (h : lpf (fun a : Int32 × px_L => f_X1_workLayer_10 sh M a.2 R a0 x1 x2 a.1) (x3, L) = some e) (g : WX RX1 cX1_workLayer 10 none ("workLayer", []) d mc ms X (px_QF Post mc ms) 186 [] [] sh M e R n cu su) : WX RX1 cX1_workLayer 10 none ("workLayer", []) d mc ms X (px_QF Post mc ms) 10 [(0, .ref a0), (1, .int x1), (2, .int x2), (3, .int x3)] [] sh M L R n cu su := by
  have key := lpf_wp (P := (fun a => WX RX1 cX1_workLayer 10 none ("workLayer", []) d mc ms X (px_QF Post mc ms) 10 [(0, .ref a0), (1, .int x1), (2, .int x2), (3, .int a.1)] [] sh M (a.2) R n cu su)) (G := (fun t => WX RX1 cX1_workLayer 10 none ("workLayer", []) d mc ms X (px_QF Post mc ms) 186 [] [] sh M t R n cu su)) (fun a r h g => s_X1_workLayer_10b (a0 := a0) (x1 := x1) (x2 := x2) (x3 := a.1) (M := M) (L := a.2) (R := R) hS hd hcu hsu h g) (a := (x3, L)) h g
  exact key
noncomputable def f_X1_workLayer (sh : px_Sh) (M : px_M) (L : px_L) (R : px_R) (a0 : Nat) (p1 : Int32) : Option (px_L) :=
  nm ((p1 - 1) * 512) fun v_7 =>
  bd1 (lpf (fun a : Int32 × px_L => f_X1_workLayer_10 sh M a.2 R a0 p1 v_7 a.1) (0, L)) fun e_10 =>
  some e_10
theorem s_X1_workLayer {d : Nat} {X : Nat × (Nat → Int32)} {sh : px_Sh} {M : px_M} {L : px_L} {R : px_R} {n : Nat} {a0 : Nat} {p1 : Int32} {e : px_L} (hS : SR sh R) (hd : 1 ≤ d) (h : f_X1_workLayer sh M L R a0 p1 = some e) : MX yX1_workLayer cX1_workLayer 10 none d 0 0 X [.ref a0, .int p1] sh M L R n (px_pu none sh M e R n) := by
  refine MX.of (by decide +kernel) (by exact Nat.le_of_ble_eq_true rfl) ?_
  have hcu : 0 ≤ 0 := Nat.zero_le _
  have hsu : 0 ≤ 0 := Nat.zero_le _
  have g : px_pu none sh M e R n none sh M e R n := ⟨rfl, rfl, rfl, rfl, rfl, rfl⟩
  unfold f_X1_workLayer at h
  refine wx_iload_n dX1_workLayer_0 rfl ?_
  refine wx_iconst (v := 1) dX1_workLayer_1 (by decide) ?_
  refine wx_isub dX1_workLayer_2 ?_
  refine wx_sipush (v := 512) dX1_workLayer_3 (by decide) ?_
  refine wx_imul dX1_workLayer_6 ?_
  refine wx_nami (fun v_7 q_7 => ?_)
  replace h := nm_at h q_7
  refine wx_istore_n (lv' := [(2, _), (0, _), (1, _)]) dX1_workLayer_7 (by decide) rfl ?_
  refine wx_iconst (v := 0) dX1_workLayer_8 (by decide) ?_
  refine wx_istore_n (lv' := [(3, _), (2, _), (0, _), (1, _)]) dX1_workLayer_9 (by decide) rfl ?_
  obtain ⟨e_10, k_10, h⟩ := bd1_some h
  refine wx_sub (s_X1_workLayer_10 hS hd hcu hsu k_10 ?_) (px_s rfl (px_s rfl (px_s rfl (px_s rfl px_0))))
  refine wx_vret dX1_workLayer_186 hcu hsu ?_
  obtain rfl := Option.some.inj h
  exact g
noncomputable def f_X1_isIn_23 (sh : px_Sh) (M : px_M) (L : px_L) (R : px_R) (a0 : Nat) (x1 : Int32) (x2 : Int32) (x3 : Int32) : Option ((px_M × px_L) ⊕ (px_M × px_L)) :=
  ok (hk sh a0 1) <|
  if x1 < (M a0 2) then
    some (.inr (M, L))
  else
    ok (hk sh a0 1) <|
    ok (hk sh a0 1) <|
    bd1 (f_X1_workLayer sh M L R a0 (M a0 2)) fun e_36 =>
    ok (hk sh a0 1) <|
    nm ((M a0 2) + 1) fun v_46 =>
    ok (hk sh a0 1) <|
    nm (px_u M a0 2 v_46) fun M_46 =>
    some (.inl (M_46, e_36))
theorem s_X1_isIn_23b {a0 : Nat} {x1 : Int32} {x2 : Int32} {x3 : Int32} {M : px_M} {L : px_L} {R : px_R} {e : ((px_M × px_L) ⊕ (px_M × px_L))} (hS : SR sh R) (hd : 2 ≤ d) (hcu : cu ≤ mc) (hsu : su ≤ ms) (h : f_X1_isIn_23 sh M L R a0 x1 x2 x3 = some e) (g : (sE (fun a => WX RX1 cX1_isIn 5 (some .boolean) ("isIn", []) d mc ms X (px_QF Post mc ms) 23 [(0, .ref a0), (1, .int x1), (2, .int x2), (3, .int x3)] [] sh (a.1) (a.2) R n cu su) (fun t => WX RX1 cX1_isIn 5 (some .boolean) ("isIn", []) d mc ms X (px_QF Post mc ms) 52 [(0, .ref a0), (1, .int x1), (2, .int x2), (3, .int x3)] [] sh (t.1) (t.2) R n cu su)) e) : WX RX1 cX1_isIn 5 (some .boolean) ("isIn", []) d mc ms X (px_QF Post mc ms) 23 [(0, .ref a0), (1, .int x1), (2, .int x2), (3, .int x3)] [] sh M L R n cu su := by
  unfold f_X1_isIn_23 at h
  refine wx_aload_n dX1_isIn_23 rfl ?_
  obtain ⟨ws_24, h⟩ := ok_some h
  obtain ⟨ln_24, wt_24⟩ := hk_some ws_24
  refine wx_getI dX1_isIn_24 fl_X1_41 wt_24 rfl ?_
  refine wx_iload_n dX1_isIn_27 rfl ?_
  refine wx_icmp_gt (tgt := 52) dX1_isIn_28 (by decide) (fun c_28 => ?_) (fun c_28 => ?_)
  · replace h := it_t h c_28
    obtain rfl := Option.some.inj h
    replace g := sE_r g
    exact wx_sub g (px_s rfl (px_s rfl (px_s rfl (px_s rfl px_0))))
  · replace h := it_f h c_28
    refine wx_aload_n dX1_isIn_31 rfl ?_
    refine wx_aload_n dX1_isIn_32 rfl ?_
    obtain ⟨ws_33, h⟩ := ok_some h
    obtain ⟨ln_33, wt_33⟩ := hk_some ws_33
    refine wx_getI dX1_isIn_33 fl_X1_41 wt_33 rfl ?_
    obtain ⟨ws_36, h⟩ := ok_some h
    obtain ⟨ln_36, wt_36⟩ := hk_some ws_36
    obtain ⟨e_36, k_36, h⟩ := bd1_some h
    refine wx_cVv dX1_isIn_36 ml_X1_64 my_X1_workLayer iv_X1_workLayer wt_36 (by decide) (s_X1_workLayer (d := d - 1) hS (by omega) k_36) rfl (by omega) (by exact Nat.le_of_ble_eq_true rfl) hcu hsu ?_
    refine wx_aload_n dX1_isIn_39 rfl ?_
    refine wx_dup dX1_isIn_40 rfl ?_
    obtain ⟨ws_41, h⟩ := ok_some h
    obtain ⟨ln_41, wt_41⟩ := hk_some ws_41
    refine wx_getI dX1_isIn_41 fl_X1_41 wt_41 rfl ?_
    refine wx_iconst (v := 1) dX1_isIn_44 (by decide) ?_
    refine wx_iadd dX1_isIn_45 ?_
    refine wx_nami (fun v_46 q_46 => ?_)
    replace h := nm_at h q_46
    obtain ⟨ws_46, h⟩ := ok_some h
    obtain ⟨ln_46, wt_46⟩ := hk_some ws_46
    refine wx_putI dX1_isIn_46 fl_X1_41 wt_46 (Or.inl rfl) rfl ⟨rfl, rfl⟩ ?_
    refine wx_namM (fun M_46 q_46 => ?_)
    replace h := nm_at h q_46
    refine wx_goto (tgt := 23) dX1_isIn_49 (by decide) ?_
    obtain rfl := Option.some.inj h
    replace g := sE_l g
    exact wx_sub g (px_s rfl (px_s rfl (px_s rfl (px_s rfl px_0))))
theorem s_X1_isIn_23 {a0 : Nat} {x1 : Int32} {x2 : Int32} {x3 : Int32} {M : px_M} {L : px_L} {R : px_R} {e : (px_M × px_L)} (hS : SR sh R) (hd : 2 ≤ d) (hcu : cu ≤ mc) (hsu : su ≤ ms) (h : lpf (fun a : px_M × px_L => f_X1_isIn_23 sh a.1 a.2 R a0 x1 x2 x3) (M, L) = some e) (g : WX RX1 cX1_isIn 5 (some .boolean) ("isIn", []) d mc ms X (px_QF Post mc ms) 52 [(0, .ref a0), (1, .int x1), (2, .int x2), (3, .int x3)] [] sh (e.1) (e.2) R n cu su) : WX RX1 cX1_isIn 5 (some .boolean) ("isIn", []) d mc ms X (px_QF Post mc ms) 23 [(0, .ref a0), (1, .int x1), (2, .int x2), (3, .int x3)] [] sh M L R n cu su := by
  have key := lpf_wp (P := (fun a => WX RX1 cX1_isIn 5 (some .boolean) ("isIn", []) d mc ms X (px_QF Post mc ms) 23 [(0, .ref a0), (1, .int x1), (2, .int x2), (3, .int x3)] [] sh (a.1) (a.2) R n cu su)) (G := (fun t => WX RX1 cX1_isIn 5 (some .boolean) ("isIn", []) d mc ms X (px_QF Post mc ms) 52 [(0, .ref a0), (1, .int x1), (2, .int x2), (3, .int x3)] [] sh (t.1) (t.2) R n cu su)) (fun a r h g => s_X1_isIn_23b (a0 := a0) (x1 := x1) (x2 := x2) (x3 := x3) (M := a.1) (L := a.2) (R := R) hS hd hcu hsu h g) (a := (M, L)) h g
  exact key
noncomputable def f_X1_isIn_119 (sh : px_Sh) (M : px_M) (L : px_L) (R : px_R) (z0 : Int32) : Option (Int32 × px_M × px_L) :=
  ok (zb z0) <|
  some (z0, M, L)
theorem s_X1_isIn_119 {z0 : Int32} {M : px_M} {L : px_L} {R : px_R} {e : (Int32 × px_M × px_L)} (hS : SR sh R) (hd : 2 ≤ d) (hcu : cu ≤ mc) (hsu : su ≤ ms) (h : f_X1_isIn_119 sh M L R z0 = some e) (g : Post (some (.int (e.1))) sh (e.2.1) (e.2.2) R n) : WX RX1 cX1_isIn 5 (some .boolean) ("isIn", []) d mc ms X (px_QF Post mc ms) 119 [] [.int z0] sh M L R n cu su := by
  unfold f_X1_isIn_119 at h
  obtain ⟨w_119, h⟩ := ok_some h
  refine wx_zret dX1_isIn_119 (zb_n w_119) hcu hsu ?_
  obtain rfl := Option.some.inj h
  exact g
noncomputable def f_X1_isIn_21 (sh : px_Sh) (M : px_M) (L : px_L) (R : px_R) : Option (Int32 × px_M × px_L) :=
  some (0, M, L)
theorem s_X1_isIn_21 {M : px_M} {L : px_L} {R : px_R} {e : (Int32 × px_M × px_L)} (hS : SR sh R) (hd : 2 ≤ d) (hcu : cu ≤ mc) (hsu : su ≤ ms) (h : f_X1_isIn_21 sh M L R = some e) (g : Post (some (.int (e.1))) sh (e.2.1) (e.2.2) R n) : WX RX1 cX1_isIn 5 (some .boolean) ("isIn", []) d mc ms X (px_QF Post mc ms) 21 [] [] sh M L R n cu su := by
  unfold f_X1_isIn_21 at h
  refine wx_iconst (v := 0) dX1_isIn_21 (by decide) ?_
  refine wx_zret dX1_isIn_22 rfl hcu hsu ?_
  obtain rfl := Option.some.inj h
  exact g
noncomputable def f_X1_isIn (sh : px_Sh) (M : px_M) (L : px_L) (R : px_R) (a0 : Nat) (p1 : Int32) (p2 : Int32) (p3 : Int32) : Option (Int32 × px_M × px_L) :=
  bd1 (f_X11_within p1 0 40) fun e_4 =>
  if e_4 = 0 then
    f_X1_isIn_21 sh M L R
  else
    bd1 (f_X11_within p2 0 255) fun e_15 =>
    if e_15 = 0 then
      f_X1_isIn_21 sh M L R
    else
      bd1 (lpf (fun a : px_M × px_L => f_X1_isIn_23 sh a.1 a.2 R a0 p1 p2 p3) (M, L)) fun e_23 =>
      nm ((p1 * 512) + (2 * p2)) fun v_61 =>
      if 36 ≤ p3 then
        ok (hk sh a0 1) <|
        bd1 (R a0 3) fun b_94 =>
        nm (v_61 + 1) fun v_101 =>
        ok (xk sh b_94 14 v_101) <|
        if (lg_cmp (((e_23.2 b_94 v_101.toNatClampNeg) >>> (((p3 - 36) : Int32).toInt64 &&& 63)) &&& 1) 1) = 0 then
          f_X1_isIn_119 sh e_23.1 e_23.2 R 1
        else
          f_X1_isIn_119 sh e_23.1 e_23.2 R 0
      else
        ok (hk sh a0 1) <|
        bd1 (R a0 3) fun b_70 =>
        ok (xk sh b_70 14 v_61) <|
        if (lg_cmp (((e_23.2 b_70 v_61.toNatClampNeg) >>> ((p3 : Int32).toInt64 &&& 63)) &&& 1) 1) = 0 then
          f_X1_isIn_119 sh e_23.1 e_23.2 R 1
        else
          f_X1_isIn_119 sh e_23.1 e_23.2 R 0
theorem s_X1_isIn {d : Nat} {X : Nat × (Nat → Int32)} {sh : px_Sh} {M : px_M} {L : px_L} {R : px_R} {n : Nat} {a0 : Nat} {p1 : Int32} {p2 : Int32} {p3 : Int32} {e : Int32 × px_M × px_L} (hS : SR sh R) (hd : 2 ≤ d) (h : f_X1_isIn sh M L R a0 p1 p2 p3 = some e) : MX yX1_isIn cX1_isIn 5 (some .boolean) d 0 0 X [.ref a0, .int p1, .int p2, .int p3] sh M L R n (px_pu (some (.int e.1)) sh e.2.1 e.2.2 R n) := by
  refine MX.of (by decide +kernel) (by exact Nat.le_of_ble_eq_true rfl) ?_
  have hcu : 0 ≤ 0 := Nat.zero_le _
  have hsu : 0 ≤ 0 := Nat.zero_le _
  have g : px_pu (some (.int e.1)) sh e.2.1 e.2.2 R n (some (.int e.1)) sh e.2.1 e.2.2 R n := ⟨rfl, rfl, rfl, rfl, rfl, rfl⟩
  unfold f_X1_isIn at h
  refine wx_iload_n dX1_isIn_0 rfl ?_
  refine wx_iconst (v := 0) dX1_isIn_1 (by decide) ?_
  refine wx_bipush (v := 40) dX1_isIn_2 (by decide) ?_
  obtain ⟨e_4, k_4, h⟩ := bd1_some h
  refine wx_cSi dX1_isIn_4 ml_X1_61 my_X11_within sv_X11_within (s_X11_within (d := d - 1) hS (by omega) k_4) rfl (by omega) (by exact Nat.le_of_ble_eq_true rfl) hcu hsu ?_
  refine wx_if_eq (tgt := 21) dX1_isIn_7 (by decide) (fun c_7 => ?_) (fun c_7 => ?_)
  · replace h := it_t h c_7
    exact wx_sub (s_X1_isIn_21 hS hd hcu hsu h g) px_0
  · replace h := it_f h c_7
    refine wx_iload_n dX1_isIn_10 rfl ?_
    refine wx_iconst (v := 0) dX1_isIn_11 (by decide) ?_
    refine wx_sipush (v := 255) dX1_isIn_12 (by decide) ?_
    obtain ⟨e_15, k_15, h⟩ := bd1_some h
    refine wx_cSi dX1_isIn_15 ml_X1_61 my_X11_within sv_X11_within (s_X11_within (d := d - 1) hS (by omega) k_15) rfl (by omega) (by exact Nat.le_of_ble_eq_true rfl) hcu hsu ?_
    refine wx_if_ne (tgt := 23) dX1_isIn_18 (by decide) (fun c_18 => ?_) (fun c_18 => ?_)
    · replace h := it_f h c_18
      obtain ⟨e_23, k_23, h⟩ := bd1_some h
      refine wx_sub (s_X1_isIn_23 hS hd hcu hsu k_23 ?_) (px_s rfl (px_s rfl (px_s rfl (px_s rfl px_0))))
      refine wx_iload_n dX1_isIn_52 rfl ?_
      refine wx_sipush (v := 512) dX1_isIn_53 (by decide) ?_
      refine wx_imul dX1_isIn_56 ?_
      refine wx_iconst (v := 2) dX1_isIn_57 (by decide) ?_
      refine wx_iload_n dX1_isIn_58 rfl ?_
      refine wx_imul dX1_isIn_59 ?_
      refine wx_iadd dX1_isIn_60 ?_
      refine wx_nami (fun v_61 q_61 => ?_)
      replace h := nm_at h q_61
      refine wx_istore (lv' := [(4, _), (0, _), (1, _), (2, _), (3, _)]) dX1_isIn_61 (by decide) rfl ?_
      refine wx_iload_n dX1_isIn_63 rfl ?_
      refine wx_bipush (v := 36) dX1_isIn_64 (by decide) ?_
      refine wx_icmp_ge (tgt := 93) dX1_isIn_66 (by decide) (fun c_66 => ?_) (fun c_66 => ?_)
      · replace h := it_t h c_66
        refine wx_aload_n dX1_isIn_93 rfl ?_
        obtain ⟨ws_94, h⟩ := ok_some h
        obtain ⟨ln_94, wt_94⟩ := hk_some ws_94
        obtain ⟨b_94, w_94, h⟩ := bd1_some h
        refine wx_getR dX1_isIn_94 fl_X1_17 wt_94 rfl w_94 ?_
        refine wx_iload dX1_isIn_97 rfl ?_
        refine wx_iconst (v := 1) dX1_isIn_99 (by decide) ?_
        refine wx_iadd dX1_isIn_100 ?_
        refine wx_nami (fun v_101 q_101 => ?_)
        replace h := nm_at h q_101
        obtain ⟨w_101, h⟩ := ok_some h
        obtain ⟨ln_101, wt_101, wi_101⟩ := xk_some w_101
        refine wx_lald dX1_isIn_101 wt_101 wi_101 ?_
        refine wx_iload_n dX1_isIn_102 rfl ?_
        refine wx_bipush (v := 36) dX1_isIn_103 (by decide) ?_
        refine wx_isub dX1_isIn_105 ?_
        refine wx_lshr dX1_isIn_106 ?_
        refine wx_lconst (v := 1) dX1_isIn_107 (by decide) ?_
        refine wx_land dX1_isIn_108 ?_
        refine wx_lconst (v := 1) dX1_isIn_109 (by decide) ?_
        refine wx_lcmp dX1_isIn_110 ?_
        refine wx_if_ne (tgt := 118) dX1_isIn_111 (by decide) (fun c_111 => ?_) (fun c_111 => ?_)
        · replace h := it_f h c_111
          refine wx_iconst (v := 0) dX1_isIn_118 (by decide) ?_
          exact wx_sub (s_X1_isIn_119 hS hd hcu hsu h g) px_0
        · replace h := it_t h c_111
          refine wx_iconst (v := 1) dX1_isIn_114 (by decide) ?_
          refine wx_goto (tgt := 119) dX1_isIn_115 (by decide) ?_
          exact wx_sub (s_X1_isIn_119 hS hd hcu hsu h g) px_0
      · replace h := it_f h c_66
        refine wx_aload_n dX1_isIn_69 rfl ?_
        obtain ⟨ws_70, h⟩ := ok_some h
        obtain ⟨ln_70, wt_70⟩ := hk_some ws_70
        obtain ⟨b_70, w_70, h⟩ := bd1_some h
        refine wx_getR dX1_isIn_70 fl_X1_17 wt_70 rfl w_70 ?_
        refine wx_iload dX1_isIn_73 rfl ?_
        obtain ⟨w_75, h⟩ := ok_some h
        obtain ⟨ln_75, wt_75, wi_75⟩ := xk_some w_75
        refine wx_lald dX1_isIn_75 wt_75 wi_75 ?_
        refine wx_iload_n dX1_isIn_76 rfl ?_
        refine wx_lshr dX1_isIn_77 ?_
        refine wx_lconst (v := 1) dX1_isIn_78 (by decide) ?_
        refine wx_land dX1_isIn_79 ?_
        refine wx_lconst (v := 1) dX1_isIn_80 (by decide) ?_
        refine wx_lcmp dX1_isIn_81 ?_
        refine wx_if_ne (tgt := 89) dX1_isIn_82 (by decide) (fun c_82 => ?_) (fun c_82 => ?_)
        · replace h := it_f h c_82
          refine wx_iconst (v := 0) dX1_isIn_89 (by decide) ?_
          refine wx_goto (tgt := 119) dX1_isIn_90 (by decide) ?_
          exact wx_sub (s_X1_isIn_119 hS hd hcu hsu h g) px_0
        · replace h := it_t h c_82
          refine wx_iconst (v := 1) dX1_isIn_85 (by decide) ?_
          refine wx_goto (tgt := 119) dX1_isIn_86 (by decide) ?_
          exact wx_sub (s_X1_isIn_119 hS hd hcu hsu h g) px_0
    · replace h := it_t h c_18
      exact wx_sub (s_X1_isIn_21 hS hd hcu hsu h g) px_0
noncomputable def f_X1_fewestFrom_2 (sh : px_Sh) (M : px_M) (L : px_L) (R : px_R) (a0 : Nat) (x1 : Int32) (x2 : Int32) (x3 : Int32) : Option ((Int32 × px_M × px_L) ⊕ ((Int32 × px_M × px_L) ⊕ (px_M × px_L))) :=
  if 40 < x3 then
    some (.inr (.inr (M, L)))
  else
    ok (hk sh a0 1) <|
    bd1 (f_X1_isIn sh M L R a0 x3 x1 x2) fun e_12 =>
    if e_12.1 = 0 then
      some (.inl ((x3 + 1), e_12.2.1, e_12.2.2))
    else
      some (.inr (.inl (x3, e_12.2.1, e_12.2.2)))
theorem s_X1_fewestFrom_2b {a0 : Nat} {x1 : Int32} {x2 : Int32} {x3 : Int32} {M : px_M} {L : px_L} {R : px_R} {e : ((Int32 × px_M × px_L) ⊕ ((Int32 × px_M × px_L) ⊕ (px_M × px_L)))} (hS : SR sh R) (hd : 3 ≤ d) (hcu : cu ≤ mc) (hsu : su ≤ ms) (h : f_X1_fewestFrom_2 sh M L R a0 x1 x2 x3 = some e) (g : (sE (fun a => WX RX1 cX1_fewestFrom 4 (some .int) ("fewestFrom", []) d mc ms X (px_QF Post mc ms) 2 [(0, .ref a0), (1, .int x1), (2, .int x2), (3, .int a.1)] [] sh (a.2.1) (a.2.2) R n cu su) (sE (fun t => WX RX1 cX1_fewestFrom 4 (some .int) ("fewestFrom", []) d mc ms X (px_QF Post mc ms) 18 [(3, .int t.1)] [] sh (t.2.1) (t.2.2) R n cu su) (fun t => WX RX1 cX1_fewestFrom 4 (some .int) ("fewestFrom", []) d mc ms X (px_QF Post mc ms) 26 [] [] sh (t.1) (t.2) R n cu su))) e) : WX RX1 cX1_fewestFrom 4 (some .int) ("fewestFrom", []) d mc ms X (px_QF Post mc ms) 2 [(0, .ref a0), (1, .int x1), (2, .int x2), (3, .int x3)] [] sh M L R n cu su := by
  unfold f_X1_fewestFrom_2 at h
  refine wx_iload_n dX1_fewestFrom_2 rfl ?_
  refine wx_bipush (v := 40) dX1_fewestFrom_3 (by decide) ?_
  refine wx_icmp_gt (tgt := 26) dX1_fewestFrom_5 (by decide) (fun c_5 => ?_) (fun c_5 => ?_)
  · replace h := it_t h c_5
    obtain rfl := Option.some.inj h
    replace g := sE_r (sE_r g)
    exact wx_sub g px_0
  · replace h := it_f h c_5
    refine wx_aload_n dX1_fewestFrom_8 rfl ?_
    refine wx_iload_n dX1_fewestFrom_9 rfl ?_
    refine wx_iload_n dX1_fewestFrom_10 rfl ?_
    refine wx_iload_n dX1_fewestFrom_11 rfl ?_
    obtain ⟨ws_12, h⟩ := ok_some h
    obtain ⟨ln_12, wt_12⟩ := hk_some ws_12
    obtain ⟨e_12, k_12, h⟩ := bd1_some h
    refine wx_cVi dX1_fewestFrom_12 ml_X1_44 my_X1_isIn iv_X1_isIn wt_12 (by decide) (s_X1_isIn (d := d - 1) hS (by omega) k_12) rfl (by omega) (by exact Nat.le_of_ble_eq_true rfl) hcu hsu ?_
    refine wx_if_eq (tgt := 20) dX1_fewestFrom_15 (by decide) (fun c_15 => ?_) (fun c_15 => ?_)
    · replace h := it_t h c_15
      refine wx_iinc (lv' := [(3, _), (0, _), (1, _), (2, _)]) dX1_fewestFrom_20 rfl (i_1 _) (by decide) rfl ?_
      refine wx_goto (tgt := 2) dX1_fewestFrom_23 (by decide) ?_
      obtain rfl := Option.some.inj h
      replace g := sE_l g
      exact wx_sub g (px_s rfl (px_s rfl (px_s rfl (px_s rfl px_0))))
    · replace h := it_f h c_15
      obtain rfl := Option.some.inj h
      replace g := sE_l (sE_r g)
      exact wx_sub g (px_s rfl px_0)
theorem s_X1_fewestFrom_2 {a0 : Nat} {x1 : Int32} {x2 : Int32} {x3 : Int32} {M : px_M} {L : px_L} {R : px_R} {e : ((Int32 × px_M × px_L) ⊕ (px_M × px_L))} (hS : SR sh R) (hd : 3 ≤ d) (hcu : cu ≤ mc) (hsu : su ≤ ms) (h : lpf (fun a : Int32 × px_M × px_L => f_X1_fewestFrom_2 sh a.2.1 a.2.2 R a0 x1 x2 a.1) (x3, M, L) = some e) (g : (sE (fun t => WX RX1 cX1_fewestFrom 4 (some .int) ("fewestFrom", []) d mc ms X (px_QF Post mc ms) 18 [(3, .int t.1)] [] sh (t.2.1) (t.2.2) R n cu su) (fun t => WX RX1 cX1_fewestFrom 4 (some .int) ("fewestFrom", []) d mc ms X (px_QF Post mc ms) 26 [] [] sh (t.1) (t.2) R n cu su)) e) : WX RX1 cX1_fewestFrom 4 (some .int) ("fewestFrom", []) d mc ms X (px_QF Post mc ms) 2 [(0, .ref a0), (1, .int x1), (2, .int x2), (3, .int x3)] [] sh M L R n cu su := by
  have key := lpf_wp (P := (fun a => WX RX1 cX1_fewestFrom 4 (some .int) ("fewestFrom", []) d mc ms X (px_QF Post mc ms) 2 [(0, .ref a0), (1, .int x1), (2, .int x2), (3, .int a.1)] [] sh (a.2.1) (a.2.2) R n cu su)) (G := (sE (fun t => WX RX1 cX1_fewestFrom 4 (some .int) ("fewestFrom", []) d mc ms X (px_QF Post mc ms) 18 [(3, .int t.1)] [] sh (t.2.1) (t.2.2) R n cu su) (fun t => WX RX1 cX1_fewestFrom 4 (some .int) ("fewestFrom", []) d mc ms X (px_QF Post mc ms) 26 [] [] sh (t.1) (t.2) R n cu su))) (fun a r h g => s_X1_fewestFrom_2b (a0 := a0) (x1 := x1) (x2 := x2) (x3 := a.1) (M := a.2.1) (L := a.2.2) (R := R) hS hd hcu hsu h g) (a := (x3, M, L)) h g
  exact key
noncomputable def f_X1_fewestFrom (sh : px_Sh) (M : px_M) (L : px_L) (R : px_R) (a0 : Nat) (p1 : Int32) (p2 : Int32) : Option (Int32 × px_M × px_L) :=
  bdS (lpf (fun a : Int32 × px_M × px_L => f_X1_fewestFrom_2 sh a.2.1 a.2.2 R a0 p1 p2 a.1) (0, M, L)) (fun t_2_0 =>
  some (t_2_0.1, t_2_0.2.1, t_2_0.2.2)) (fun u_2_0 =>
  some ((-1), u_2_0.1, u_2_0.2))
theorem s_X1_fewestFrom {d : Nat} {X : Nat × (Nat → Int32)} {sh : px_Sh} {M : px_M} {L : px_L} {R : px_R} {n : Nat} {a0 : Nat} {p1 : Int32} {p2 : Int32} {e : Int32 × px_M × px_L} (hS : SR sh R) (hd : 3 ≤ d) (h : f_X1_fewestFrom sh M L R a0 p1 p2 = some e) : MX yX1_fewestFrom cX1_fewestFrom 4 (some .int) d 0 0 X [.ref a0, .int p1, .int p2] sh M L R n (px_pu (some (.int e.1)) sh e.2.1 e.2.2 R n) := by
  refine MX.of (by decide +kernel) (by exact Nat.le_of_ble_eq_true rfl) ?_
  have hcu : 0 ≤ 0 := Nat.zero_le _
  have hsu : 0 ≤ 0 := Nat.zero_le _
  have g : px_pu (some (.int e.1)) sh e.2.1 e.2.2 R n (some (.int e.1)) sh e.2.1 e.2.2 R n := ⟨rfl, rfl, rfl, rfl, rfl, rfl⟩
  unfold f_X1_fewestFrom at h
  refine wx_iconst (v := 0) dX1_fewestFrom_0 (by decide) ?_
  refine wx_istore_n (lv' := [(3, _), (0, _), (1, _), (2, _)]) dX1_fewestFrom_1 (by decide) rfl ?_
  rcases bdS_some h with ⟨t_2_0, k_2_0, h⟩ | ⟨u_2_0, k_2_0, h⟩
  · refine wx_sub (s_X1_fewestFrom_2 hS hd hcu hsu k_2_0 (sE_li ?_)) (px_s rfl (px_s rfl (px_s rfl (px_s rfl px_0))))
    refine wx_iload_n dX1_fewestFrom_18 rfl ?_
    refine wx_iret dX1_fewestFrom_19 hcu hsu ?_
    obtain rfl := Option.some.inj h
    exact g
  · refine wx_sub (s_X1_fewestFrom_2 hS hd hcu hsu k_2_0 (sE_ri ?_)) (px_s rfl (px_s rfl (px_s rfl (px_s rfl px_0))))
    refine wx_iconst (v := (-1)) dX1_fewestFrom_26 (by decide) ?_
    refine wx_iret dX1_fewestFrom_27 hcu hsu ?_
    obtain rfl := Option.some.inj h
    exact g
noncomputable def f_X1_aheadBehind (sh : px_Sh) (M : px_M) (a0 : Nat) (p1 : Int32) (p2 : Int32) : Option (Int32) :=
  bd1 (f_X11_turnOfDay p1) fun e_2 =>
  ok (hk sh a0 1) <|
  bd1 (f_J9_floorMod_7cf53 ((p2 + e_2) - (M a0 0)) 72) fun e_13 =>
  some e_13
theorem s_X1_aheadBehind {d : Nat} {X : Nat × (Nat → Int32)} {sh : px_Sh} {M : px_M} {L : px_L} {R : px_R} {n : Nat} {a0 : Nat} {p1 : Int32} {p2 : Int32} {e : Int32} (hS : SR sh R) (hd : 1 ≤ d) (h : f_X1_aheadBehind sh M a0 p1 p2 = some e) : MX yX1_aheadBehind cX1_aheadBehind 3 (some .int) d 0 0 X [.ref a0, .int p1, .int p2] sh M L R n (px_pu (some (.int e)) sh M L R n) := by
  refine MX.of (by decide +kernel) (by exact Nat.le_of_ble_eq_true rfl) ?_
  have hcu : 0 ≤ 0 := Nat.zero_le _
  have hsu : 0 ≤ 0 := Nat.zero_le _
  have g : px_pu (some (.int e)) sh M L R n (some (.int e)) sh M L R n := ⟨rfl, rfl, rfl, rfl, rfl, rfl⟩
  unfold f_X1_aheadBehind at h
  refine wx_iload_n dX1_aheadBehind_0 rfl ?_
  refine wx_iload_n dX1_aheadBehind_1 rfl ?_
  obtain ⟨e_2, k_2, h⟩ := bd1_some h
  refine wx_cSi dX1_aheadBehind_2 ml_X1_55 my_X11_turnOfDay sv_X11_turnOfDay (s_X11_turnOfDay (d := d - 1) hS (by omega) k_2) rfl (by omega) (by exact Nat.le_of_ble_eq_true rfl) hcu hsu ?_
  refine wx_iadd dX1_aheadBehind_5 ?_
  refine wx_aload_n dX1_aheadBehind_6 rfl ?_
  obtain ⟨ws_7, h⟩ := ok_some h
  obtain ⟨ln_7, wt_7⟩ := hk_some ws_7
  refine wx_getI dX1_aheadBehind_7 fl_X1_21 wt_7 rfl ?_
  refine wx_isub dX1_aheadBehind_10 ?_
  refine wx_bipush (v := 72) dX1_aheadBehind_11 (by decide) ?_
  obtain ⟨e_13, k_13, h⟩ := bd1_some h
  refine wx_cSi dX1_aheadBehind_13 ml_X1_58 my_J9_floorMod_7cf53 sv_J9_floorMod_7cf53 (s_J9_floorMod_7cf53 (d := d - 1) hS (by omega) k_13) rfl (by omega) (by exact Nat.le_of_ble_eq_true rfl) hcu hsu ?_
  refine wx_iret dX1_aheadBehind_16 hcu hsu ?_
  obtain rfl := Option.some.inj h
  exact g
noncomputable def f_X1_firstSteer_11 (sh : px_Sh) (M : px_M) (L : px_L) (R : px_R) (a0 : Nat) (x1 : Int32) (x3 : Int32) (x4 : Int32) (x5 : Int32) : Option ((Int32 × px_M × px_L) ⊕ (Int32 × px_M × px_L)) :=
  if 2 ≤ x4 then
    some (.inr (x4, M, L))
  else
    ok (hk sh a0 1) <|
    bd1 (f_X11_rhoBehind x1 x4 (M a0 1)) fun e_28 =>
    ok (hk sh a0 1) <|
    bd1 (f_X1_isIn sh M L R a0 (x3 - 1) e_28 x5) fun e_33 =>
    if e_33.1 = 0 then
      some (.inl ((x4 + 1), e_33.2.1, e_33.2.2))
    else
      some (.inr (x4, e_33.2.1, e_33.2.2))
theorem s_X1_firstSteer_11b {a0 : Nat} {x1 : Int32} {x3 : Int32} {x4 : Int32} {x5 : Int32} {M : px_M} {L : px_L} {R : px_R} {e : ((Int32 × px_M × px_L) ⊕ (Int32 × px_M × px_L))} (hS : SR sh R) (hd : 3 ≤ d) (hcu : cu ≤ mc) (hsu : su ≤ ms) (h : f_X1_firstSteer_11 sh M L R a0 x1 x3 x4 x5 = some e) (g : (sE (fun a => WX RX1 cX1_firstSteer 6 (some .int) ("firstSteer", []) d mc ms X (px_QF Post mc ms) 11 [(0, .ref a0), (1, .int x1), (3, .int x3), (4, .int a.1), (5, .int x5)] [] sh (a.2.1) (a.2.2) R n cu su) (fun t => WX RX1 cX1_firstSteer 6 (some .int) ("firstSteer", []) d mc ms X (px_QF Post mc ms) 45 [(4, .int t.1)] [] sh (t.2.1) (t.2.2) R n cu su)) e) : WX RX1 cX1_firstSteer 6 (some .int) ("firstSteer", []) d mc ms X (px_QF Post mc ms) 11 [(0, .ref a0), (1, .int x1), (3, .int x3), (4, .int x4), (5, .int x5)] [] sh M L R n cu su := by
  unfold f_X1_firstSteer_11 at h
  refine wx_iload dX1_firstSteer_11 rfl ?_
  refine wx_iconst (v := 2) dX1_firstSteer_13 (by decide) ?_
  refine wx_icmp_ge (tgt := 45) dX1_firstSteer_14 (by decide) (fun c_14 => ?_) (fun c_14 => ?_)
  · replace h := it_t h c_14
    obtain rfl := Option.some.inj h
    replace g := sE_r g
    exact wx_sub g (px_s rfl px_0)
  · replace h := it_f h c_14
    refine wx_aload_n dX1_firstSteer_17 rfl ?_
    refine wx_iload_n dX1_firstSteer_18 rfl ?_
    refine wx_iconst (v := 1) dX1_firstSteer_19 (by decide) ?_
    refine wx_isub dX1_firstSteer_20 ?_
    refine wx_iload_n dX1_firstSteer_21 rfl ?_
    refine wx_iload dX1_firstSteer_22 rfl ?_
    refine wx_aload_n dX1_firstSteer_24 rfl ?_
    obtain ⟨ws_25, h⟩ := ok_some h
    obtain ⟨ln_25, wt_25⟩ := hk_some ws_25
    refine wx_getI dX1_firstSteer_25 fl_X1_13 wt_25 rfl ?_
    obtain ⟨e_28, k_28, h⟩ := bd1_some h
    refine wx_cSi dX1_firstSteer_28 ml_X1_51 my_X11_rhoBehind sv_X11_rhoBehind (s_X11_rhoBehind (d := d - 1) hS (by omega) k_28) rfl (by omega) (by exact Nat.le_of_ble_eq_true rfl) hcu hsu ?_
    refine wx_iload dX1_firstSteer_31 rfl ?_
    obtain ⟨ws_33, h⟩ := ok_some h
    obtain ⟨ln_33, wt_33⟩ := hk_some ws_33
    obtain ⟨e_33, k_33, h⟩ := bd1_some h
    refine wx_cVi dX1_firstSteer_33 ml_X1_44 my_X1_isIn iv_X1_isIn wt_33 (by decide) (s_X1_isIn (d := d - 1) hS (by omega) k_33) rfl (by omega) (by exact Nat.le_of_ble_eq_true rfl) hcu hsu ?_
    refine wx_if_ne (tgt := 45) dX1_firstSteer_36 (by decide) (fun c_36 => ?_) (fun c_36 => ?_)
    · replace h := it_f h c_36
      obtain rfl := Option.some.inj h
      replace g := sE_r g
      exact wx_sub g (px_s rfl px_0)
    · replace h := it_t h c_36
      refine wx_iinc (lv' := [(4, _), (0, _), (1, _), (3, _), (5, _)]) dX1_firstSteer_39 rfl (i_1 _) (by decide) rfl ?_
      refine wx_goto (tgt := 11) dX1_firstSteer_42 (by decide) ?_
      obtain rfl := Option.some.inj h
      replace g := sE_l g
      exact wx_sub g (px_s rfl (px_s rfl (px_s rfl (px_s rfl (px_s rfl px_0)))))
theorem s_X1_firstSteer_11 {a0 : Nat} {x1 : Int32} {x3 : Int32} {x4 : Int32} {x5 : Int32} {M : px_M} {L : px_L} {R : px_R} {e : (Int32 × px_M × px_L)} (hS : SR sh R) (hd : 3 ≤ d) (hcu : cu ≤ mc) (hsu : su ≤ ms) (h : lpf (fun a : Int32 × px_M × px_L => f_X1_firstSteer_11 sh a.2.1 a.2.2 R a0 x1 x3 a.1 x5) (x4, M, L) = some e) (g : WX RX1 cX1_firstSteer 6 (some .int) ("firstSteer", []) d mc ms X (px_QF Post mc ms) 45 [(4, .int e.1)] [] sh (e.2.1) (e.2.2) R n cu su) : WX RX1 cX1_firstSteer 6 (some .int) ("firstSteer", []) d mc ms X (px_QF Post mc ms) 11 [(0, .ref a0), (1, .int x1), (3, .int x3), (4, .int x4), (5, .int x5)] [] sh M L R n cu su := by
  have key := lpf_wp (P := (fun a => WX RX1 cX1_firstSteer 6 (some .int) ("firstSteer", []) d mc ms X (px_QF Post mc ms) 11 [(0, .ref a0), (1, .int x1), (3, .int x3), (4, .int a.1), (5, .int x5)] [] sh (a.2.1) (a.2.2) R n cu su)) (G := (fun t => WX RX1 cX1_firstSteer 6 (some .int) ("firstSteer", []) d mc ms X (px_QF Post mc ms) 45 [(4, .int t.1)] [] sh (t.2.1) (t.2.2) R n cu su)) (fun a r h g => s_X1_firstSteer_11b (a0 := a0) (x1 := x1) (x3 := x3) (x4 := a.1) (x5 := x5) (M := a.2.1) (L := a.2.2) (R := R) hS hd hcu hsu h g) (a := (x4, M, L)) h g
  exact key
noncomputable def f_X1_firstSteer (sh : px_Sh) (M : px_M) (L : px_L) (R : px_R) (a0 : Nat) (p1 : Int32) (p2 : Int32) (p3 : Int32) : Option (Int32 × px_M × px_L) :=
  ok (hk sh a0 1) <|
  bd1 (f_X1_aheadBehind sh M a0 p1 p2) fun e_6 =>
  bd1 (lpf (fun a : Int32 × px_M × px_L => f_X1_firstSteer_11 sh a.2.1 a.2.2 R a0 p1 p3 a.1 e_6) (0, M, L)) fun e_11 =>
  some (e_11.1, e_11.2.1, e_11.2.2)
theorem s_X1_firstSteer {d : Nat} {X : Nat × (Nat → Int32)} {sh : px_Sh} {M : px_M} {L : px_L} {R : px_R} {n : Nat} {a0 : Nat} {p1 : Int32} {p2 : Int32} {p3 : Int32} {e : Int32 × px_M × px_L} (hS : SR sh R) (hd : 3 ≤ d) (h : f_X1_firstSteer sh M L R a0 p1 p2 p3 = some e) : MX yX1_firstSteer cX1_firstSteer 6 (some .int) d 0 0 X [.ref a0, .int p1, .int p2, .int p3] sh M L R n (px_pu (some (.int e.1)) sh e.2.1 e.2.2 R n) := by
  refine MX.of (by decide +kernel) (by exact Nat.le_of_ble_eq_true rfl) ?_
  have hcu : 0 ≤ 0 := Nat.zero_le _
  have hsu : 0 ≤ 0 := Nat.zero_le _
  have g : px_pu (some (.int e.1)) sh e.2.1 e.2.2 R n (some (.int e.1)) sh e.2.1 e.2.2 R n := ⟨rfl, rfl, rfl, rfl, rfl, rfl⟩
  unfold f_X1_firstSteer at h
  refine wx_iconst (v := 0) dX1_firstSteer_0 (by decide) ?_
  refine wx_istore (lv' := [(4, _), (0, _), (1, _), (2, _), (3, _)]) dX1_firstSteer_1 (by decide) rfl ?_
  refine wx_aload_n dX1_firstSteer_3 rfl ?_
  refine wx_iload_n dX1_firstSteer_4 rfl ?_
  refine wx_iload_n dX1_firstSteer_5 rfl ?_
  obtain ⟨ws_6, h⟩ := ok_some h
  obtain ⟨ln_6, wt_6⟩ := hk_some ws_6
  obtain ⟨e_6, k_6, h⟩ := bd1_some h
  refine wx_cVi dX1_firstSteer_6 ml_X1_48 my_X1_aheadBehind iv_X1_aheadBehind wt_6 (by decide) (s_X1_aheadBehind (d := d - 1) hS (by omega) k_6) rfl (by omega) (by exact Nat.le_of_ble_eq_true rfl) hcu hsu ?_
  refine wx_istore (lv' := [(5, _), (4, _), (0, _), (1, _), (2, _), (3, _)]) dX1_firstSteer_9 (by decide) rfl ?_
  obtain ⟨e_11, k_11, h⟩ := bd1_some h
  refine wx_sub (s_X1_firstSteer_11 hS hd hcu hsu k_11 ?_) (px_s rfl (px_s rfl (px_s rfl (px_s rfl (px_s rfl px_0)))))
  refine wx_iload dX1_firstSteer_45 rfl ?_
  refine wx_iret dX1_firstSteer_47 hcu hsu ?_
  obtain rfl := Option.some.inj h
  exact g
end LIFT
