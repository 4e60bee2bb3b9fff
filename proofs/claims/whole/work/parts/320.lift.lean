/-! methods that make cells -/
section LIFT
variable {d mc ms : Nat} {X : Nat × (Nat → Int32)} {Post : px_Post} {sh : px_Sh} {n cu su : Nat}
noncomputable def f_X1_init_45 (sh : px_Sh) (M : px_M) (L : px_L) (R : px_R) (n : Nat) (a0 : Nat) (x4 : Int32) (x5 : Int32) : Option ((Int32 × px_L) ⊕ (px_L)) :=
  if x4 < x5 then
    some (.inr L)
  else
    ok (hk sh a0 1) <|
    bd1 (R a0 3) fun b_53 =>
    ok (xk sh b_53 14 (2 * x5)) <|
    nm (px_u L b_53 (2 * x5).toNatClampNeg 7) fun L_63 =>
    ok (hk sh a0 1) <|
    bd1 (R a0 3) fun b_65 =>
    ok (xk sh b_65 14 ((2 * x5) + 1)) <|
    nm (px_u L_63 b_65 ((2 * x5) + 1).toNatClampNeg 51539607552) fun L_77 =>
    some (.inl ((x5 + 1), L_77))
theorem s_X1_init_45b {a0 : Nat} {x4 : Int32} {x5 : Int32} {M : px_M} {L : px_L} {R : px_R} {e : ((Int32 × px_L) ⊕ (px_L))} (hS : SR sh R) (hd : 1 ≤ d) (hcu : cu ≤ mc) (hsu : su ≤ ms) (hn : 220 ≤ n) (h : f_X1_init_45 sh M L R n a0 x4 x5 = some e) (g : (sE (fun a => WX RX1 cX1_init 6 none ("<init>", []) d mc ms X (px_QF Post mc ms) 45 [(0, .ref a0), (4, .int x4), (5, .int a.1)] [] sh M (a.2) R n cu su) (fun t => WX RX1 cX1_init 6 none ("<init>", []) d mc ms X (px_QF Post mc ms) 84 [] [] sh M t R n cu su)) e) : WX RX1 cX1_init 6 none ("<init>", []) d mc ms X (px_QF Post mc ms) 45 [(0, .ref a0), (4, .int x4), (5, .int x5)] [] sh M L R n cu su := by
  unfold f_X1_init_45 at h
  refine wx_iload dX1_init_45 rfl ?_
  refine wx_iload dX1_init_47 rfl ?_
  refine wx_icmp_gt (tgt := 84) dX1_init_49 (by decide) (fun c_49 => ?_) (fun c_49 => ?_)
  · replace h := it_t h c_49
    obtain rfl := Option.some.inj h
    replace g := sE_r g
    exact wx_sub g px_0
  · replace h := it_f h c_49
    refine wx_aload_n dX1_init_52 rfl ?_
    obtain ⟨ws_53, h⟩ := ok_some h
    obtain ⟨ln_53, wt_53⟩ := hk_some ws_53
    obtain ⟨b_53, w_53, h⟩ := bd1_some h
    refine wx_getR dX1_init_53 fl_X1_17 wt_53 rfl w_53 ?_
    refine wx_iconst (v := 2) dX1_init_56 (by decide) ?_
    refine wx_iload dX1_init_57 rfl ?_
    refine wx_imul dX1_init_59 ?_
    refine wx_ldc2 dX1_init_60 kl_X1_33 ?_
    obtain ⟨w_63, h⟩ := ok_some h
    obtain ⟨ln_63, wt_63, wi_63⟩ := xk_some w_63
    refine wx_last dX1_init_63 wt_63 wi_63 ?_
    refine wx_namL (fun L_63 q_63 => ?_)
    replace h := nm_at h q_63
    refine wx_aload_n dX1_init_64 rfl ?_
    obtain ⟨ws_65, h⟩ := ok_some h
    obtain ⟨ln_65, wt_65⟩ := hk_some ws_65
    obtain ⟨b_65, w_65, h⟩ := bd1_some h
    refine wx_getR dX1_init_65 fl_X1_17 wt_65 rfl w_65 ?_
    refine wx_iconst (v := 2) dX1_init_68 (by decide) ?_
    refine wx_iload dX1_init_69 rfl ?_
    refine wx_imul dX1_init_71 ?_
    refine wx_iconst (v := 1) dX1_init_72 (by decide) ?_
    refine wx_iadd dX1_init_73 ?_
    refine wx_ldc2 dX1_init_74 kl_X1_35 ?_
    obtain ⟨w_77, h⟩ := ok_some h
    obtain ⟨ln_77, wt_77, wi_77⟩ := xk_some w_77
    refine wx_last dX1_init_77 wt_77 wi_77 ?_
    refine wx_namL (fun L_77 q_77 => ?_)
    replace h := nm_at h q_77
    refine wx_iinc (lv' := [(5, _), (0, _), (4, _)]) dX1_init_78 rfl (i_1 _) (by decide) rfl ?_
    refine wx_goto (tgt := 45) dX1_init_81 (by decide) ?_
    obtain rfl := Option.some.inj h
    replace g := sE_l g
    exact wx_sub g (px_s rfl (px_s rfl (px_s rfl px_0)))
theorem s_X1_init_45 {a0 : Nat} {x4 : Int32} {x5 : Int32} {M : px_M} {L : px_L} {R : px_R} {e : (px_L)} (hS : SR sh R) (hd : 1 ≤ d) (hcu : cu ≤ mc) (hsu : su ≤ ms) (hn : 220 ≤ n) (h : lpf (fun a : Int32 × px_L => f_X1_init_45 sh M a.2 R n a0 x4 a.1) (x5, L) = some e) (g : WX RX1 cX1_init 6 none ("<init>", []) d mc ms X (px_QF Post mc ms) 84 [] [] sh M e R n cu su) : WX RX1 cX1_init 6 none ("<init>", []) d mc ms X (px_QF Post mc ms) 45 [(0, .ref a0), (4, .int x4), (5, .int x5)] [] sh M L R n cu su := by
  have key := lpf_wp (P := (fun a => WX RX1 cX1_init 6 none ("<init>", []) d mc ms X (px_QF Post mc ms) 45 [(0, .ref a0), (4, .int x4), (5, .int a.1)] [] sh M (a.2) R n cu su)) (G := (fun t => WX RX1 cX1_init 6 none ("<init>", []) d mc ms X (px_QF Post mc ms) 84 [] [] sh M t R n cu su)) (fun a r h g => s_X1_init_45b (a0 := a0) (x4 := x4) (x5 := a.1) (M := M) (L := a.2) (R := R) hS hd hcu hsu hn h g) (a := (x5, L)) h g
  exact key
noncomputable def f_X1_init (sh : px_Sh) (M : px_M) (L : px_L) (R : px_R) (n : Nat) (a0 : Nat) (p1 : Int32) (p2 : Int32) : Option (px_Sh × px_M × px_L × px_R × Nat) :=
  ok (hk sh a0 1) <|
  nm (px_u M a0 1 (-1)) fun M_6 =>
  nm (px_c sh n (some (14, 20992))) fun sh_13 =>
  nm (px_c M_6 n (fun _ => 0)) fun M_13 =>
  nm (px_c L n (fun _ => 0)) fun L_13 =>
  nm (px_c R n (fun _ => none)) fun R_13 =>
  ok (hk sh_13 a0 1) <|
  ok (decide (220 ≤ a0)) <|
  nm (px_u R_13 a0 3 (some n)) fun R_15 =>
  ok (hk sh_13 a0 1) <|
  nm (px_u M_13 a0 0 p2) fun M_20 =>
  bd1 (f_J9_max_7cf53 0 (p1 - 4)) fun e_27 =>
  bd1 (f_J9_min_7cf53 255 (p1 + 4)) fun e_37 =>
  bd1 (lpf (fun a : Int32 × px_L => f_X1_init_45 sh_13 M_20 a.2 R_15 (n + 1) a0 e_37 a.1) (e_27, L_13)) fun e_45 =>
  some (sh_13, M_20, e_45, R_15, (n + 1))
theorem s_X1_init {d : Nat} {X : Nat × (Nat → Int32)} {sh : px_Sh} {M : px_M} {L : px_L} {R : px_R} {n : Nat} {a0 : Nat} {p1 : Int32} {p2 : Int32} {e : px_Sh × px_M × px_L × px_R × Nat} (hS : SR sh R) (hd : 1 ≤ d) (hn : 220 ≤ n) (h : f_X1_init sh M L R n a0 p1 p2 = some e) : MX yX1_init cX1_init 6 none d 1 20992 X [.ref a0, .int p1, .int p2] sh M L R n (px_pa none e.1 e.2.1 e.2.2.1 e.2.2.2.1 e.2.2.2.2) := by
  refine MX.of (by decide +kernel) (by exact Nat.le_of_ble_eq_true rfl) ?_
  have hcu : 0 ≤ 1 := Nat.zero_le _
  have hsu : 0 ≤ 20992 := Nat.zero_le _
  have g : SR e.1 e.2.2.2.1 → 220 ≤ e.2.2.2.2 → px_pa none e.1 e.2.1 e.2.2.1 e.2.2.2.1 e.2.2.2.2 none e.1 e.2.1 e.2.2.1 e.2.2.2.1 e.2.2.2.2 := fun q q2 => ⟨⟨rfl, rfl, rfl, rfl, rfl, rfl⟩, q, q2⟩
  unfold f_X1_init at h
  refine wx_aload_n dX1_init_0 rfl ?_
  refine wx_objInit dX1_init_1 oi_X1_7 (by omega) (by exact Nat.le_of_ble_eq_true rfl) ?_
  refine wx_aload_n dX1_init_4 rfl ?_
  refine wx_iconst (v := (-1)) dX1_init_5 (by decide) ?_
  obtain ⟨ws_6, h⟩ := ok_some h
  obtain ⟨ln_6, wt_6⟩ := hk_some ws_6
  refine wx_putI dX1_init_6 fl_X1_13 wt_6 (Or.inl rfl) rfl ⟨rfl, rfl⟩ ?_
  refine wx_namM (fun M_6 q_6 => ?_)
  replace h := nm_at h q_6
  refine wx_aload_n dX1_init_9 rfl ?_
  refine wx_sipush (v := 20992) dX1_init_10 (by decide) ?_
  refine wx_newarr (kd := 14) (N := 20992) dX1_init_13 (by decide) rfl ac_14 (by decide) (by decide) (by decide) (show 0 + 1 ≤ 1 by omega) (show 0 + 20992 ≤ 20992 by omega) ?_
  refine wx_namS (fun sh_13 qsh_13 => ?_)
  replace h := nm_at h qsh_13
  refine wx_namM (fun M_13 qM_13 => ?_)
  replace h := nm_at h qM_13
  refine wx_namL (fun L_13 qL_13 => ?_)
  replace h := nm_at h qL_13
  refine wx_namR (fun R_13 qR_13 => ?_)
  replace h := nm_at h qR_13
  replace hS : SR sh_13 R_13 := by rw [qsh_13, qR_13]; exact SR.new hS hn
  replace hn : 220 ≤ n + 1 := Nat.le_succ_of_le hn
  obtain ⟨ws_15, h⟩ := ok_some h
  obtain ⟨ln_15, wt_15⟩ := hk_some ws_15
  obtain ⟨hk_15, h⟩ := ok_some h
  refine wx_putR dX1_init_15 fl_X1_17 wt_15 (Or.inr ⟨rfl, rfl, rfl, px_mem 1140 (by decide +kernel) rfl⟩) rfl (fun _ => ⟨rfl, rfl⟩) ?_
  refine wx_namR (fun R_15 q_15 => ?_)
  replace h := nm_at h q_15
  replace hS : SR sh_13 R_15 := by rw [q_15]; exact SR.put hS (rlay_dyn hk_15)
  refine wx_aload_n dX1_init_18 rfl ?_
  refine wx_iload_n dX1_init_19 rfl ?_
  obtain ⟨ws_20, h⟩ := ok_some h
  obtain ⟨ln_20, wt_20⟩ := hk_some ws_20
  refine wx_putI dX1_init_20 fl_X1_21 wt_20 (Or.inr ⟨rfl, rfl, rfl, px_mem 1137 (by decide +kernel) rfl⟩) rfl ⟨rfl, rfl⟩ ?_
  refine wx_namM (fun M_20 q_20 => ?_)
  replace h := nm_at h q_20
  refine wx_iconst (v := 0) dX1_init_23 (by decide) ?_
  refine wx_iload_n dX1_init_24 rfl ?_
  refine wx_iconst (v := 4) dX1_init_25 (by decide) ?_
  refine wx_isub dX1_init_26 ?_
  obtain ⟨e_27, k_27, h⟩ := bd1_some h
  refine wx_cSi dX1_init_27 ml_X1_24 my_J9_max_7cf53 sv_J9_max_7cf53 (s_J9_max_7cf53 (d := d - 1) hS (by omega) k_27) rfl (by omega) (by exact Nat.le_of_ble_eq_true rfl) (show 0 + 1 ≤ 1 by omega) (show 0 + 20992 ≤ 20992 by omega) ?_
  refine wx_istore_n (lv' := [(3, _), (0, _), (1, _), (2, _)]) dX1_init_30 (by decide) rfl ?_
  refine wx_sipush (v := 255) dX1_init_31 (by decide) ?_
  refine wx_iload_n dX1_init_34 rfl ?_
  refine wx_iconst (v := 4) dX1_init_35 (by decide) ?_
  refine wx_iadd dX1_init_36 ?_
  obtain ⟨e_37, k_37, h⟩ := bd1_some h
  refine wx_cSi dX1_init_37 ml_X1_30 my_J9_min_7cf53 sv_J9_min_7cf53 (s_J9_min_7cf53 (d := d - 1) hS (by omega) k_37) rfl (by omega) (by exact Nat.le_of_ble_eq_true rfl) (show 0 + 1 ≤ 1 by omega) (show 0 + 20992 ≤ 20992 by omega) ?_
  refine wx_istore (lv' := [(4, _), (3, _), (0, _), (1, _), (2, _)]) dX1_init_40 (by decide) rfl ?_
  refine wx_iload_n dX1_init_42 rfl ?_
  refine wx_istore (lv' := [(5, _), (4, _), (3, _), (0, _), (1, _), (2, _)]) dX1_init_43 (by decide) rfl ?_
  obtain ⟨e_45, k_45, h⟩ := bd1_some h
  refine wx_sub (s_X1_init_45 hS hd (show 0 + 1 ≤ 1 by omega) (show 0 + 20992 ≤ 20992 by omega) hn k_45 ?_) (px_s rfl (px_s rfl (px_s rfl px_0)))
  refine wx_vret dX1_init_84 (show 0 + 1 ≤ 1 by omega) (show 0 + 20992 ≤ 20992 by omega) ?_
  obtain rfl := Option.some.inj h
  exact g hS hn
noncomputable def f_X8_addPanel (sh : px_Sh) (M : px_M) (L : px_L) (R : px_R) (n : Nat) (p1 : Int32) (p2 : Int32) (p3 : Int32) (p4 : Int32) (p5 : Int32) : Option (Int32 × px_Sh × px_M × px_L × px_R × Nat) :=
  if (M 6 1) = 16 then
    some ((-1), sh, M, L, R, n)
  else
    nm (px_c sh n (some (5, 0))) fun sh_19 =>
    nm (px_c M n (fun _ => 0)) fun M_19 =>
    nm (px_c L n (fun _ => 0)) fun L_19 =>
    nm (px_c R n (fun _ => none)) fun R_19 =>
    bd1 (f_X5_init sh_19 M_19 n p1 p2 p3 p4 p5) fun e_30 =>
    ok (ix (M 6 1) 16) <|
    ok (hk sh_19 n 5) <|
    nm (px_u R_19 7 (M 6 1).toNatClampNeg (some n)) fun R_33 =>
    nm (e_30 6 1) fun v_39 =>
    nm (v_39 + 1) fun v_42 =>
    nm (px_u e_30 6 1 v_42) fun M_42 =>
    some (v_39, sh_19, M_42, L_19, R_33, (n + 1))
theorem s_X8_addPanel {d : Nat} {X : Nat × (Nat → Int32)} {sh : px_Sh} {M : px_M} {L : px_L} {R : px_R} {n : Nat} {p1 : Int32} {p2 : Int32} {p3 : Int32} {p4 : Int32} {p5 : Int32} {e : Int32 × px_Sh × px_M × px_L × px_R × Nat} (hS : SR sh R) (hd : 2 ≤ d) (hn : 220 ≤ n) (h : f_X8_addPanel sh M L R n p1 p2 p3 p4 p5 = some e) : MX yX8_addPanel cX8_addPanel 6 (some .int) d 1 11 X [.ref 6, .int p1, .int p2, .int p3, .int p4, .int p5] sh M L R n (px_pa (some (.int e.1)) e.2.1 e.2.2.1 e.2.2.2.1 e.2.2.2.2.1 e.2.2.2.2.2) := by
  refine MX.of (by decide +kernel) (by exact Nat.le_of_ble_eq_true rfl) ?_
  have hcu : 0 ≤ 1 := Nat.zero_le _
  have hsu : 0 ≤ 11 := Nat.zero_le _
  have g : SR e.2.1 e.2.2.2.2.1 → 220 ≤ e.2.2.2.2.2 → px_pa (some (.int e.1)) e.2.1 e.2.2.1 e.2.2.2.1 e.2.2.2.2.1 e.2.2.2.2.2 (some (.int e.1)) e.2.1 e.2.2.1 e.2.2.2.1 e.2.2.2.2.1 e.2.2.2.2.2 := fun q q2 => ⟨⟨rfl, rfl, rfl, rfl, rfl, rfl⟩, q, q2⟩
  unfold f_X8_addPanel at h
  refine wx_aload_n dX8_addPanel_0 rfl ?_
  refine wx_getI dX8_addPanel_1 fl_X8_36 (sc_6 hS) rfl ?_
  refine wx_bipush (v := 16) dX8_addPanel_4 (by decide) ?_
  refine wx_icmp_ne (tgt := 11) dX8_addPanel_6 (by decide) (fun c_6 => ?_) (fun c_6 => ?_)
  · replace h := it_f h c_6
    refine wx_aload_n dX8_addPanel_11 rfl ?_
    refine wx_getR dX8_addPanel_12 fl_X8_13 (sc_6 hS) rfl (rr_6_0 hS) ?_
    refine wx_aload_n dX8_addPanel_15 rfl ?_
    refine wx_getI dX8_addPanel_16 fl_X8_36 (sc_6 hS) rfl ?_
    refine wx_new (kd := 5) dX8_addPanel_19 (by decide) cl_X8_11 (show 0 + 1 ≤ 1 by omega) (show 0 + 11 ≤ 11 by omega) ?_
    refine wx_namS (fun sh_19 qsh_19 => ?_)
    replace h := nm_at h qsh_19
    refine wx_namM (fun M_19 qM_19 => ?_)
    replace h := nm_at h qM_19
    refine wx_namL (fun L_19 qL_19 => ?_)
    replace h := nm_at h qL_19
    refine wx_namR (fun R_19 qR_19 => ?_)
    replace h := nm_at h qR_19
    replace hS : SR sh_19 R_19 := by rw [qsh_19, qR_19]; exact SR.new hS hn
    replace hn : 220 ≤ n + 1 := Nat.le_succ_of_le hn
    refine wx_dup dX8_addPanel_22 rfl ?_
    refine wx_iload_n dX8_addPanel_23 rfl ?_
    refine wx_iload_n dX8_addPanel_24 rfl ?_
    refine wx_iload_n dX8_addPanel_25 rfl ?_
    refine wx_iload dX8_addPanel_26 rfl ?_
    refine wx_iload dX8_addPanel_28 rfl ?_
    obtain ⟨e_30, k_30, h⟩ := bd1_some h
    refine wx_cIv dX8_addPanel_30 ml_X8_40 my_X5_init iv_X5_init (s_X5_init (d := d - 1) hS (by omega) k_30) rfl (by omega) (by exact Nat.le_of_ble_eq_true rfl) (show 0 + 1 ≤ 1 by omega) (show 0 + 11 ≤ 11 by omega) ?_
    obtain ⟨w_33, h⟩ := ok_some h
    obtain ⟨ws_33v, h⟩ := ok_some h
    obtain ⟨ln_33v, wt_33v⟩ := hk_some ws_33v
    refine wx_aast dX8_addPanel_33 (sc_7 hS) (by decide) (by decide) wt_33v (Or.inl ⟨by decide, rfl⟩) (ix_in w_33) ?_
    refine wx_namR (fun R_33 q_33 => ?_)
    replace h := nm_at h q_33
    replace hS : SR sh_19 R_33 := by rw [q_33]; exact SR.put hS (rlay_7 _)
    refine wx_aload_n dX8_addPanel_34 rfl ?_
    refine wx_dup dX8_addPanel_35 rfl ?_
    refine wx_getI dX8_addPanel_36 fl_X8_36 (sc_6 hS) rfl ?_
    refine wx_nami (fun v_39 q_39 => ?_)
    replace h := nm_at h q_39
    refine wx_dup_x1 dX8_addPanel_39 rfl rfl ?_
    refine wx_iconst (v := 1) dX8_addPanel_40 (by decide) ?_
    refine wx_iadd dX8_addPanel_41 ?_
    refine wx_nami (fun v_42 q_42 => ?_)
    replace h := nm_at h q_42
    refine wx_putI dX8_addPanel_42 fl_X8_36 (sc_6 hS) (Or.inl rfl) rfl ⟨rfl, rfl⟩ ?_
    refine wx_namM (fun M_42 q_42 => ?_)
    replace h := nm_at h q_42
    refine wx_iret dX8_addPanel_45 (show 0 + 1 ≤ 1 by omega) (show 0 + 11 ≤ 11 by omega) ?_
    obtain rfl := Option.some.inj h
    exact g hS hn
  · replace h := it_t h c_6
    refine wx_iconst (v := (-1)) dX8_addPanel_9 (by decide) ?_
    refine wx_iret dX8_addPanel_10 (show 0 + 0 ≤ 1 by omega) (show 0 + 0 ≤ 11 by omega) ?_
    obtain rfl := Option.some.inj h
    exact g hS hn
noncomputable def f_X9_addWorld (sh : px_Sh) (M : px_M) (L : px_L) (R : px_R) (n : Nat) (p1 : Int32) (p2 : Int32) (p3 : Int32) : Option (Int32 × px_Sh × px_M × px_L × px_R × Nat) :=
  if (M 14 5) = 4 then
    some ((-1), sh, M, L, R, n)
  else
    nm (px_c sh n (some (10, 0))) fun sh_18 =>
    nm (px_c M n (fun _ => 0)) fun M_18 =>
    nm (px_c L n (fun _ => 0)) fun L_18 =>
    nm (px_c R n (fun _ => none)) fun R_18 =>
    bd1 (f_X10_init sh_18 M_18 n p1 p2 p3) fun e_25 =>
    ok (ix (M 14 5) 4) <|
    ok (hk sh_18 n 10) <|
    nm (px_u R_18 15 (M 14 5).toNatClampNeg (some n)) fun R_28 =>
    nm (e_25 14 5) fun v_34 =>
    nm (v_34 + 1) fun v_37 =>
    nm (px_u e_25 14 5 v_37) fun M_37 =>
    some (v_34, sh_18, M_37, L_18, R_28, (n + 1))
theorem s_X9_addWorld {d : Nat} {X : Nat × (Nat → Int32)} {sh : px_Sh} {M : px_M} {L : px_L} {R : px_R} {n : Nat} {p1 : Int32} {p2 : Int32} {p3 : Int32} {e : Int32 × px_Sh × px_M × px_L × px_R × Nat} (hS : SR sh R) (hd : 2 ≤ d) (hn : 220 ≤ n) (h : f_X9_addWorld sh M L R n p1 p2 p3 = some e) : MX yX9_addWorld cX9_addWorld 4 (some .int) d 1 4 X [.ref 14, .int p1, .int p2, .int p3] sh M L R n (px_pa (some (.int e.1)) e.2.1 e.2.2.1 e.2.2.2.1 e.2.2.2.2.1 e.2.2.2.2.2) := by
  refine MX.of (by decide +kernel) (by exact Nat.le_of_ble_eq_true rfl) ?_
  have hcu : 0 ≤ 1 := Nat.zero_le _
  have hsu : 0 ≤ 4 := Nat.zero_le _
  have g : SR e.2.1 e.2.2.2.2.1 → 220 ≤ e.2.2.2.2.2 → px_pa (some (.int e.1)) e.2.1 e.2.2.1 e.2.2.2.1 e.2.2.2.2.1 e.2.2.2.2.2 (some (.int e.1)) e.2.1 e.2.2.1 e.2.2.2.1 e.2.2.2.2.1 e.2.2.2.2.2 := fun q q2 => ⟨⟨rfl, rfl, rfl, rfl, rfl, rfl⟩, q, q2⟩
  unfold f_X9_addWorld at h
  refine wx_aload_n dX9_addWorld_0 rfl ?_
  refine wx_getI dX9_addWorld_1 fl_X9_37 (sc_14 hS) rfl ?_
  refine wx_iconst (v := 4) dX9_addWorld_4 (by decide) ?_
  refine wx_icmp_ne (tgt := 10) dX9_addWorld_5 (by decide) (fun c_5 => ?_) (fun c_5 => ?_)
  · replace h := it_f h c_5
    refine wx_aload_n dX9_addWorld_10 rfl ?_
    refine wx_getR dX9_addWorld_11 fl_X9_20 (sc_14 hS) rfl (rr_14_4 hS) ?_
    refine wx_aload_n dX9_addWorld_14 rfl ?_
    refine wx_getI dX9_addWorld_15 fl_X9_37 (sc_14 hS) rfl ?_
    refine wx_new (kd := 10) dX9_addWorld_18 (by decide) cl_X9_18 (show 0 + 1 ≤ 1 by omega) (show 0 + 4 ≤ 4 by omega) ?_
    refine wx_namS (fun sh_18 qsh_18 => ?_)
    replace h := nm_at h qsh_18
    refine wx_namM (fun M_18 qM_18 => ?_)
    replace h := nm_at h qM_18
    refine wx_namL (fun L_18 qL_18 => ?_)
    replace h := nm_at h qL_18
    refine wx_namR (fun R_18 qR_18 => ?_)
    replace h := nm_at h qR_18
    replace hS : SR sh_18 R_18 := by rw [qsh_18, qR_18]; exact SR.new hS hn
    replace hn : 220 ≤ n + 1 := Nat.le_succ_of_le hn
    refine wx_dup dX9_addWorld_21 rfl ?_
    refine wx_iload_n dX9_addWorld_22 rfl ?_
    refine wx_iload_n dX9_addWorld_23 rfl ?_
    refine wx_iload_n dX9_addWorld_24 rfl ?_
    obtain ⟨e_25, k_25, h⟩ := bd1_some h
    refine wx_cIv dX9_addWorld_25 ml_X9_40 my_X10_init iv_X10_init (s_X10_init (d := d - 1) hS (by omega) k_25) rfl (by omega) (by exact Nat.le_of_ble_eq_true rfl) (show 0 + 1 ≤ 1 by omega) (show 0 + 4 ≤ 4 by omega) ?_
    obtain ⟨w_28, h⟩ := ok_some h
    obtain ⟨ws_28v, h⟩ := ok_some h
    obtain ⟨ln_28v, wt_28v⟩ := hk_some ws_28v
    refine wx_aast dX9_addWorld_28 (sc_15 hS) (by decide) (by decide) wt_28v (Or.inl ⟨by decide, rfl⟩) (ix_in w_28) ?_
    refine wx_namR (fun R_28 q_28 => ?_)
    replace h := nm_at h q_28
    replace hS : SR sh_18 R_28 := by rw [q_28]; exact SR.put hS (rlay_15 _)
    refine wx_aload_n dX9_addWorld_29 rfl ?_
    refine wx_dup dX9_addWorld_30 rfl ?_
    refine wx_getI dX9_addWorld_31 fl_X9_37 (sc_14 hS) rfl ?_
    refine wx_nami (fun v_34 q_34 => ?_)
    replace h := nm_at h q_34
    refine wx_dup_x1 dX9_addWorld_34 rfl rfl ?_
    refine wx_iconst (v := 1) dX9_addWorld_35 (by decide) ?_
    refine wx_iadd dX9_addWorld_36 ?_
    refine wx_nami (fun v_37 q_37 => ?_)
    replace h := nm_at h q_37
    refine wx_putI dX9_addWorld_37 fl_X9_37 (sc_14 hS) (Or.inl rfl) rfl ⟨rfl, rfl⟩ ?_
    refine wx_namM (fun M_37 q_37 => ?_)
    replace h := nm_at h q_37
    refine wx_iret dX9_addWorld_40 (show 0 + 1 ≤ 1 by omega) (show 0 + 4 ≤ 4 by omega) ?_
    obtain rfl := Option.some.inj h
    exact g hS hn
  · replace h := it_t h c_5
    refine wx_iconst (v := (-1)) dX9_addWorld_8 (by decide) ?_
    refine wx_iret dX9_addWorld_9 (show 0 + 0 ≤ 1 by omega) (show 0 + 0 ≤ 4 by omega) ?_
    obtain rfl := Option.some.inj h
    exact g hS hn
noncomputable def f_X12_safe_88 (sh : px_Sh) (M : px_M) (L : px_L) (R : px_R) (n : Nat) (x1 : Int32) (x2 : Int32) (x3 : Int32) (a4 : Nat) (x6 : Int32) : Option ((Int32 × px_M) ⊕ (Int32 × px_M)) :=
  if (M 73 1) ≤ (x6 + 1) then
    some (.inr (x6, M))
  else
    bd1 (f_X12_leads M x6) fun e_102 =>
    if e_102.1 = 0 then
      some (.inl ((x6 + 1), e_102.2))
    else
      some (.inr (x6, e_102.2))
theorem s_X12_safe_88b {x1 : Int32} {x2 : Int32} {x3 : Int32} {a4 : Nat} {x6 : Int32} {M : px_M} {L : px_L} {R : px_R} {e : ((Int32 × px_M) ⊕ (Int32 × px_M))} (hS : SR sh R) (hd : 13 ≤ d) (hcu : cu ≤ mc) (hsu : su ≤ ms) (hn : 220 ≤ n) (h : f_X12_safe_88 sh M L R n x1 x2 x3 a4 x6 = some e) (g : (sE (fun a => WX RX12 cX12_safe 7 (some .int) ("safe", []) d mc ms X (px_QF Post mc ms) 88 [(0, .ref 73), (1, .int x1), (2, .int x2), (3, .int x3), (4, .ref a4), (6, .int a.1)] [] sh (a.2) L R n cu su) (fun t => WX RX12 cX12_safe 7 (some .int) ("safe", []) d mc ms X (px_QF Post mc ms) 114 [(0, .ref 73), (1, .int x1), (2, .int x2), (3, .int x3), (4, .ref a4), (6, .int t.1)] [] sh (t.2) L R n cu su)) e) : WX RX12 cX12_safe 7 (some .int) ("safe", []) d mc ms X (px_QF Post mc ms) 88 [(0, .ref 73), (1, .int x1), (2, .int x2), (3, .int x3), (4, .ref a4), (6, .int x6)] [] sh M L R n cu su := by
  unfold f_X12_safe_88 at h
  refine wx_iload dX12_safe_88 rfl ?_
  refine wx_iconst (v := 1) dX12_safe_90 (by decide) ?_
  refine wx_iadd dX12_safe_91 ?_
  refine wx_aload_n dX12_safe_92 rfl ?_
  refine wx_getI dX12_safe_93 fl_X12_182 (sc_73 hS) rfl ?_
  refine wx_icmp_ge (tgt := 114) dX12_safe_96 (by decide) (fun c_96 => ?_) (fun c_96 => ?_)
  · replace h := it_t h c_96
    obtain rfl := Option.some.inj h
    replace g := sE_r g
    exact wx_sub g (px_s rfl (px_s rfl (px_s rfl (px_s rfl (px_s rfl (px_s rfl px_0))))))
  · replace h := it_f h c_96
    refine wx_aload_n dX12_safe_99 rfl ?_
    refine wx_iload dX12_safe_100 rfl ?_
    obtain ⟨e_102, k_102, h⟩ := bd1_some h
    refine wx_cVi dX12_safe_102 ml_X12_219 my_X12_leads iv_X12_leads (sc_73 hS) (by decide) (s_X12_leads (d := d - 1) hS (by omega) k_102) rfl (by omega) (by exact Nat.le_of_ble_eq_true rfl) (show cu + 0 ≤ mc by omega) (show su + 0 ≤ ms by omega) ?_
    refine wx_if_ne (tgt := 114) dX12_safe_105 (by decide) (fun c_105 => ?_) (fun c_105 => ?_)
    · replace h := it_f h c_105
      obtain rfl := Option.some.inj h
      replace g := sE_r g
      exact wx_sub g (px_s rfl (px_s rfl (px_s rfl (px_s rfl (px_s rfl (px_s rfl px_0))))))
    · replace h := it_t h c_105
      refine wx_iinc (lv' := [(6, _), (0, _), (1, _), (2, _), (3, _), (4, _)]) dX12_safe_108 rfl (i_1 _) (by decide) rfl ?_
      refine wx_goto (tgt := 88) dX12_safe_111 (by decide) ?_
      obtain rfl := Option.some.inj h
      replace g := sE_l g
      exact wx_sub g (px_s rfl (px_s rfl (px_s rfl (px_s rfl (px_s rfl (px_s rfl px_0))))))
theorem s_X12_safe_88 {x1 : Int32} {x2 : Int32} {x3 : Int32} {a4 : Nat} {x6 : Int32} {M : px_M} {L : px_L} {R : px_R} {e : (Int32 × px_M)} (hS : SR sh R) (hd : 13 ≤ d) (hcu : cu ≤ mc) (hsu : su ≤ ms) (hn : 220 ≤ n) (h : lpf (fun a : Int32 × px_M => f_X12_safe_88 sh a.2 L R n x1 x2 x3 a4 a.1) (x6, M) = some e) (g : WX RX12 cX12_safe 7 (some .int) ("safe", []) d mc ms X (px_QF Post mc ms) 114 [(0, .ref 73), (1, .int x1), (2, .int x2), (3, .int x3), (4, .ref a4), (6, .int e.1)] [] sh (e.2) L R n cu su) : WX RX12 cX12_safe 7 (some .int) ("safe", []) d mc ms X (px_QF Post mc ms) 88 [(0, .ref 73), (1, .int x1), (2, .int x2), (3, .int x3), (4, .ref a4), (6, .int x6)] [] sh M L R n cu su := by
  have key := lpf_wp (P := (fun a => WX RX12 cX12_safe 7 (some .int) ("safe", []) d mc ms X (px_QF Post mc ms) 88 [(0, .ref 73), (1, .int x1), (2, .int x2), (3, .int x3), (4, .ref a4), (6, .int a.1)] [] sh (a.2) L R n cu su)) (G := (fun t => WX RX12 cX12_safe 7 (some .int) ("safe", []) d mc ms X (px_QF Post mc ms) 114 [(0, .ref 73), (1, .int x1), (2, .int x2), (3, .int x3), (4, .ref a4), (6, .int t.1)] [] sh (t.2) L R n cu su)) (fun a r h g => s_X12_safe_88b (x1 := x1) (x2 := x2) (x3 := x3) (a4 := a4) (x6 := a.1) (M := a.2) (L := L) (R := R) hS hd hcu hsu hn h g) (a := (x6, M)) h g
  exact key
noncomputable def f_X12_safe_166 (sh : px_Sh) (M : px_M) (L : px_L) (R : px_R) (n : Nat) (x3 : Int32) (a4 : Nat) (x6 : Int32) : Option ((Int32 × px_M) ⊕ (px_M)) :=
  if 8 ≤ x6 then
    some (.inr M)
  else
    ok (xk sh a4 15 x6) <|
    nm (M a4 x6.toNatClampNeg) fun v_184 =>
    ok (ix x6 8) <|
    ok (zb v_184) <|
    nm (px_u M 78 x6.toNatClampNeg v_184) fun M_184 =>
    some (.inl ((x6 + 1), M_184))
theorem s_X12_safe_166b {x3 : Int32} {a4 : Nat} {x6 : Int32} {M : px_M} {L : px_L} {R : px_R} {e : ((Int32 × px_M) ⊕ (px_M))} (hS : SR sh R) (hd : 13 ≤ d) (hcu : cu ≤ mc) (hsu : su ≤ ms) (hn : 220 ≤ n) (h : f_X12_safe_166 sh M L R n x3 a4 x6 = some e) (g : (sE (fun a => WX RX12 cX12_safe 7 (some .int) ("safe", []) d mc ms X (px_QF Post mc ms) 166 [(0, .ref 73), (3, .int x3), (4, .ref a4), (6, .int a.1)] [] sh (a.2) L R n cu su) (fun t => WX RX12 cX12_safe 7 (some .int) ("safe", []) d mc ms X (px_QF Post mc ms) 191 [(3, .int x3)] [] sh t L R n cu su)) e) : WX RX12 cX12_safe 7 (some .int) ("safe", []) d mc ms X (px_QF Post mc ms) 166 [(0, .ref 73), (3, .int x3), (4, .ref a4), (6, .int x6)] [] sh M L R n cu su := by
  unfold f_X12_safe_166 at h
  refine wx_iload dX12_safe_166 rfl ?_
  refine wx_bipush (v := 8) dX12_safe_168 (by decide) ?_
  refine wx_icmp_ge (tgt := 191) dX12_safe_170 (by decide) (fun c_170 => ?_) (fun c_170 => ?_)
  · replace h := it_t h c_170
    obtain rfl := Option.some.inj h
    replace g := sE_r g
    exact wx_sub g (px_s rfl px_0)
  · replace h := it_f h c_170
    refine wx_aload_n dX12_safe_173 rfl ?_
    refine wx_getR dX12_safe_174 fl_X12_22 (sc_73 hS) rfl (rr_73_8 hS) ?_
    refine wx_iload dX12_safe_177 rfl ?_
    refine wx_aload dX12_safe_179 rfl ?_
    refine wx_iload dX12_safe_181 rfl ?_
    obtain ⟨w_183, h⟩ := ok_some h
    obtain ⟨ln_183, wt_183, wi_183⟩ := xk_some w_183
    refine wx_bald dX12_safe_183 wt_183 wi_183 ?_
    refine wx_nami (fun v_184 q_184 => ?_)
    replace h := nm_at h q_184
    obtain ⟨w_184, h⟩ := ok_some h
    obtain ⟨wz_184, h⟩ := ok_some h
    refine wx_bast dX12_safe_184 (sc_78 hS) (ix_in w_184) (zb_n wz_184) ?_
    refine wx_namM (fun M_184 q_184 => ?_)
    replace h := nm_at h q_184
    refine wx_iinc (lv' := [(6, _), (0, _), (3, _), (4, _)]) dX12_safe_185 rfl (i_1 _) (by decide) rfl ?_
    refine wx_goto (tgt := 166) dX12_safe_188 (by decide) ?_
    obtain rfl := Option.some.inj h
    replace g := sE_l g
    exact wx_sub g (px_s rfl (px_s rfl (px_s rfl (px_s rfl px_0))))
theorem s_X12_safe_166 {x3 : Int32} {a4 : Nat} {x6 : Int32} {M : px_M} {L : px_L} {R : px_R} {e : (px_M)} (hS : SR sh R) (hd : 13 ≤ d) (hcu : cu ≤ mc) (hsu : su ≤ ms) (hn : 220 ≤ n) (h : lpf (fun a : Int32 × px_M => f_X12_safe_166 sh a.2 L R n x3 a4 a.1) (x6, M) = some e) (g : WX RX12 cX12_safe 7 (some .int) ("safe", []) d mc ms X (px_QF Post mc ms) 191 [(3, .int x3)] [] sh e L R n cu su) : WX RX12 cX12_safe 7 (some .int) ("safe", []) d mc ms X (px_QF Post mc ms) 166 [(0, .ref 73), (3, .int x3), (4, .ref a4), (6, .int x6)] [] sh M L R n cu su := by
  have key := lpf_wp (P := (fun a => WX RX12 cX12_safe 7 (some .int) ("safe", []) d mc ms X (px_QF Post mc ms) 166 [(0, .ref 73), (3, .int x3), (4, .ref a4), (6, .int a.1)] [] sh (a.2) L R n cu su)) (G := (fun t => WX RX12 cX12_safe 7 (some .int) ("safe", []) d mc ms X (px_QF Post mc ms) 191 [(3, .int x3)] [] sh t L R n cu su)) (fun a r h g => s_X12_safe_166b (x3 := x3) (a4 := a4) (x6 := a.1) (M := a.2) (L := L) (R := R) hS hd hcu hsu hn h g) (a := (x6, M)) h g
  exact key
noncomputable def f_X12_safe_160 (sh : px_Sh) (M : px_M) (L : px_L) (R : px_R) (n : Nat) (x1 : Int32) (x2 : Int32) (x3 : Int32) (a4 : Nat) (x5 : Int32) : Option ((Int32 × Int32 × Int32 × px_M) ⊕ (Int32 × px_M)) :=
  some (.inl (x2, x3, x5, M))
theorem s_X12_safe_160 {x1 : Int32} {x2 : Int32} {x3 : Int32} {a4 : Nat} {x5 : Int32} {M : px_M} {L : px_L} {R : px_R} {e : ((Int32 × Int32 × Int32 × px_M) ⊕ (Int32 × px_M))} (hS : SR sh R) (hd : 13 ≤ d) (hcu : cu ≤ mc) (hsu : su ≤ ms) (hn : 220 ≤ n) (h : f_X12_safe_160 sh M L R n x1 x2 x3 a4 x5 = some e) (g : (sE (fun a => WX RX12 cX12_safe 7 (some .int) ("safe", []) d mc ms X (px_QF Post mc ms) 80 [(0, .ref 73), (1, .int x1), (2, .int a.1), (3, .int a.2.1), (4, .ref a4), (5, .int a.2.2.1)] [] sh (a.2.2.2) L R n cu su) (fun t => WX RX12 cX12_safe 7 (some .int) ("safe", []) d mc ms X (px_QF Post mc ms) 163 [(0, .ref 73), (3, .int t.1), (4, .ref a4)] [] sh (t.2) L R n cu su)) e) : WX RX12 cX12_safe 7 (some .int) ("safe", []) d mc ms X (px_QF Post mc ms) 160 [(0, .ref 73), (1, .int x1), (2, .int x2), (3, .int x3), (4, .ref a4), (5, .int x5)] [] sh M L R n cu su := by
  unfold f_X12_safe_160 at h
  refine wx_goto (tgt := 80) dX12_safe_160 (by decide) ?_
  obtain rfl := Option.some.inj h
  replace g := sE_l g
  exact wx_sub g (px_s rfl (px_s rfl (px_s rfl (px_s rfl (px_s rfl (px_s rfl px_0))))))
noncomputable def f_X12_safe_156 (sh : px_Sh) (M : px_M) (L : px_L) (R : px_R) (n : Nat) (x1 : Int32) (x2 : Int32) (a4 : Nat) (x5 : Int32) (z0 : Int32) : Option ((Int32 × Int32 × Int32 × px_M) ⊕ (Int32 × px_M)) :=
  f_X12_safe_160 sh M L R n x1 (x2 + 1) z0 a4 x5
theorem s_X12_safe_156 {x1 : Int32} {x2 : Int32} {a4 : Nat} {x5 : Int32} {z0 : Int32} {M : px_M} {L : px_L} {R : px_R} {e : ((Int32 × Int32 × Int32 × px_M) ⊕ (Int32 × px_M))} (hS : SR sh R) (hd : 13 ≤ d) (hcu : cu ≤ mc) (hsu : su ≤ ms) (hn : 220 ≤ n) (h : f_X12_safe_156 sh M L R n x1 x2 a4 x5 z0 = some e) (g : (sE (fun a => WX RX12 cX12_safe 7 (some .int) ("safe", []) d mc ms X (px_QF Post mc ms) 80 [(0, .ref 73), (1, .int x1), (2, .int a.1), (3, .int a.2.1), (4, .ref a4), (5, .int a.2.2.1)] [] sh (a.2.2.2) L R n cu su) (fun t => WX RX12 cX12_safe 7 (some .int) ("safe", []) d mc ms X (px_QF Post mc ms) 163 [(0, .ref 73), (3, .int t.1), (4, .ref a4)] [] sh (t.2) L R n cu su)) e) : WX RX12 cX12_safe 7 (some .int) ("safe", []) d mc ms X (px_QF Post mc ms) 156 [(0, .ref 73), (1, .int x1), (2, .int x2), (4, .ref a4), (5, .int x5)] [.int z0] sh M L R n cu su := by
  unfold f_X12_safe_156 at h
  refine wx_istore_n (lv' := [(3, _), (0, _), (1, _), (2, _), (4, _), (5, _)]) dX12_safe_156 (by decide) rfl ?_
  refine wx_iinc (lv' := [(2, _), (3, _), (0, _), (1, _), (4, _), (5, _)]) dX12_safe_157 rfl (i_1 _) (by decide) rfl ?_
  exact wx_sub (s_X12_safe_160 hS hd (show cu + 0 ≤ mc by omega) (show su + 0 ≤ ms by omega) hn h g) (px_s rfl (px_s rfl (px_s rfl (px_s rfl (px_s rfl (px_s rfl px_0))))))
noncomputable def f_X12_safe_130 (sh : px_Sh) (M : px_M) (L : px_L) (R : px_R) (n : Nat) (x1 : Int32) (x2 : Int32) (x3 : Int32) (a4 : Nat) (x6 : Int32) (z0 : Int32) : Option ((Int32 × Int32 × Int32 × px_M) ⊕ (Int32 × px_M)) :=
  if z0 = 0 then
    f_X12_safe_160 sh M L R n x1 x2 x3 a4 z0
  else
    ok (ix x6 8) <|
    nm (px_u M 78 x6.toNatClampNeg 1) fun M_144 =>
    if x2 = x1 then
      f_X12_safe_156 sh M_144 L R n x1 x2 a4 z0 x6
    else
      f_X12_safe_156 sh M_144 L R n x1 x2 a4 z0 x3
theorem s_X12_safe_130 {x1 : Int32} {x2 : Int32} {x3 : Int32} {a4 : Nat} {x6 : Int32} {z0 : Int32} {M : px_M} {L : px_L} {R : px_R} {e : ((Int32 × Int32 × Int32 × px_M) ⊕ (Int32 × px_M))} (hS : SR sh R) (hd : 13 ≤ d) (hcu : cu ≤ mc) (hsu : su ≤ ms) (hn : 220 ≤ n) (h : f_X12_safe_130 sh M L R n x1 x2 x3 a4 x6 z0 = some e) (g : (sE (fun a => WX RX12 cX12_safe 7 (some .int) ("safe", []) d mc ms X (px_QF Post mc ms) 80 [(0, .ref 73), (1, .int x1), (2, .int a.1), (3, .int a.2.1), (4, .ref a4), (5, .int a.2.2.1)] [] sh (a.2.2.2) L R n cu su) (fun t => WX RX12 cX12_safe 7 (some .int) ("safe", []) d mc ms X (px_QF Post mc ms) 163 [(0, .ref 73), (3, .int t.1), (4, .ref a4)] [] sh (t.2) L R n cu su)) e) : WX RX12 cX12_safe 7 (some .int) ("safe", []) d mc ms X (px_QF Post mc ms) 130 [(0, .ref 73), (1, .int x1), (2, .int x2), (3, .int x3), (4, .ref a4), (6, .int x6)] [.int z0] sh M L R n cu su := by
  unfold f_X12_safe_130 at h
  refine wx_istore (lv' := [(5, _), (0, _), (1, _), (2, _), (3, _), (4, _), (6, _)]) dX12_safe_130 (by decide) rfl ?_
  refine wx_iload dX12_safe_132 rfl ?_
  refine wx_if_eq (tgt := 160) dX12_safe_134 (by decide) (fun c_134 => ?_) (fun c_134 => ?_)
  · replace h := it_t h c_134
    exact wx_sub (s_X12_safe_160 hS hd (show cu + 0 ≤ mc by omega) (show su + 0 ≤ ms by omega) hn h g) (px_s rfl (px_s rfl (px_s rfl (px_s rfl (px_s rfl (px_s rfl px_0))))))
  · replace h := it_f h c_134
    refine wx_aload_n dX12_safe_137 rfl ?_
    refine wx_getR dX12_safe_138 fl_X12_22 (sc_73 hS) rfl (rr_73_8 hS) ?_
    refine wx_iload dX12_safe_141 rfl ?_
    refine wx_iconst (v := 1) dX12_safe_143 (by decide) ?_
    obtain ⟨w_144, h⟩ := ok_some h
    refine wx_bast dX12_safe_144 (sc_78 hS) (ix_in w_144) rfl ?_
    refine wx_namM (fun M_144 q_144 => ?_)
    replace h := nm_at h q_144
    refine wx_iload_n dX12_safe_145 rfl ?_
    refine wx_iload_n dX12_safe_146 rfl ?_
    refine wx_icmp_ne (tgt := 155) dX12_safe_147 (by decide) (fun c_147 => ?_) (fun c_147 => ?_)
    · replace h := it_f h c_147
      refine wx_iload_n dX12_safe_155 rfl ?_
      exact wx_sub (s_X12_safe_156 hS hd (show cu + 0 ≤ mc by omega) (show su + 0 ≤ ms by omega) hn h g) (px_s rfl (px_s rfl (px_s rfl (px_s rfl (px_s rfl px_0)))))
    · replace h := it_t h c_147
      refine wx_iload dX12_safe_150 rfl ?_
      refine wx_goto (tgt := 156) dX12_safe_152 (by decide) ?_
      exact wx_sub (s_X12_safe_156 hS hd (show cu + 0 ≤ mc by omega) (show su + 0 ≤ ms by omega) hn h g) (px_s rfl (px_s rfl (px_s rfl (px_s rfl (px_s rfl px_0)))))
noncomputable def f_X12_safe_80 (sh : px_Sh) (M : px_M) (L : px_L) (R : px_R) (n : Nat) (x1 : Int32) (x2 : Int32) (x3 : Int32) (a4 : Nat) (x5 : Int32) : Option ((Int32 × Int32 × Int32 × px_M) ⊕ (Int32 × px_M)) :=
  if x5 = 0 then
    some (.inr (x3, M))
  else
    bd1 (lpf (fun a : Int32 × px_M => f_X12_safe_88 sh a.2 L R n x1 x2 x3 a4 a.1) (0, M)) fun e_88 =>
    if (e_88.2 73 1) ≤ (e_88.1 + 1) then
      f_X12_safe_130 sh e_88.2 L R n x1 x2 x3 a4 e_88.1 0
    else
      f_X12_safe_130 sh e_88.2 L R n x1 x2 x3 a4 e_88.1 1
theorem s_X12_safe_80b {x1 : Int32} {x2 : Int32} {x3 : Int32} {a4 : Nat} {x5 : Int32} {M : px_M} {L : px_L} {R : px_R} {e : ((Int32 × Int32 × Int32 × px_M) ⊕ (Int32 × px_M))} (hS : SR sh R) (hd : 13 ≤ d) (hcu : cu ≤ mc) (hsu : su ≤ ms) (hn : 220 ≤ n) (h : f_X12_safe_80 sh M L R n x1 x2 x3 a4 x5 = some e) (g : (sE (fun a => WX RX12 cX12_safe 7 (some .int) ("safe", []) d mc ms X (px_QF Post mc ms) 80 [(0, .ref 73), (1, .int x1), (2, .int a.1), (3, .int a.2.1), (4, .ref a4), (5, .int a.2.2.1)] [] sh (a.2.2.2) L R n cu su) (fun t => WX RX12 cX12_safe 7 (some .int) ("safe", []) d mc ms X (px_QF Post mc ms) 163 [(0, .ref 73), (3, .int t.1), (4, .ref a4)] [] sh (t.2) L R n cu su)) e) : WX RX12 cX12_safe 7 (some .int) ("safe", []) d mc ms X (px_QF Post mc ms) 80 [(0, .ref 73), (1, .int x1), (2, .int x2), (3, .int x3), (4, .ref a4), (5, .int x5)] [] sh M L R n cu su := by
  unfold f_X12_safe_80 at h
  refine wx_iload dX12_safe_80 rfl ?_
  refine wx_if_eq (tgt := 163) dX12_safe_82 (by decide) (fun c_82 => ?_) (fun c_82 => ?_)
  · replace h := it_t h c_82
    obtain rfl := Option.some.inj h
    replace g := sE_r g
    exact wx_sub g (px_s rfl (px_s rfl (px_s rfl px_0)))
  · replace h := it_f h c_82
    refine wx_iconst (v := 0) dX12_safe_85 (by decide) ?_
    refine wx_istore (lv' := [(6, _), (0, _), (1, _), (2, _), (3, _), (4, _), (5, _)]) dX12_safe_86 (by decide) rfl ?_
    obtain ⟨e_88, k_88, h⟩ := bd1_some h
    refine wx_sub (s_X12_safe_88 hS hd (show cu + 0 ≤ mc by omega) (show su + 0 ≤ ms by omega) hn k_88 ?_) (px_s rfl (px_s rfl (px_s rfl (px_s rfl (px_s rfl (px_s rfl px_0))))))
    refine wx_iload dX12_safe_114 rfl ?_
    refine wx_iconst (v := 1) dX12_safe_116 (by decide) ?_
    refine wx_iadd dX12_safe_117 ?_
    refine wx_aload_n dX12_safe_118 rfl ?_
    refine wx_getI dX12_safe_119 fl_X12_182 (sc_73 hS) rfl ?_
    refine wx_icmp_ge (tgt := 129) dX12_safe_122 (by decide) (fun c_122 => ?_) (fun c_122 => ?_)
    · replace h := it_t h c_122
      refine wx_iconst (v := 0) dX12_safe_129 (by decide) ?_
      exact wx_sub (s_X12_safe_130 hS hd (show cu + 0 ≤ mc by omega) (show su + 0 ≤ ms by omega) hn h g) (px_s rfl (px_s rfl (px_s rfl (px_s rfl (px_s rfl (px_s rfl px_0))))))
    · replace h := it_f h c_122
      refine wx_iconst (v := 1) dX12_safe_125 (by decide) ?_
      refine wx_goto (tgt := 130) dX12_safe_126 (by decide) ?_
      exact wx_sub (s_X12_safe_130 hS hd (show cu + 0 ≤ mc by omega) (show su + 0 ≤ ms by omega) hn h g) (px_s rfl (px_s rfl (px_s rfl (px_s rfl (px_s rfl (px_s rfl px_0))))))
theorem s_X12_safe_80 {x1 : Int32} {x2 : Int32} {x3 : Int32} {a4 : Nat} {x5 : Int32} {M : px_M} {L : px_L} {R : px_R} {e : (Int32 × px_M)} (hS : SR sh R) (hd : 13 ≤ d) (hcu : cu ≤ mc) (hsu : su ≤ ms) (hn : 220 ≤ n) (h : lpf (fun a : Int32 × Int32 × Int32 × px_M => f_X12_safe_80 sh a.2.2.2 L R n x1 a.1 a.2.1 a4 a.2.2.1) (x2, x3, x5, M) = some e) (g : WX RX12 cX12_safe 7 (some .int) ("safe", []) d mc ms X (px_QF Post mc ms) 163 [(0, .ref 73), (3, .int e.1), (4, .ref a4)] [] sh (e.2) L R n cu su) : WX RX12 cX12_safe 7 (some .int) ("safe", []) d mc ms X (px_QF Post mc ms) 80 [(0, .ref 73), (1, .int x1), (2, .int x2), (3, .int x3), (4, .ref a4), (5, .int x5)] [] sh M L R n cu su := by
  have key := lpf_wp (P := (fun a => WX RX12 cX12_safe 7 (some .int) ("safe", []) d mc ms X (px_QF Post mc ms) 80 [(0, .ref 73), (1, .int x1), (2, .int a.1), (3, .int a.2.1), (4, .ref a4), (5, .int a.2.2.1)] [] sh (a.2.2.2) L R n cu su)) (G := (fun t => WX RX12 cX12_safe 7 (some .int) ("safe", []) d mc ms X (px_QF Post mc ms) 163 [(0, .ref 73), (3, .int t.1), (4, .ref a4)] [] sh (t.2) L R n cu su)) (fun a r h g => s_X12_safe_80b (x1 := x1) (x2 := a.1) (x3 := a.2.1) (a4 := a4) (x5 := a.2.2.1) (M := a.2.2.2) (L := L) (R := R) hS hd hcu hsu hn h g) (a := (x2, x3, x5, M)) h g
  exact key
noncomputable def f_X12_safe_40 (sh : px_Sh) (M : px_M) (L : px_L) (R : px_R) (n : Nat) (x1 : Int32) (x2 : Int32) (x3 : Int32) (a4 : Nat) (x5 : Int32) : Option ((Int32 × px_M) ⊕ (px_M)) :=
  if 8 ≤ x5 then
    some (.inr M)
  else
    ok (ix x5 8) <|
    nm (M 78 x5.toNatClampNeg) fun v_58 =>
    ok (xk sh a4 15 x5) <|
    ok (zb v_58) <|
    nm (px_u M a4 x5.toNatClampNeg v_58) fun M_58 =>
    some (.inl ((x5 + 1), M_58))
theorem s_X12_safe_40b {x1 : Int32} {x2 : Int32} {x3 : Int32} {a4 : Nat} {x5 : Int32} {M : px_M} {L : px_L} {R : px_R} {e : ((Int32 × px_M) ⊕ (px_M))} (hS : SR sh R) (hd : 13 ≤ d) (hcu : cu ≤ mc) (hsu : su ≤ ms) (hn : 220 ≤ n) (h : f_X12_safe_40 sh M L R n x1 x2 x3 a4 x5 = some e) (g : (sE (fun a => WX RX12 cX12_safe 7 (some .int) ("safe", []) d mc ms X (px_QF Post mc ms) 40 [(0, .ref 73), (1, .int x1), (2, .int x2), (3, .int x3), (4, .ref a4), (5, .int a.1)] [] sh (a.2) L R n cu su) (fun t => WX RX12 cX12_safe 7 (some .int) ("safe", []) d mc ms X (px_QF Post mc ms) 65 [(0, .ref 73), (1, .int x1), (2, .int x2), (3, .int x3), (4, .ref a4)] [] sh t L R n cu su)) e) : WX RX12 cX12_safe 7 (some .int) ("safe", []) d mc ms X (px_QF Post mc ms) 40 [(0, .ref 73), (1, .int x1), (2, .int x2), (3, .int x3), (4, .ref a4), (5, .int x5)] [] sh M L R n cu su := by
  unfold f_X12_safe_40 at h
  refine wx_iload dX12_safe_40 rfl ?_
  refine wx_bipush (v := 8) dX12_safe_42 (by decide) ?_
  refine wx_icmp_ge (tgt := 65) dX12_safe_44 (by decide) (fun c_44 => ?_) (fun c_44 => ?_)
  · replace h := it_t h c_44
    obtain rfl := Option.some.inj h
    replace g := sE_r g
    exact wx_sub g (px_s rfl (px_s rfl (px_s rfl (px_s rfl (px_s rfl px_0)))))
  · replace h := it_f h c_44
    refine wx_aload dX12_safe_47 rfl ?_
    refine wx_iload dX12_safe_49 rfl ?_
    refine wx_aload_n dX12_safe_51 rfl ?_
    refine wx_getR dX12_safe_52 fl_X12_22 (sc_73 hS) rfl (rr_73_8 hS) ?_
    refine wx_iload dX12_safe_55 rfl ?_
    obtain ⟨w_57, h⟩ := ok_some h
    refine wx_bald dX12_safe_57 (sc_78 hS) (ix_in w_57) ?_
    refine wx_nami (fun v_58 q_58 => ?_)
    replace h := nm_at h q_58
    obtain ⟨w_58, h⟩ := ok_some h
    obtain ⟨ln_58, wt_58, wi_58⟩ := xk_some w_58
    obtain ⟨wz_58, h⟩ := ok_some h
    refine wx_bast dX12_safe_58 wt_58 wi_58 (zb_n wz_58) ?_
    refine wx_namM (fun M_58 q_58 => ?_)
    replace h := nm_at h q_58
    refine wx_iinc (lv' := [(5, _), (0, _), (1, _), (2, _), (3, _), (4, _)]) dX12_safe_59 rfl (i_1 _) (by decide) rfl ?_
    refine wx_goto (tgt := 40) dX12_safe_62 (by decide) ?_
    obtain rfl := Option.some.inj h
    replace g := sE_l g
    exact wx_sub g (px_s rfl (px_s rfl (px_s rfl (px_s rfl (px_s rfl (px_s rfl px_0))))))
theorem s_X12_safe_40 {x1 : Int32} {x2 : Int32} {x3 : Int32} {a4 : Nat} {x5 : Int32} {M : px_M} {L : px_L} {R : px_R} {e : (px_M)} (hS : SR sh R) (hd : 13 ≤ d) (hcu : cu ≤ mc) (hsu : su ≤ ms) (hn : 220 ≤ n) (h : lpf (fun a : Int32 × px_M => f_X12_safe_40 sh a.2 L R n x1 x2 x3 a4 a.1) (x5, M) = some e) (g : WX RX12 cX12_safe 7 (some .int) ("safe", []) d mc ms X (px_QF Post mc ms) 65 [(0, .ref 73), (1, .int x1), (2, .int x2), (3, .int x3), (4, .ref a4)] [] sh e L R n cu su) : WX RX12 cX12_safe 7 (some .int) ("safe", []) d mc ms X (px_QF Post mc ms) 40 [(0, .ref 73), (1, .int x1), (2, .int x2), (3, .int x3), (4, .ref a4), (5, .int x5)] [] sh M L R n cu su := by
  have key := lpf_wp (P := (fun a => WX RX12 cX12_safe 7 (some .int) ("safe", []) d mc ms X (px_QF Post mc ms) 40 [(0, .ref 73), (1, .int x1), (2, .int x2), (3, .int x3), (4, .ref a4), (5, .int a.1)] [] sh (a.2) L R n cu su)) (G := (fun t => WX RX12 cX12_safe 7 (some .int) ("safe", []) d mc ms X (px_QF Post mc ms) 65 [(0, .ref 73), (1, .int x1), (2, .int x2), (3, .int x3), (4, .ref a4)] [] sh t L R n cu su)) (fun a r h g => s_X12_safe_40b (x1 := x1) (x2 := x2) (x3 := x3) (a4 := a4) (x5 := a.1) (M := a.2) (L := L) (R := R) hS hd hcu hsu hn h g) (a := (x5, M)) h g
  exact key
noncomputable def f_X12_safe_78 (sh : px_Sh) (M : px_M) (L : px_L) (R : px_R) (n : Nat) (x1 : Int32) (x2 : Int32) (x3 : Int32) (a4 : Nat) (z0 : Int32) : Option (Int32 × px_Sh × px_M × px_L × px_R × Nat) :=
  bd1 (lpf (fun a : Int32 × Int32 × Int32 × px_M => f_X12_safe_80 sh a.2.2.2 L R n x1 a.1 a.2.1 a4 a.2.2.1) (x2, x3, z0, M)) fun e_80 =>
  bd1 (lpf (fun a : Int32 × px_M => f_X12_safe_166 sh a.2 L R n e_80.1 a4 a.1) (0, e_80.2)) fun e_166 =>
  some (e_80.1, sh, e_166, L, R, n)
theorem s_X12_safe_78 {x1 : Int32} {x2 : Int32} {x3 : Int32} {a4 : Nat} {z0 : Int32} {M : px_M} {L : px_L} {R : px_R} {e : (Int32 × px_Sh × px_M × px_L × px_R × Nat)} (hS : SR sh R) (hd : 13 ≤ d) (hcu : cu ≤ mc) (hsu : su ≤ ms) (hn : 220 ≤ n) (h : f_X12_safe_78 sh M L R n x1 x2 x3 a4 z0 = some e) (g : SR (e.2.1) (e.2.2.2.2.1) → 220 ≤ (e.2.2.2.2.2) → Post (some (.int (e.1))) (e.2.1) (e.2.2.1) (e.2.2.2.1) (e.2.2.2.2.1) (e.2.2.2.2.2)) : WX RX12 cX12_safe 7 (some .int) ("safe", []) d mc ms X (px_QF Post mc ms) 78 [(0, .ref 73), (1, .int x1), (2, .int x2), (3, .int x3), (4, .ref a4)] [.int z0] sh M L R n cu su := by
  unfold f_X12_safe_78 at h
  refine wx_istore (lv' := [(5, _), (0, _), (1, _), (2, _), (3, _), (4, _)]) dX12_safe_78 (by decide) rfl ?_
  obtain ⟨e_80, k_80, h⟩ := bd1_some h
  refine wx_sub (s_X12_safe_80 hS hd (show cu + 0 ≤ mc by omega) (show su + 0 ≤ ms by omega) hn k_80 ?_) (px_s rfl (px_s rfl (px_s rfl (px_s rfl (px_s rfl (px_s rfl px_0))))))
  refine wx_iconst (v := 0) dX12_safe_163 (by decide) ?_
  refine wx_istore (lv' := [(6, _), (0, _), (3, _), (4, _)]) dX12_safe_164 (by decide) rfl ?_
  obtain ⟨e_166, k_166, h⟩ := bd1_some h
  refine wx_sub (s_X12_safe_166 hS hd (show cu + 0 ≤ mc by omega) (show su + 0 ≤ ms by omega) hn k_166 ?_) (px_s rfl (px_s rfl (px_s rfl (px_s rfl px_0))))
  refine wx_iload_n dX12_safe_191 rfl ?_
  refine wx_iret dX12_safe_192 (show cu + 0 ≤ mc by omega) (show su + 0 ≤ ms by omega) ?_
  obtain rfl := Option.some.inj h
  exact g hS hn
noncomputable def f_X12_safe_18 (sh : px_Sh) (M : px_M) (L : px_L) (R : px_R) (n : Nat) (x1 : Int32) (z0 : Int32) : Option (Int32 × px_Sh × px_M × px_L × px_R × Nat) :=
  bd1 (f_X12_bad M z0 1) fun e_19 =>
  if e_19.1 = 0 then
    nm (px_c sh n (some (15, 8))) fun sh_33 =>
    nm (px_c e_19.2 n (fun _ => 0)) fun M_33 =>
    nm (px_c L n (fun _ => 0)) fun L_33 =>
    nm (px_c R n (fun _ => none)) fun R_33 =>
    bd1 (lpf (fun a : Int32 × px_M => f_X12_safe_40 sh_33 a.2 L_33 R_33 (n + 1) x1 0 (-1) n a.1) (0, M_33)) fun e_40 =>
    bd1 (f_X12_countOrders e_40 0) fun e_67 =>
    if e_67.1 ≤ 0 then
      f_X12_safe_78 sh_33 e_67.2 L_33 R_33 (n + 1) x1 0 (-1) n 0
    else
      f_X12_safe_78 sh_33 e_67.2 L_33 R_33 (n + 1) x1 0 (-1) n 1
  else
    some (0, sh, e_19.2, L, R, n)
theorem s_X12_safe_18 {x1 : Int32} {z0 : Int32} {M : px_M} {L : px_L} {R : px_R} {e : (Int32 × px_Sh × px_M × px_L × px_R × Nat)} (hS : SR sh R) (hd : 13 ≤ d) (hcu : cu + 1 ≤ mc) (hsu : su + 8 ≤ ms) (hn : 220 ≤ n) (h : f_X12_safe_18 sh M L R n x1 z0 = some e) (g : SR (e.2.1) (e.2.2.2.2.1) → 220 ≤ (e.2.2.2.2.2) → Post (some (.int (e.1))) (e.2.1) (e.2.2.1) (e.2.2.2.1) (e.2.2.2.2.1) (e.2.2.2.2.2)) : WX RX12 cX12_safe 7 (some .int) ("safe", []) d mc ms X (px_QF Post mc ms) 18 [(0, .ref 73), (1, .int x1)] [.int z0, .ref 73] sh M L R n cu su := by
  unfold f_X12_safe_18 at h
  refine wx_iconst (v := 1) dX12_safe_18 (by decide) ?_
  obtain ⟨e_19, k_19, h⟩ := bd1_some h
  refine wx_cVi dX12_safe_19 ml_X12_207 my_X12_bad iv_X12_bad (sc_73 hS) (by decide) (s_X12_bad (d := d - 1) hS (by omega) k_19) rfl (by omega) (by exact Nat.le_of_ble_eq_true rfl) (show cu + 0 ≤ mc by omega) (show su + 0 ≤ ms by omega) ?_
  refine wx_if_eq (tgt := 27) dX12_safe_22 (by decide) (fun c_22 => ?_) (fun c_22 => ?_)
  · replace h := it_t h c_22
    refine wx_iconst (v := 0) dX12_safe_27 (by decide) ?_
    refine wx_istore_n (lv' := [(2, _), (0, _), (1, _)]) dX12_safe_28 (by decide) rfl ?_
    refine wx_iconst (v := (-1)) dX12_safe_29 (by decide) ?_
    refine wx_istore_n (lv' := [(3, _), (2, _), (0, _), (1, _)]) dX12_safe_30 (by decide) rfl ?_
    refine wx_bipush (v := 8) dX12_safe_31 (by decide) ?_
    refine wx_newarr (kd := 15) (N := 8) dX12_safe_33 (by decide) rfl ac_15 (by decide) (by decide) (by decide) (show cu + 1 ≤ mc by omega) (show su + 8 ≤ ms by omega) ?_
    refine wx_namS (fun sh_33 qsh_33 => ?_)
    replace h := nm_at h qsh_33
    refine wx_namM (fun M_33 qM_33 => ?_)
    replace h := nm_at h qM_33
    refine wx_namL (fun L_33 qL_33 => ?_)
    replace h := nm_at h qL_33
    refine wx_namR (fun R_33 qR_33 => ?_)
    replace h := nm_at h qR_33
    replace hS : SR sh_33 R_33 := by rw [qsh_33, qR_33]; exact SR.new hS hn
    replace hn : 220 ≤ n + 1 := Nat.le_succ_of_le hn
    refine wx_astore (lv' := [(4, _), (3, _), (2, _), (0, _), (1, _)]) dX12_safe_35 (by decide) rfl ?_
    refine wx_iconst (v := 0) dX12_safe_37 (by decide) ?_
    refine wx_istore (lv' := [(5, _), (4, _), (3, _), (2, _), (0, _), (1, _)]) dX12_safe_38 (by decide) rfl ?_
    obtain ⟨e_40, k_40, h⟩ := bd1_some h
    refine wx_sub (s_X12_safe_40 hS hd (show cu + 1 ≤ mc by omega) (show su + 8 ≤ ms by omega) hn k_40 ?_) (px_s rfl (px_s rfl (px_s rfl (px_s rfl (px_s rfl (px_s rfl px_0))))))
    refine wx_aload_n dX12_safe_65 rfl ?_
    refine wx_iconst (v := 0) dX12_safe_66 (by decide) ?_
    obtain ⟨e_67, k_67, h⟩ := bd1_some h
    refine wx_cVi dX12_safe_67 ml_X12_215 my_X12_countOrders iv_X12_countOrders (sc_73 hS) (by decide) (s_X12_countOrders (d := d - 1) hS (by omega) k_67) rfl (by omega) (by exact Nat.le_of_ble_eq_true rfl) (show cu + 1 ≤ mc by omega) (show su + 8 ≤ ms by omega) ?_
    refine wx_if_le (tgt := 77) dX12_safe_70 (by decide) (fun c_70 => ?_) (fun c_70 => ?_)
    · replace h := it_t h c_70
      refine wx_iconst (v := 0) dX12_safe_77 (by decide) ?_
      exact wx_sub (s_X12_safe_78 hS hd (show cu + 1 ≤ mc by omega) (show su + 8 ≤ ms by omega) hn h g) (px_s rfl (px_s rfl (px_s rfl (px_s rfl (px_s rfl px_0)))))
    · replace h := it_f h c_70
      refine wx_iconst (v := 1) dX12_safe_73 (by decide) ?_
      refine wx_goto (tgt := 78) dX12_safe_74 (by decide) ?_
      exact wx_sub (s_X12_safe_78 hS hd (show cu + 1 ≤ mc by omega) (show su + 8 ≤ ms by omega) hn h g) (px_s rfl (px_s rfl (px_s rfl (px_s rfl (px_s rfl px_0)))))
  · replace h := it_f h c_22
    refine wx_iconst (v := 0) dX12_safe_25 (by decide) ?_
    refine wx_iret dX12_safe_26 (show cu + 0 ≤ mc by omega) (show su + 0 ≤ ms by omega) ?_
    obtain rfl := Option.some.inj h
    exact g hS hn
noncomputable def f_X12_safe (sh : px_Sh) (M : px_M) (L : px_L) (R : px_R) (n : Nat) (p1 : Int32) : Option (Int32 × px_Sh × px_M × px_L × px_R × Nat) :=
  nm (px_u M 73 0 0) fun M_2 =>
  if (M_2 73 3) = 0 then
    f_X12_safe_18 sh M_2 L R n p1 1
  else
    f_X12_safe_18 sh M_2 L R n p1 0
theorem s_X12_safe {d : Nat} {X : Nat × (Nat → Int32)} {sh : px_Sh} {M : px_M} {L : px_L} {R : px_R} {n : Nat} {p1 : Int32} {e : Int32 × px_Sh × px_M × px_L × px_R × Nat} (hS : SR sh R) (hd : 13 ≤ d) (hn : 220 ≤ n) (h : f_X12_safe sh M L R n p1 = some e) : MX yX12_safe cX12_safe 7 (some .int) d 1 8 X [.ref 73, .int p1] sh M L R n (px_pa (some (.int e.1)) e.2.1 e.2.2.1 e.2.2.2.1 e.2.2.2.2.1 e.2.2.2.2.2) := by
  refine MX.of (by decide +kernel) (by exact Nat.le_of_ble_eq_true rfl) ?_
  have hcu : 0 ≤ 1 := Nat.zero_le _
  have hsu : 0 ≤ 8 := Nat.zero_le _
  have g : SR e.2.1 e.2.2.2.2.1 → 220 ≤ e.2.2.2.2.2 → px_pa (some (.int e.1)) e.2.1 e.2.2.1 e.2.2.2.1 e.2.2.2.2.1 e.2.2.2.2.2 (some (.int e.1)) e.2.1 e.2.2.1 e.2.2.2.1 e.2.2.2.2.1 e.2.2.2.2.2 := fun q q2 => ⟨⟨rfl, rfl, rfl, rfl, rfl, rfl⟩, q, q2⟩
  unfold f_X12_safe at h
  refine wx_aload_n dX12_safe_0 rfl ?_
  refine wx_iconst (v := 0) dX12_safe_1 (by decide) ?_
  refine wx_putI dX12_safe_2 fl_X12_179 (sc_73 hS) (Or.inl rfl) rfl ⟨rfl, rfl⟩ ?_
  refine wx_namM (fun M_2 q_2 => ?_)
  replace h := nm_at h q_2
  refine wx_aload_n dX12_safe_5 rfl ?_
  refine wx_aload_n dX12_safe_6 rfl ?_
  refine wx_getI dX12_safe_7 fl_X12_196 (sc_73 hS) rfl ?_
  refine wx_if_ne (tgt := 17) dX12_safe_10 (by decide) (fun c_10 => ?_) (fun c_10 => ?_)
  · replace h := it_f h c_10
    refine wx_iconst (v := 0) dX12_safe_17 (by decide) ?_
    exact wx_sub (s_X12_safe_18 hS hd (show 0 + 1 ≤ 1 by omega) (show 0 + 8 ≤ 8 by omega) hn h g) (px_s rfl (px_s rfl px_0))
  · replace h := it_t h c_10
    refine wx_iconst (v := 1) dX12_safe_13 (by decide) ?_
    refine wx_goto (tgt := 18) dX12_safe_14 (by decide) ?_
    exact wx_sub (s_X12_safe_18 hS hd (show 0 + 1 ≤ 1 by omega) (show 0 + 8 ≤ 8 by omega) hn h g) (px_s rfl (px_s rfl px_0))
noncomputable def f_X12_trim_239 (sh : px_Sh) (M : px_M) (L : px_L) (R : px_R) (n : Nat) (x1 : Int32) (x2 : Int32) (a3 : Nat) (a4 : Nat) (x5 : Int32) (x6 : Int32) (x7 : Int32) (x11 : Int32) : Option ((Int32 × px_M) ⊕ (px_M)) :=
  if (M 73 10) ≤ x11 then
    some (.inr M)
  else
    ok (ix x11 4) <|
    nm (M 88 x11.toNatClampNeg) fun v_259 =>
    ok (xk sh a4 13 x11) <|
    nm (px_u M a4 x11.toNatClampNeg v_259) fun M_259 =>
    some (.inl ((x11 + 1), M_259))
theorem s_X12_trim_239b {x1 : Int32} {x2 : Int32} {a3 : Nat} {a4 : Nat} {x5 : Int32} {x6 : Int32} {x7 : Int32} {x11 : Int32} {M : px_M} {L : px_L} {R : px_R} {e : ((Int32 × px_M) ⊕ (px_M))} (hS : SR sh R) (hd : 4 ≤ d) (hcu : cu ≤ mc) (hsu : su ≤ ms) (hn : 220 ≤ n) (h : f_X12_trim_239 sh M L R n x1 x2 a3 a4 x5 x6 x7 x11 = some e) (g : (sE (fun a => WX RX12 cX12_trim 12 (some .int) ("trim", []) d mc ms X (px_QF Post mc ms) 239 [(0, .ref 73), (1, .int x1), (2, .int x2), (3, .ref a3), (4, .ref a4), (5, .int x5), (6, .int x6), (7, .int x7), (11, .int a.1)] [] sh (a.2) L R n cu su) (fun t => WX RX12 cX12_trim 12 (some .int) ("trim", []) d mc ms X (px_QF Post mc ms) 266 [(0, .ref 73), (1, .int x1), (2, .int x2), (3, .ref a3), (4, .ref a4), (5, .int x5), (6, .int x6), (7, .int x7)] [] sh t L R n cu su)) e) : WX RX12 cX12_trim 12 (some .int) ("trim", []) d mc ms X (px_QF Post mc ms) 239 [(0, .ref 73), (1, .int x1), (2, .int x2), (3, .ref a3), (4, .ref a4), (5, .int x5), (6, .int x6), (7, .int x7), (11, .int x11)] [] sh M L R n cu su := by
  unfold f_X12_trim_239 at h
  refine wx_iload dX12_trim_239 rfl ?_
  refine wx_aload_n dX12_trim_241 rfl ?_
  refine wx_getI dX12_trim_242 fl_X12_225 (sc_73 hS) rfl ?_
  refine wx_icmp_ge (tgt := 266) dX12_trim_245 (by decide) (fun c_245 => ?_) (fun c_245 => ?_)
  · replace h := it_t h c_245
    obtain rfl := Option.some.inj h
    replace g := sE_r g
    exact wx_sub g (px_s rfl (px_s rfl (px_s rfl (px_s rfl (px_s rfl (px_s rfl (px_s rfl (px_s rfl px_0))))))))
  · replace h := it_f h c_245
    refine wx_aload dX12_trim_248 rfl ?_
    refine wx_iload dX12_trim_250 rfl ?_
    refine wx_aload_n dX12_trim_252 rfl ?_
    refine wx_getR dX12_trim_253 fl_X12_53 (sc_73 hS) rfl (rr_73_22 hS) ?_
    refine wx_iload dX12_trim_256 rfl ?_
    obtain ⟨w_258, h⟩ := ok_some h
    refine wx_iald dX12_trim_258 (sc_88 hS) (ix_in w_258) ?_
    refine wx_nami (fun v_259 q_259 => ?_)
    replace h := nm_at h q_259
    obtain ⟨w_259, h⟩ := ok_some h
    obtain ⟨ln_259, wt_259, wi_259⟩ := xk_some w_259
    refine wx_iast dX12_trim_259 wt_259 wi_259 ?_
    refine wx_namM (fun M_259 q_259 => ?_)
    replace h := nm_at h q_259
    refine wx_iinc (lv' := [(11, _), (0, _), (1, _), (2, _), (3, _), (4, _), (5, _), (6, _), (7, _)]) dX12_trim_260 rfl (i_1 _) (by decide) rfl ?_
    refine wx_goto (tgt := 239) dX12_trim_263 (by decide) ?_
    obtain rfl := Option.some.inj h
    replace g := sE_l g
    exact wx_sub g (px_s rfl (px_s rfl (px_s rfl (px_s rfl (px_s rfl (px_s rfl (px_s rfl (px_s rfl (px_s rfl px_0)))))))))
theorem s_X12_trim_239 {x1 : Int32} {x2 : Int32} {a3 : Nat} {a4 : Nat} {x5 : Int32} {x6 : Int32} {x7 : Int32} {x11 : Int32} {M : px_M} {L : px_L} {R : px_R} {e : (px_M)} (hS : SR sh R) (hd : 4 ≤ d) (hcu : cu ≤ mc) (hsu : su ≤ ms) (hn : 220 ≤ n) (h : lpf (fun a : Int32 × px_M => f_X12_trim_239 sh a.2 L R n x1 x2 a3 a4 x5 x6 x7 a.1) (x11, M) = some e) (g : WX RX12 cX12_trim 12 (some .int) ("trim", []) d mc ms X (px_QF Post mc ms) 266 [(0, .ref 73), (1, .int x1), (2, .int x2), (3, .ref a3), (4, .ref a4), (5, .int x5), (6, .int x6), (7, .int x7)] [] sh e L R n cu su) : WX RX12 cX12_trim 12 (some .int) ("trim", []) d mc ms X (px_QF Post mc ms) 239 [(0, .ref 73), (1, .int x1), (2, .int x2), (3, .ref a3), (4, .ref a4), (5, .int x5), (6, .int x6), (7, .int x7), (11, .int x11)] [] sh M L R n cu su := by
  have key := lpf_wp (P := (fun a => WX RX12 cX12_trim 12 (some .int) ("trim", []) d mc ms X (px_QF Post mc ms) 239 [(0, .ref 73), (1, .int x1), (2, .int x2), (3, .ref a3), (4, .ref a4), (5, .int x5), (6, .int x6), (7, .int x7), (11, .int a.1)] [] sh (a.2) L R n cu su)) (G := (fun t => WX RX12 cX12_trim 12 (some .int) ("trim", []) d mc ms X (px_QF Post mc ms) 266 [(0, .ref 73), (1, .int x1), (2, .int x2), (3, .ref a3), (4, .ref a4), (5, .int x5), (6, .int x6), (7, .int x7)] [] sh t L R n cu su)) (fun a r h g => s_X12_trim_239b (x1 := x1) (x2 := x2) (a3 := a3) (a4 := a4) (x5 := x5) (x6 := x6) (x7 := x7) (x11 := a.1) (M := a.2) (L := L) (R := R) hS hd hcu hsu hn h g) (a := (x11, M)) h g
  exact key
noncomputable def f_X12_trim_175 (sh : px_Sh) (M : px_M) (L : px_L) (R : px_R) (n : Nat) (x1 : Int32) (x2 : Int32) (a3 : Nat) (a4 : Nat) (x5 : Int32) (x6 : Int32) (x7 : Int32) (x8 : Int32) (x9 : Int32) (x10 : Int32) : Option ((Int32 × Int32 × Int32 × px_M) ⊕ (Int32 × px_M)) :=
  some (.inl (x8, x9, (x10 + -1), M))
theorem s_X12_trim_175 {x1 : Int32} {x2 : Int32} {a3 : Nat} {a4 : Nat} {x5 : Int32} {x6 : Int32} {x7 : Int32} {x8 : Int32} {x9 : Int32} {x10 : Int32} {M : px_M} {L : px_L} {R : px_R} {e : ((Int32 × Int32 × Int32 × px_M) ⊕ (Int32 × px_M))} (hS : SR sh R) (hd : 4 ≤ d) (hcu : cu ≤ mc) (hsu : su ≤ ms) (hn : 220 ≤ n) (h : f_X12_trim_175 sh M L R n x1 x2 a3 a4 x5 x6 x7 x8 x9 x10 = some e) (g : (sE (fun a => WX RX12 cX12_trim 12 (some .int) ("trim", []) d mc ms X (px_QF Post mc ms) 115 [(0, .ref 73), (1, .int x1), (2, .int x2), (3, .ref a3), (4, .ref a4), (5, .int x5), (6, .int x6), (7, .int x7), (8, .int a.1), (9, .int a.2.1), (10, .int a.2.2.1)] [] sh (a.2.2.2) L R n cu su) (fun t => WX RX12 cX12_trim 12 (some .int) ("trim", []) d mc ms X (px_QF Post mc ms) 181 [(0, .ref 73), (1, .int x1), (2, .int x2), (3, .ref a3), (4, .ref a4), (5, .int x5), (6, .int x6), (7, .int x7), (9, .int t.1)] [] sh (t.2) L R n cu su)) e) : WX RX12 cX12_trim 12 (some .int) ("trim", []) d mc ms X (px_QF Post mc ms) 175 [(0, .ref 73), (1, .int x1), (2, .int x2), (3, .ref a3), (4, .ref a4), (5, .int x5), (6, .int x6), (7, .int x7), (8, .int x8), (9, .int x9), (10, .int x10)] [] sh M L R n cu su := by
  unfold f_X12_trim_175 at h
  refine wx_iinc (lv' := [(10, _), (0, _), (1, _), (2, _), (3, _), (4, _), (5, _), (6, _), (7, _), (8, _), (9, _)]) dX12_trim_175 rfl (i_m1 _) (by decide) rfl ?_
  refine wx_goto (tgt := 115) dX12_trim_178 (by decide) ?_
  obtain rfl := Option.some.inj h
  replace g := sE_l g
  exact wx_sub g (px_s rfl (px_s rfl (px_s rfl (px_s rfl (px_s rfl (px_s rfl (px_s rfl (px_s rfl (px_s rfl (px_s rfl (px_s rfl px_0)))))))))))
noncomputable def f_X12_trim_161 (sh : px_Sh) (M : px_M) (L : px_L) (R : px_R) (n : Nat) (x1 : Int32) (x2 : Int32) (a3 : Nat) (a4 : Nat) (x5 : Int32) (x6 : Int32) (x7 : Int32) (x8 : Int32) (x10 : Int32) (z0 : Int32) : Option ((Int32 × Int32 × Int32 × px_M) ⊕ (Int32 × px_M)) :=
  f_X12_trim_175 sh M L R n x1 x2 a3 a4 x5 x6 x7 x8 z0 x10
theorem s_X12_trim_161 {x1 : Int32} {x2 : Int32} {a3 : Nat} {a4 : Nat} {x5 : Int32} {x6 : Int32} {x7 : Int32} {x8 : Int32} {x10 : Int32} {z0 : Int32} {M : px_M} {L : px_L} {R : px_R} {e : ((Int32 × Int32 × Int32 × px_M) ⊕ (Int32 × px_M))} (hS : SR sh R) (hd : 4 ≤ d) (hcu : cu ≤ mc) (hsu : su ≤ ms) (hn : 220 ≤ n) (h : f_X12_trim_161 sh M L R n x1 x2 a3 a4 x5 x6 x7 x8 x10 z0 = some e) (g : (sE (fun a => WX RX12 cX12_trim 12 (some .int) ("trim", []) d mc ms X (px_QF Post mc ms) 115 [(0, .ref 73), (1, .int x1), (2, .int x2), (3, .ref a3), (4, .ref a4), (5, .int x5), (6, .int x6), (7, .int x7), (8, .int a.1), (9, .int a.2.1), (10, .int a.2.2.1)] [] sh (a.2.2.2) L R n cu su) (fun t => WX RX12 cX12_trim 12 (some .int) ("trim", []) d mc ms X (px_QF Post mc ms) 181 [(0, .ref 73), (1, .int x1), (2, .int x2), (3, .ref a3), (4, .ref a4), (5, .int x5), (6, .int x6), (7, .int x7), (9, .int t.1)] [] sh (t.2) L R n cu su)) e) : WX RX12 cX12_trim 12 (some .int) ("trim", []) d mc ms X (px_QF Post mc ms) 161 [(0, .ref 73), (1, .int x1), (2, .int x2), (3, .ref a3), (4, .ref a4), (5, .int x5), (6, .int x6), (7, .int x7), (8, .int x8), (10, .int x10)] [.int z0] sh M L R n cu su := by
  unfold f_X12_trim_161 at h
  refine wx_istore (lv' := [(9, _), (0, _), (1, _), (2, _), (3, _), (4, _), (5, _), (6, _), (7, _), (8, _), (10, _)]) dX12_trim_161 (by decide) rfl ?_
  refine wx_goto (tgt := 175) dX12_trim_163 (by decide) ?_
  exact wx_sub (s_X12_trim_175 hS hd (show cu + 0 ≤ mc by omega) (show su + 0 ≤ ms by omega) hn h g) (px_s rfl (px_s rfl (px_s rfl (px_s rfl (px_s rfl (px_s rfl (px_s rfl (px_s rfl (px_s rfl (px_s rfl (px_s rfl px_0)))))))))))
noncomputable def f_X12_trim_160 (sh : px_Sh) (M : px_M) (L : px_L) (R : px_R) (n : Nat) (x1 : Int32) (x2 : Int32) (a3 : Nat) (a4 : Nat) (x5 : Int32) (x6 : Int32) (x7 : Int32) (x8 : Int32) (x10 : Int32) : Option ((Int32 × Int32 × Int32 × px_M) ⊕ (Int32 × px_M)) :=
  f_X12_trim_161 sh M L R n x1 x2 a3 a4 x5 x6 x7 x8 x10 0
theorem s_X12_trim_160 {x1 : Int32} {x2 : Int32} {a3 : Nat} {a4 : Nat} {x5 : Int32} {x6 : Int32} {x7 : Int32} {x8 : Int32} {x10 : Int32} {M : px_M} {L : px_L} {R : px_R} {e : ((Int32 × Int32 × Int32 × px_M) ⊕ (Int32 × px_M))} (hS : SR sh R) (hd : 4 ≤ d) (hcu : cu ≤ mc) (hsu : su ≤ ms) (hn : 220 ≤ n) (h : f_X12_trim_160 sh M L R n x1 x2 a3 a4 x5 x6 x7 x8 x10 = some e) (g : (sE (fun a => WX RX12 cX12_trim 12 (some .int) ("trim", []) d mc ms X (px_QF Post mc ms) 115 [(0, .ref 73), (1, .int x1), (2, .int x2), (3, .ref a3), (4, .ref a4), (5, .int x5), (6, .int x6), (7, .int x7), (8, .int a.1), (9, .int a.2.1), (10, .int a.2.2.1)] [] sh (a.2.2.2) L R n cu su) (fun t => WX RX12 cX12_trim 12 (some .int) ("trim", []) d mc ms X (px_QF Post mc ms) 181 [(0, .ref 73), (1, .int x1), (2, .int x2), (3, .ref a3), (4, .ref a4), (5, .int x5), (6, .int x6), (7, .int x7), (9, .int t.1)] [] sh (t.2) L R n cu su)) e) : WX RX12 cX12_trim 12 (some .int) ("trim", []) d mc ms X (px_QF Post mc ms) 160 [(0, .ref 73), (1, .int x1), (2, .int x2), (3, .ref a3), (4, .ref a4), (5, .int x5), (6, .int x6), (7, .int x7), (8, .int x8), (10, .int x10)] [] sh M L R n cu su := by
  unfold f_X12_trim_160 at h
  refine wx_iconst (v := 0) dX12_trim_160 (by decide) ?_
  exact wx_sub (s_X12_trim_161 hS hd (show cu + 0 ≤ mc by omega) (show su + 0 ≤ ms by omega) hn h g) (px_s rfl (px_s rfl (px_s rfl (px_s rfl (px_s rfl (px_s rfl (px_s rfl (px_s rfl (px_s rfl (px_s rfl px_0))))))))))
noncomputable def f_X12_trim_115 (sh : px_Sh) (M : px_M) (L : px_L) (R : px_R) (n : Nat) (x1 : Int32) (x2 : Int32) (a3 : Nat) (a4 : Nat) (x5 : Int32) (x6 : Int32) (x7 : Int32) (x8 : Int32) (x9 : Int32) (x10 : Int32) : Option ((Int32 × Int32 × Int32 × px_M) ⊕ (Int32 × px_M)) :=
  if x10 < 0 then
    some (.inr (x9, M))
  else
    nm ((x8 - x8 / 5 * 5) - 2) fun v_126 =>
    nm (x8 / 5) fun v_132 =>
    ok (ix x10 4) <|
    if (M 89 x10.toNatClampNeg) = 0 then
      ok (ix x10 4) <|
      nm (px_u M 88 x10.toNatClampNeg v_126) fun M_174 =>
      f_X12_trim_175 sh M_174 L R n x1 x2 a3 a4 x5 x6 x7 v_132 x9 x10
    else
      if x9 = 0 then
        f_X12_trim_160 sh M L R n x1 x2 a3 a4 x5 x6 x7 v_132 x10
      else
        if v_126 = (-2) then
          f_X12_trim_161 sh M L R n x1 x2 a3 a4 x5 x6 x7 v_132 x10 1
        else
          f_X12_trim_160 sh M L R n x1 x2 a3 a4 x5 x6 x7 v_132 x10
theorem s_X12_trim_115b {x1 : Int32} {x2 : Int32} {a3 : Nat} {a4 : Nat} {x5 : Int32} {x6 : Int32} {x7 : Int32} {x8 : Int32} {x9 : Int32} {x10 : Int32} {M : px_M} {L : px_L} {R : px_R} {e : ((Int32 × Int32 × Int32 × px_M) ⊕ (Int32 × px_M))} (hS : SR sh R) (hd : 4 ≤ d) (hcu : cu ≤ mc) (hsu : su ≤ ms) (hn : 220 ≤ n) (h : f_X12_trim_115 sh M L R n x1 x2 a3 a4 x5 x6 x7 x8 x9 x10 = some e) (g : (sE (fun a => WX RX12 cX12_trim 12 (some .int) ("trim", []) d mc ms X (px_QF Post mc ms) 115 [(0, .ref 73), (1, .int x1), (2, .int x2), (3, .ref a3), (4, .ref a4), (5, .int x5), (6, .int x6), (7, .int x7), (8, .int a.1), (9, .int a.2.1), (10, .int a.2.2.1)] [] sh (a.2.2.2) L R n cu su) (fun t => WX RX12 cX12_trim 12 (some .int) ("trim", []) d mc ms X (px_QF Post mc ms) 181 [(0, .ref 73), (1, .int x1), (2, .int x2), (3, .ref a3), (4, .ref a4), (5, .int x5), (6, .int x6), (7, .int x7), (9, .int t.1)] [] sh (t.2) L R n cu su)) e) : WX RX12 cX12_trim 12 (some .int) ("trim", []) d mc ms X (px_QF Post mc ms) 115 [(0, .ref 73), (1, .int x1), (2, .int x2), (3, .ref a3), (4, .ref a4), (5, .int x5), (6, .int x6), (7, .int x7), (8, .int x8), (9, .int x9), (10, .int x10)] [] sh M L R n cu su := by
  unfold f_X12_trim_115 at h
  refine wx_iload dX12_trim_115 rfl ?_
  refine wx_if_lt (tgt := 181) dX12_trim_117 (by decide) (fun c_117 => ?_) (fun c_117 => ?_)
  · replace h := it_t h c_117
    obtain rfl := Option.some.inj h
    replace g := sE_r g
    exact wx_sub g (px_s rfl (px_s rfl (px_s rfl (px_s rfl (px_s rfl (px_s rfl (px_s rfl (px_s rfl (px_s rfl px_0)))))))))
  · replace h := it_f h c_117
    refine wx_iload dX12_trim_120 rfl ?_
    refine wx_iconst (v := 5) dX12_trim_122 (by decide) ?_
    refine wx_irem dX12_trim_123 (by decide) ?_
    refine wx_iconst (v := 2) dX12_trim_124 (by decide) ?_
    refine wx_isub dX12_trim_125 ?_
    refine wx_nami (fun v_126 q_126 => ?_)
    replace h := nm_at h q_126
    refine wx_istore (lv' := [(11, _), (0, _), (1, _), (2, _), (3, _), (4, _), (5, _), (6, _), (7, _), (8, _), (9, _), (10, _)]) dX12_trim_126 (by decide) rfl ?_
    refine wx_iload dX12_trim_128 rfl ?_
    refine wx_iconst (v := 5) dX12_trim_130 (by decide) ?_
    refine wx_idiv dX12_trim_131 (by decide) ?_
    refine wx_nami (fun v_132 q_132 => ?_)
    replace h := nm_at h q_132
    refine wx_istore (lv' := [(8, _), (11, _), (0, _), (1, _), (2, _), (3, _), (4, _), (5, _), (6, _), (7, _), (9, _), (10, _)]) dX12_trim_132 (by decide) rfl ?_
    refine wx_aload_n dX12_trim_134 rfl ?_
    refine wx_getR dX12_trim_135 fl_X12_56 (sc_73 hS) rfl (rr_73_23 hS) ?_
    refine wx_iload dX12_trim_138 rfl ?_
    obtain ⟨w_140, h⟩ := ok_some h
    refine wx_bald dX12_trim_140 (sc_89 hS) (ix_in w_140) ?_
    refine wx_if_eq (tgt := 166) dX12_trim_141 (by decide) (fun c_141 => ?_) (fun c_141 => ?_)
    · replace h := it_t h c_141
      refine wx_aload_n dX12_trim_166 rfl ?_
      refine wx_getR dX12_trim_167 fl_X12_53 (sc_73 hS) rfl (rr_73_22 hS) ?_
      refine wx_iload dX12_trim_170 rfl ?_
      refine wx_iload dX12_trim_172 rfl ?_
      obtain ⟨w_174, h⟩ := ok_some h
      refine wx_iast dX12_trim_174 (sc_88 hS) (ix_in w_174) ?_
      refine wx_namM (fun M_174 q_174 => ?_)
      replace h := nm_at h q_174
      exact wx_sub (s_X12_trim_175 hS hd (show cu + 0 ≤ mc by omega) (show su + 0 ≤ ms by omega) hn h g) (px_s rfl (px_s rfl (px_s rfl (px_s rfl (px_s rfl (px_s rfl (px_s rfl (px_s rfl (px_s rfl (px_s rfl (px_s rfl px_0)))))))))))
    · replace h := it_f h c_141
      refine wx_iload dX12_trim_144 rfl ?_
      refine wx_if_eq (tgt := 160) dX12_trim_146 (by decide) (fun c_146 => ?_) (fun c_146 => ?_)
      · replace h := it_t h c_146
        exact wx_sub (s_X12_trim_160 hS hd (show cu + 0 ≤ mc by omega) (show su + 0 ≤ ms by omega) hn h g) (px_s rfl (px_s rfl (px_s rfl (px_s rfl (px_s rfl (px_s rfl (px_s rfl (px_s rfl (px_s rfl (px_s rfl px_0))))))))))
      · replace h := it_f h c_146
        refine wx_iload dX12_trim_149 rfl ?_
        refine wx_bipush (v := (-2)) dX12_trim_151 (by decide) ?_
        refine wx_icmp_ne (tgt := 160) dX12_trim_153 (by decide) (fun c_153 => ?_) (fun c_153 => ?_)
        · replace h := it_f h c_153
          exact wx_sub (s_X12_trim_160 hS hd (show cu + 0 ≤ mc by omega) (show su + 0 ≤ ms by omega) hn h g) (px_s rfl (px_s rfl (px_s rfl (px_s rfl (px_s rfl (px_s rfl (px_s rfl (px_s rfl (px_s rfl (px_s rfl px_0))))))))))
        · replace h := it_t h c_153
          refine wx_iconst (v := 1) dX12_trim_156 (by decide) ?_
          refine wx_goto (tgt := 161) dX12_trim_157 (by decide) ?_
          exact wx_sub (s_X12_trim_161 hS hd (show cu + 0 ≤ mc by omega) (show su + 0 ≤ ms by omega) hn h g) (px_s rfl (px_s rfl (px_s rfl (px_s rfl (px_s rfl (px_s rfl (px_s rfl (px_s rfl (px_s rfl (px_s rfl px_0))))))))))
theorem s_X12_trim_115 {x1 : Int32} {x2 : Int32} {a3 : Nat} {a4 : Nat} {x5 : Int32} {x6 : Int32} {x7 : Int32} {x8 : Int32} {x9 : Int32} {x10 : Int32} {M : px_M} {L : px_L} {R : px_R} {e : (Int32 × px_M)} (hS : SR sh R) (hd : 4 ≤ d) (hcu : cu ≤ mc) (hsu : su ≤ ms) (hn : 220 ≤ n) (h : lpf (fun a : Int32 × Int32 × Int32 × px_M => f_X12_trim_115 sh a.2.2.2 L R n x1 x2 a3 a4 x5 x6 x7 a.1 a.2.1 a.2.2.1) (x8, x9, x10, M) = some e) (g : WX RX12 cX12_trim 12 (some .int) ("trim", []) d mc ms X (px_QF Post mc ms) 181 [(0, .ref 73), (1, .int x1), (2, .int x2), (3, .ref a3), (4, .ref a4), (5, .int x5), (6, .int x6), (7, .int x7), (9, .int e.1)] [] sh (e.2) L R n cu su) : WX RX12 cX12_trim 12 (some .int) ("trim", []) d mc ms X (px_QF Post mc ms) 115 [(0, .ref 73), (1, .int x1), (2, .int x2), (3, .ref a3), (4, .ref a4), (5, .int x5), (6, .int x6), (7, .int x7), (8, .int x8), (9, .int x9), (10, .int x10)] [] sh M L R n cu su := by
  have key := lpf_wp (P := (fun a => WX RX12 cX12_trim 12 (some .int) ("trim", []) d mc ms X (px_QF Post mc ms) 115 [(0, .ref 73), (1, .int x1), (2, .int x2), (3, .ref a3), (4, .ref a4), (5, .int x5), (6, .int x6), (7, .int x7), (8, .int a.1), (9, .int a.2.1), (10, .int a.2.2.1)] [] sh (a.2.2.2) L R n cu su)) (G := (fun t => WX RX12 cX12_trim 12 (some .int) ("trim", []) d mc ms X (px_QF Post mc ms) 181 [(0, .ref 73), (1, .int x1), (2, .int x2), (3, .ref a3), (4, .ref a4), (5, .int x5), (6, .int x6), (7, .int x7), (9, .int t.1)] [] sh (t.2) L R n cu su)) (fun a r h g => s_X12_trim_115b (x1 := x1) (x2 := x2) (a3 := a3) (a4 := a4) (x5 := x5) (x6 := x6) (x7 := x7) (x8 := a.1) (x9 := a.2.1) (x10 := a.2.2.1) (M := a.2.2.2) (L := L) (R := R) hS hd hcu hsu hn h g) (a := (x8, x9, x10, M)) h g
  exact key
noncomputable def f_X12_trim_275 (sh : px_Sh) (M : px_M) (L : px_L) (R : px_R) (n : Nat) (x2 : Int32) (a3 : Nat) (a4 : Nat) (x6 : Int32) (x7 : Int32) : Option ((Int32 × px_M) ⊕ (px_M)) :=
  if (M 73 10) ≤ x7 then
    some (.inr M)
  else
    ok (xk sh a3 13 x7) <|
    nm (M a3 x7.toNatClampNeg) fun v_294 =>
    ok (ix x7 4) <|
    nm (px_u M 88 x7.toNatClampNeg v_294) fun M_294 =>
    some (.inl ((x7 + 1), M_294))
theorem s_X12_trim_275b {x2 : Int32} {a3 : Nat} {a4 : Nat} {x6 : Int32} {x7 : Int32} {M : px_M} {L : px_L} {R : px_R} {e : ((Int32 × px_M) ⊕ (px_M))} (hS : SR sh R) (hd : 4 ≤ d) (hcu : cu ≤ mc) (hsu : su ≤ ms) (hn : 220 ≤ n) (h : f_X12_trim_275 sh M L R n x2 a3 a4 x6 x7 = some e) (g : (sE (fun a => WX RX12 cX12_trim 12 (some .int) ("trim", []) d mc ms X (px_QF Post mc ms) 275 [(0, .ref 73), (2, .int x2), (3, .ref a3), (4, .ref a4), (6, .int x6), (7, .int a.1)] [] sh (a.2) L R n cu su) (fun t => WX RX12 cX12_trim 12 (some .int) ("trim", []) d mc ms X (px_QF Post mc ms) 301 [(0, .ref 73), (2, .int x2), (4, .ref a4), (6, .int x6)] [] sh t L R n cu su)) e) : WX RX12 cX12_trim 12 (some .int) ("trim", []) d mc ms X (px_QF Post mc ms) 275 [(0, .ref 73), (2, .int x2), (3, .ref a3), (4, .ref a4), (6, .int x6), (7, .int x7)] [] sh M L R n cu su := by
  unfold f_X12_trim_275 at h
  refine wx_iload dX12_trim_275 rfl ?_
  refine wx_aload_n dX12_trim_277 rfl ?_
  refine wx_getI dX12_trim_278 fl_X12_225 (sc_73 hS) rfl ?_
  refine wx_icmp_ge (tgt := 301) dX12_trim_281 (by decide) (fun c_281 => ?_) (fun c_281 => ?_)
  · replace h := it_t h c_281
    obtain rfl := Option.some.inj h
    replace g := sE_r g
    exact wx_sub g (px_s rfl (px_s rfl (px_s rfl (px_s rfl px_0))))
  · replace h := it_f h c_281
    refine wx_aload_n dX12_trim_284 rfl ?_
    refine wx_getR dX12_trim_285 fl_X12_53 (sc_73 hS) rfl (rr_73_22 hS) ?_
    refine wx_iload dX12_trim_288 rfl ?_
    refine wx_aload_n dX12_trim_290 rfl ?_
    refine wx_iload dX12_trim_291 rfl ?_
    obtain ⟨w_293, h⟩ := ok_some h
    obtain ⟨ln_293, wt_293, wi_293⟩ := xk_some w_293
    refine wx_iald dX12_trim_293 wt_293 wi_293 ?_
    refine wx_nami (fun v_294 q_294 => ?_)
    replace h := nm_at h q_294
    obtain ⟨w_294, h⟩ := ok_some h
    refine wx_iast dX12_trim_294 (sc_88 hS) (ix_in w_294) ?_
    refine wx_namM (fun M_294 q_294 => ?_)
    replace h := nm_at h q_294
    refine wx_iinc (lv' := [(7, _), (0, _), (2, _), (3, _), (4, _), (6, _)]) dX12_trim_295 rfl (i_1 _) (by decide) rfl ?_
    refine wx_goto (tgt := 275) dX12_trim_298 (by decide) ?_
    obtain rfl := Option.some.inj h
    replace g := sE_l g
    exact wx_sub g (px_s rfl (px_s rfl (px_s rfl (px_s rfl (px_s rfl (px_s rfl px_0))))))
theorem s_X12_trim_275 {x2 : Int32} {a3 : Nat} {a4 : Nat} {x6 : Int32} {x7 : Int32} {M : px_M} {L : px_L} {R : px_R} {e : (px_M)} (hS : SR sh R) (hd : 4 ≤ d) (hcu : cu ≤ mc) (hsu : su ≤ ms) (hn : 220 ≤ n) (h : lpf (fun a : Int32 × px_M => f_X12_trim_275 sh a.2 L R n x2 a3 a4 x6 a.1) (x7, M) = some e) (g : WX RX12 cX12_trim 12 (some .int) ("trim", []) d mc ms X (px_QF Post mc ms) 301 [(0, .ref 73), (2, .int x2), (4, .ref a4), (6, .int x6)] [] sh e L R n cu su) : WX RX12 cX12_trim 12 (some .int) ("trim", []) d mc ms X (px_QF Post mc ms) 275 [(0, .ref 73), (2, .int x2), (3, .ref a3), (4, .ref a4), (6, .int x6), (7, .int x7)] [] sh M L R n cu su := by
  have key := lpf_wp (P := (fun a => WX RX12 cX12_trim 12 (some .int) ("trim", []) d mc ms X (px_QF Post mc ms) 275 [(0, .ref 73), (2, .int x2), (3, .ref a3), (4, .ref a4), (6, .int x6), (7, .int a.1)] [] sh (a.2) L R n cu su)) (G := (fun t => WX RX12 cX12_trim 12 (some .int) ("trim", []) d mc ms X (px_QF Post mc ms) 301 [(0, .ref 73), (2, .int x2), (4, .ref a4), (6, .int x6)] [] sh t L R n cu su)) (fun a r h g => s_X12_trim_275b (x2 := x2) (a3 := a3) (a4 := a4) (x6 := x6) (x7 := a.1) (M := a.2) (L := L) (R := R) hS hd hcu hsu hn h g) (a := (x7, M)) h g
  exact key
noncomputable def f_X12_trim_266 (sh : px_Sh) (M : px_M) (L : px_L) (R : px_R) (n : Nat) (x1 : Int32) (x2 : Int32) (a3 : Nat) (a4 : Nat) (x5 : Int32) (x6 : Int32) (x7 : Int32) : Option ((Int32 × Int32 × px_M) ⊕ (Int32 × px_M)) :=
  some (.inl (x6, (x7 + 1), M))
theorem s_X12_trim_266 {x1 : Int32} {x2 : Int32} {a3 : Nat} {a4 : Nat} {x5 : Int32} {x6 : Int32} {x7 : Int32} {M : px_M} {L : px_L} {R : px_R} {e : ((Int32 × Int32 × px_M) ⊕ (Int32 × px_M))} (hS : SR sh R) (hd : 4 ≤ d) (hcu : cu ≤ mc) (hsu : su ≤ ms) (hn : 220 ≤ n) (h : f_X12_trim_266 sh M L R n x1 x2 a3 a4 x5 x6 x7 = some e) (g : (sE (fun a => WX RX12 cX12_trim 12 (some .int) ("trim", []) d mc ms X (px_QF Post mc ms) 93 [(0, .ref 73), (1, .int x1), (2, .int x2), (3, .ref a3), (4, .ref a4), (5, .int x5), (6, .int a.1), (7, .int a.2.1)] [] sh (a.2.2) L R n cu su) (fun t => WX RX12 cX12_trim 12 (some .int) ("trim", []) d mc ms X (px_QF Post mc ms) 272 [(0, .ref 73), (2, .int x2), (3, .ref a3), (4, .ref a4), (6, .int t.1)] [] sh (t.2) L R n cu su)) e) : WX RX12 cX12_trim 12 (some .int) ("trim", []) d mc ms X (px_QF Post mc ms) 266 [(0, .ref 73), (1, .int x1), (2, .int x2), (3, .ref a3), (4, .ref a4), (5, .int x5), (6, .int x6), (7, .int x7)] [] sh M L R n cu su := by
  unfold f_X12_trim_266 at h
  refine wx_iinc (lv' := [(7, _), (0, _), (1, _), (2, _), (3, _), (4, _), (5, _), (6, _)]) dX12_trim_266 rfl (i_1 _) (by decide) rfl ?_
  refine wx_goto (tgt := 93) dX12_trim_269 (by decide) ?_
  obtain rfl := Option.some.inj h
  replace g := sE_l g
  exact wx_sub g (px_s rfl (px_s rfl (px_s rfl (px_s rfl (px_s rfl (px_s rfl (px_s rfl (px_s rfl px_0))))))))
noncomputable def f_X12_trim_232 (sh : px_Sh) (M : px_M) (L : px_L) (R : px_R) (n : Nat) (x1 : Int32) (x2 : Int32) (a3 : Nat) (a4 : Nat) (x5 : Int32) (x7 : Int32) (x10 : Int32) : Option ((Int32 × Int32 × px_M) ⊕ (Int32 × px_M)) :=
  bd1 (lpf (fun a : Int32 × px_M => f_X12_trim_239 sh a.2 L R n x1 x2 a3 a4 x5 x10 x7 a.1) (0, M)) fun e_239 =>
  f_X12_trim_266 sh e_239 L R n x1 x2 a3 a4 x5 x10 x7
theorem s_X12_trim_232 {x1 : Int32} {x2 : Int32} {a3 : Nat} {a4 : Nat} {x5 : Int32} {x7 : Int32} {x10 : Int32} {M : px_M} {L : px_L} {R : px_R} {e : ((Int32 × Int32 × px_M) ⊕ (Int32 × px_M))} (hS : SR sh R) (hd : 4 ≤ d) (hcu : cu ≤ mc) (hsu : su ≤ ms) (hn : 220 ≤ n) (h : f_X12_trim_232 sh M L R n x1 x2 a3 a4 x5 x7 x10 = some e) (g : (sE (fun a => WX RX12 cX12_trim 12 (some .int) ("trim", []) d mc ms X (px_QF Post mc ms) 93 [(0, .ref 73), (1, .int x1), (2, .int x2), (3, .ref a3), (4, .ref a4), (5, .int x5), (6, .int a.1), (7, .int a.2.1)] [] sh (a.2.2) L R n cu su) (fun t => WX RX12 cX12_trim 12 (some .int) ("trim", []) d mc ms X (px_QF Post mc ms) 272 [(0, .ref 73), (2, .int x2), (3, .ref a3), (4, .ref a4), (6, .int t.1)] [] sh (t.2) L R n cu su)) e) : WX RX12 cX12_trim 12 (some .int) ("trim", []) d mc ms X (px_QF Post mc ms) 232 [(0, .ref 73), (1, .int x1), (2, .int x2), (3, .ref a3), (4, .ref a4), (5, .int x5), (7, .int x7), (10, .int x10)] [] sh M L R n cu su := by
  unfold f_X12_trim_232 at h
  refine wx_iload dX12_trim_232 rfl ?_
  refine wx_istore (lv' := [(6, _), (0, _), (1, _), (2, _), (3, _), (4, _), (5, _), (7, _), (10, _)]) dX12_trim_234 (by decide) rfl ?_
  refine wx_iconst (v := 0) dX12_trim_236 (by decide) ?_
  refine wx_istore (lv' := [(11, _), (6, _), (0, _), (1, _), (2, _), (3, _), (4, _), (5, _), (7, _), (10, _)]) dX12_trim_237 (by decide) rfl ?_
  obtain ⟨e_239, k_239, h⟩ := bd1_some h
  refine wx_sub (s_X12_trim_239 hS hd (show cu + 0 ≤ mc by omega) (show su + 0 ≤ ms by omega) hn k_239 ?_) (px_s rfl (px_s rfl (px_s rfl (px_s rfl (px_s rfl (px_s rfl (px_s rfl (px_s rfl (px_s rfl px_0)))))))))
  exact wx_sub (s_X12_trim_266 hS hd (show cu + 0 ≤ mc by omega) (show su + 0 ≤ ms by omega) hn h g) (px_s rfl (px_s rfl (px_s rfl (px_s rfl (px_s rfl (px_s rfl (px_s rfl (px_s rfl px_0))))))))
noncomputable def f_X12_trim_209 (sh : px_Sh) (M : px_M) (L : px_L) (R : px_R) (n : Nat) (x1 : Int32) (x2 : Int32) (a3 : Nat) (a4 : Nat) (x5 : Int32) (x6 : Int32) (x7 : Int32) (x9 : Int32) (z0 : Int32) : Option ((Int32 × Int32 × px_M) ⊕ (Int32 × px_M)) :=
  if x9 = 0 then
    f_X12_trim_266 sh M L R n x1 x2 a3 a4 x5 x6 x7
  else
    if x6 = (-1) then
      f_X12_trim_232 sh M L R n x1 x2 a3 a4 x5 x7 z0
    else
      if z0 < x6 then
        f_X12_trim_232 sh M L R n x1 x2 a3 a4 x5 x7 z0
      else
        f_X12_trim_266 sh M L R n x1 x2 a3 a4 x5 x6 x7
theorem s_X12_trim_209 {x1 : Int32} {x2 : Int32} {a3 : Nat} {a4 : Nat} {x5 : Int32} {x6 : Int32} {x7 : Int32} {x9 : Int32} {z0 : Int32} {M : px_M} {L : px_L} {R : px_R} {e : ((Int32 × Int32 × px_M) ⊕ (Int32 × px_M))} (hS : SR sh R) (hd : 4 ≤ d) (hcu : cu ≤ mc) (hsu : su ≤ ms) (hn : 220 ≤ n) (h : f_X12_trim_209 sh M L R n x1 x2 a3 a4 x5 x6 x7 x9 z0 = some e) (g : (sE (fun a => WX RX12 cX12_trim 12 (some .int) ("trim", []) d mc ms X (px_QF Post mc ms) 93 [(0, .ref 73), (1, .int x1), (2, .int x2), (3, .ref a3), (4, .ref a4), (5, .int x5), (6, .int a.1), (7, .int a.2.1)] [] sh (a.2.2) L R n cu su) (fun t => WX RX12 cX12_trim 12 (some .int) ("trim", []) d mc ms X (px_QF Post mc ms) 272 [(0, .ref 73), (2, .int x2), (3, .ref a3), (4, .ref a4), (6, .int t.1)] [] sh (t.2) L R n cu su)) e) : WX RX12 cX12_trim 12 (some .int) ("trim", []) d mc ms X (px_QF Post mc ms) 209 [(0, .ref 73), (1, .int x1), (2, .int x2), (3, .ref a3), (4, .ref a4), (5, .int x5), (6, .int x6), (7, .int x7), (9, .int x9)] [.int z0] sh M L R n cu su := by
  unfold f_X12_trim_209 at h
  refine wx_istore (lv' := [(10, _), (0, _), (1, _), (2, _), (3, _), (4, _), (5, _), (6, _), (7, _), (9, _)]) dX12_trim_209 (by decide) rfl ?_
  refine wx_iload dX12_trim_211 rfl ?_
  refine wx_if_eq (tgt := 266) dX12_trim_213 (by decide) (fun c_213 => ?_) (fun c_213 => ?_)
  · replace h := it_t h c_213
    exact wx_sub (s_X12_trim_266 hS hd (show cu + 0 ≤ mc by omega) (show su + 0 ≤ ms by omega) hn h g) (px_s rfl (px_s rfl (px_s rfl (px_s rfl (px_s rfl (px_s rfl (px_s rfl (px_s rfl px_0))))))))
  · replace h := it_f h c_213
    refine wx_iload dX12_trim_216 rfl ?_
    refine wx_iconst (v := (-1)) dX12_trim_218 (by decide) ?_
    refine wx_icmp_eq (tgt := 232) dX12_trim_219 (by decide) (fun c_219 => ?_) (fun c_219 => ?_)
    · replace h := it_t h c_219
      exact wx_sub (s_X12_trim_232 hS hd (show cu + 0 ≤ mc by omega) (show su + 0 ≤ ms by omega) hn h g) (px_s rfl (px_s rfl (px_s rfl (px_s rfl (px_s rfl (px_s rfl (px_s rfl (px_s rfl px_0))))))))
    · replace h := it_f h c_219
      refine wx_iload dX12_trim_222 rfl ?_
      refine wx_iload dX12_trim_224 rfl ?_
      refine wx_icmp_lt (tgt := 232) dX12_trim_226 (by decide) (fun c_226 => ?_) (fun c_226 => ?_)
      · replace h := it_t h c_226
        exact wx_sub (s_X12_trim_232 hS hd (show cu + 0 ≤ mc by omega) (show su + 0 ≤ ms by omega) hn h g) (px_s rfl (px_s rfl (px_s rfl (px_s rfl (px_s rfl (px_s rfl (px_s rfl (px_s rfl px_0))))))))
      · replace h := it_f h c_226
        refine wx_goto (tgt := 266) dX12_trim_229 (by decide) ?_
        exact wx_sub (s_X12_trim_266 hS hd (show cu + 0 ≤ mc by omega) (show su + 0 ≤ ms by omega) hn h g) (px_s rfl (px_s rfl (px_s rfl (px_s rfl (px_s rfl (px_s rfl (px_s rfl (px_s rfl px_0))))))))
noncomputable def f_X12_trim_93 (sh : px_Sh) (M : px_M) (L : px_L) (R : px_R) (n : Nat) (x1 : Int32) (x2 : Int32) (a3 : Nat) (a4 : Nat) (x5 : Int32) (x6 : Int32) (x7 : Int32) : Option ((Int32 × Int32 × px_M) ⊕ (Int32 × px_M)) :=
  if x5 ≤ x7 then
    some (.inr (x6, M))
  else
    nm ((M 73 10) - 1) fun v_113 =>
    bd1 (lpf (fun a : Int32 × Int32 × Int32 × px_M => f_X12_trim_115 sh a.2.2.2 L R n x1 x2 a3 a4 x5 x6 x7 a.1 a.2.1 a.2.2.1) (x7, 1, v_113, M)) fun e_115 =>
    if e_115.1 = 0 then
      f_X12_trim_209 sh e_115.2 L R n x1 x2 a3 a4 x5 x6 x7 e_115.1 0
    else
      bd1 (f_X12_turned e_115.2 x1 0) fun e_189 =>
      bd1 (f_X12_amount e_189) fun e_192 =>
      bd1 (f_X12_turned e_115.2 x1 1) fun e_198 =>
      bd1 (f_X12_amount e_198) fun e_201 =>
      f_X12_trim_209 sh e_115.2 L R n x1 x2 a3 a4 x5 x6 x7 e_115.1 (e_192 + e_201)
theorem s_X12_trim_93b {x1 : Int32} {x2 : Int32} {a3 : Nat} {a4 : Nat} {x5 : Int32} {x6 : Int32} {x7 : Int32} {M : px_M} {L : px_L} {R : px_R} {e : ((Int32 × Int32 × px_M) ⊕ (Int32 × px_M))} (hS : SR sh R) (hd : 4 ≤ d) (hcu : cu ≤ mc) (hsu : su ≤ ms) (hn : 220 ≤ n) (h : f_X12_trim_93 sh M L R n x1 x2 a3 a4 x5 x6 x7 = some e) (g : (sE (fun a => WX RX12 cX12_trim 12 (some .int) ("trim", []) d mc ms X (px_QF Post mc ms) 93 [(0, .ref 73), (1, .int x1), (2, .int x2), (3, .ref a3), (4, .ref a4), (5, .int x5), (6, .int a.1), (7, .int a.2.1)] [] sh (a.2.2) L R n cu su) (fun t => WX RX12 cX12_trim 12 (some .int) ("trim", []) d mc ms X (px_QF Post mc ms) 272 [(0, .ref 73), (2, .int x2), (3, .ref a3), (4, .ref a4), (6, .int t.1)] [] sh (t.2) L R n cu su)) e) : WX RX12 cX12_trim 12 (some .int) ("trim", []) d mc ms X (px_QF Post mc ms) 93 [(0, .ref 73), (1, .int x1), (2, .int x2), (3, .ref a3), (4, .ref a4), (5, .int x5), (6, .int x6), (7, .int x7)] [] sh M L R n cu su := by
  unfold f_X12_trim_93 at h
  refine wx_iload dX12_trim_93 rfl ?_
  refine wx_iload dX12_trim_95 rfl ?_
  refine wx_icmp_ge (tgt := 272) dX12_trim_97 (by decide) (fun c_97 => ?_) (fun c_97 => ?_)
  · replace h := it_t h c_97
    obtain rfl := Option.some.inj h
    replace g := sE_r g
    exact wx_sub g (px_s rfl (px_s rfl (px_s rfl (px_s rfl (px_s rfl px_0)))))
  · replace h := it_f h c_97
    refine wx_iload dX12_trim_100 rfl ?_
    refine wx_istore (lv' := [(8, _), (0, _), (1, _), (2, _), (3, _), (4, _), (5, _), (6, _), (7, _)]) dX12_trim_102 (by decide) rfl ?_
    refine wx_iconst (v := 1) dX12_trim_104 (by decide) ?_
    refine wx_istore (lv' := [(9, _), (8, _), (0, _), (1, _), (2, _), (3, _), (4, _), (5, _), (6, _), (7, _)]) dX12_trim_105 (by decide) rfl ?_
    refine wx_aload_n dX12_trim_107 rfl ?_
    refine wx_getI dX12_trim_108 fl_X12_225 (sc_73 hS) rfl ?_
    refine wx_iconst (v := 1) dX12_trim_111 (by decide) ?_
    refine wx_isub dX12_trim_112 ?_
    refine wx_nami (fun v_113 q_113 => ?_)
    replace h := nm_at h q_113
    refine wx_istore (lv' := [(10, _), (9, _), (8, _), (0, _), (1, _), (2, _), (3, _), (4, _), (5, _), (6, _), (7, _)]) dX12_trim_113 (by decide) rfl ?_
    obtain ⟨e_115, k_115, h⟩ := bd1_some h
    refine wx_sub (s_X12_trim_115 hS hd (show cu + 0 ≤ mc by omega) (show su + 0 ≤ ms by omega) hn k_115 ?_) (px_s rfl (px_s rfl (px_s rfl (px_s rfl (px_s rfl (px_s rfl (px_s rfl (px_s rfl (px_s rfl (px_s rfl (px_s rfl px_0)))))))))))
    refine wx_iload dX12_trim_181 rfl ?_
    refine wx_if_eq (tgt := 208) dX12_trim_183 (by decide) (fun c_183 => ?_) (fun c_183 => ?_)
    · replace h := it_t h c_183
      refine wx_iconst (v := 0) dX12_trim_208 (by decide) ?_
      exact wx_sub (s_X12_trim_209 hS hd (show cu + 0 ≤ mc by omega) (show su + 0 ≤ ms by omega) hn h g) (px_s rfl (px_s rfl (px_s rfl (px_s rfl (px_s rfl (px_s rfl (px_s rfl (px_s rfl (px_s rfl px_0)))))))))
    · replace h := it_f h c_183
      refine wx_aload_n dX12_trim_186 rfl ?_
      refine wx_iload_n dX12_trim_187 rfl ?_
      refine wx_iconst (v := 0) dX12_trim_188 (by decide) ?_
      obtain ⟨e_189, k_189, h⟩ := bd1_some h
      refine wx_cVi dX12_trim_189 ml_X12_286 my_X12_turned iv_X12_turned (sc_73 hS) (by decide) (s_X12_turned (d := d - 1) hS (by omega) k_189) rfl (by omega) (by exact Nat.le_of_ble_eq_true rfl) (show cu + 0 ≤ mc by omega) (show su + 0 ≤ ms by omega) ?_
      obtain ⟨e_192, k_192, h⟩ := bd1_some h
      refine wx_cSi dX12_trim_192 ml_X12_237 my_X12_amount sv_X12_amount (s_X12_amount (d := d - 1) hS (by omega) k_192) rfl (by omega) (by exact Nat.le_of_ble_eq_true rfl) (show cu + 0 ≤ mc by omega) (show su + 0 ≤ ms by omega) ?_
      refine wx_aload_n dX12_trim_195 rfl ?_
      refine wx_iload_n dX12_trim_196 rfl ?_
      refine wx_iconst (v := 1) dX12_trim_197 (by decide) ?_
      obtain ⟨e_198, k_198, h⟩ := bd1_some h
      refine wx_cVi dX12_trim_198 ml_X12_286 my_X12_turned iv_X12_turned (sc_73 hS) (by decide) (s_X12_turned (d := d - 1) hS (by omega) k_198) rfl (by omega) (by exact Nat.le_of_ble_eq_true rfl) (show cu + 0 ≤ mc by omega) (show su + 0 ≤ ms by omega) ?_
      obtain ⟨e_201, k_201, h⟩ := bd1_some h
      refine wx_cSi dX12_trim_201 ml_X12_237 my_X12_amount sv_X12_amount (s_X12_amount (d := d - 1) hS (by omega) k_201) rfl (by omega) (by exact Nat.le_of_ble_eq_true rfl) (show cu + 0 ≤ mc by omega) (show su + 0 ≤ ms by omega) ?_
      refine wx_iadd dX12_trim_204 ?_
      refine wx_goto (tgt := 209) dX12_trim_205 (by decide) ?_
      exact wx_sub (s_X12_trim_209 hS hd (show cu + 0 ≤ mc by omega) (show su + 0 ≤ ms by omega) hn h g) (px_s rfl (px_s rfl (px_s rfl (px_s rfl (px_s rfl (px_s rfl (px_s rfl (px_s rfl (px_s rfl px_0)))))))))
theorem s_X12_trim_93 {x1 : Int32} {x2 : Int32} {a3 : Nat} {a4 : Nat} {x5 : Int32} {x6 : Int32} {x7 : Int32} {M : px_M} {L : px_L} {R : px_R} {e : (Int32 × px_M)} (hS : SR sh R) (hd : 4 ≤ d) (hcu : cu ≤ mc) (hsu : su ≤ ms) (hn : 220 ≤ n) (h : lpf (fun a : Int32 × Int32 × px_M => f_X12_trim_93 sh a.2.2 L R n x1 x2 a3 a4 x5 a.1 a.2.1) (x6, x7, M) = some e) (g : WX RX12 cX12_trim 12 (some .int) ("trim", []) d mc ms X (px_QF Post mc ms) 272 [(0, .ref 73), (2, .int x2), (3, .ref a3), (4, .ref a4), (6, .int e.1)] [] sh (e.2) L R n cu su) : WX RX12 cX12_trim 12 (some .int) ("trim", []) d mc ms X (px_QF Post mc ms) 93 [(0, .ref 73), (1, .int x1), (2, .int x2), (3, .ref a3), (4, .ref a4), (5, .int x5), (6, .int x6), (7, .int x7)] [] sh M L R n cu su := by
  have key := lpf_wp (P := (fun a => WX RX12 cX12_trim 12 (some .int) ("trim", []) d mc ms X (px_QF Post mc ms) 93 [(0, .ref 73), (1, .int x1), (2, .int x2), (3, .ref a3), (4, .ref a4), (5, .int x5), (6, .int a.1), (7, .int a.2.1)] [] sh (a.2.2) L R n cu su)) (G := (fun t => WX RX12 cX12_trim 12 (some .int) ("trim", []) d mc ms X (px_QF Post mc ms) 272 [(0, .ref 73), (2, .int x2), (3, .ref a3), (4, .ref a4), (6, .int t.1)] [] sh (t.2) L R n cu su)) (fun a r h g => s_X12_trim_93b (x1 := x1) (x2 := x2) (a3 := a3) (a4 := a4) (x5 := x5) (x6 := a.1) (x7 := a.2.1) (M := a.2.2) (L := L) (R := R) hS hd hcu hsu hn h g) (a := (x6, x7, M)) h g
  exact key
noncomputable def f_X12_trim_58 (sh : px_Sh) (M : px_M) (L : px_L) (R : px_R) (n : Nat) (x1 : Int32) (x2 : Int32) (a3 : Nat) (a4 : Nat) (x5 : Int32) (x6 : Int32) (x7 : Int32) : Option ((Int32 × Int32 × px_M) ⊕ (Int32 × px_M)) :=
  if (M 73 10) ≤ x7 then
    some (.inr (x5, M))
  else
    ok (ix x7 4) <|
    nm (M 88 x7.toNatClampNeg) fun v_77 =>
    ok (xk sh a3 13 x7) <|
    nm (px_u M a3 x7.toNatClampNeg v_77) fun M_77 =>
    nm (x5 * 5) fun v_82 =>
    some (.inl (v_82, (x7 + 1), M_77))
theorem s_X12_trim_58b {x1 : Int32} {x2 : Int32} {a3 : Nat} {a4 : Nat} {x5 : Int32} {x6 : Int32} {x7 : Int32} {M : px_M} {L : px_L} {R : px_R} {e : ((Int32 × Int32 × px_M) ⊕ (Int32 × px_M))} (hS : SR sh R) (hd : 4 ≤ d) (hcu : cu ≤ mc) (hsu : su ≤ ms) (hn : 220 ≤ n) (h : f_X12_trim_58 sh M L R n x1 x2 a3 a4 x5 x6 x7 = some e) (g : (sE (fun a => WX RX12 cX12_trim 12 (some .int) ("trim", []) d mc ms X (px_QF Post mc ms) 58 [(0, .ref 73), (1, .int x1), (2, .int x2), (3, .ref a3), (4, .ref a4), (5, .int a.1), (6, .int x6), (7, .int a.2.1)] [] sh (a.2.2) L R n cu su) (fun t => WX RX12 cX12_trim 12 (some .int) ("trim", []) d mc ms X (px_QF Post mc ms) 90 [(0, .ref 73), (1, .int x1), (2, .int x2), (3, .ref a3), (4, .ref a4), (5, .int t.1), (6, .int x6)] [] sh (t.2) L R n cu su)) e) : WX RX12 cX12_trim 12 (some .int) ("trim", []) d mc ms X (px_QF Post mc ms) 58 [(0, .ref 73), (1, .int x1), (2, .int x2), (3, .ref a3), (4, .ref a4), (5, .int x5), (6, .int x6), (7, .int x7)] [] sh M L R n cu su := by
  unfold f_X12_trim_58 at h
  refine wx_iload dX12_trim_58 rfl ?_
  refine wx_aload_n dX12_trim_60 rfl ?_
  refine wx_getI dX12_trim_61 fl_X12_225 (sc_73 hS) rfl ?_
  refine wx_icmp_ge (tgt := 90) dX12_trim_64 (by decide) (fun c_64 => ?_) (fun c_64 => ?_)
  · replace h := it_t h c_64
    obtain rfl := Option.some.inj h
    replace g := sE_r g
    exact wx_sub g (px_s rfl (px_s rfl (px_s rfl (px_s rfl (px_s rfl (px_s rfl (px_s rfl px_0)))))))
  · replace h := it_f h c_64
    refine wx_aload_n dX12_trim_67 rfl ?_
    refine wx_iload dX12_trim_68 rfl ?_
    refine wx_aload_n dX12_trim_70 rfl ?_
    refine wx_getR dX12_trim_71 fl_X12_53 (sc_73 hS) rfl (rr_73_22 hS) ?_
    refine wx_iload dX12_trim_74 rfl ?_
    obtain ⟨w_76, h⟩ := ok_some h
    refine wx_iald dX12_trim_76 (sc_88 hS) (ix_in w_76) ?_
    refine wx_nami (fun v_77 q_77 => ?_)
    replace h := nm_at h q_77
    obtain ⟨w_77, h⟩ := ok_some h
    obtain ⟨ln_77, wt_77, wi_77⟩ := xk_some w_77
    refine wx_iast dX12_trim_77 wt_77 wi_77 ?_
    refine wx_namM (fun M_77 q_77 => ?_)
    replace h := nm_at h q_77
    refine wx_iload dX12_trim_78 rfl ?_
    refine wx_iconst (v := 5) dX12_trim_80 (by decide) ?_
    refine wx_imul dX12_trim_81 ?_
    refine wx_nami (fun v_82 q_82 => ?_)
    replace h := nm_at h q_82
    refine wx_istore (lv' := [(5, _), (0, _), (1, _), (2, _), (3, _), (4, _), (6, _), (7, _)]) dX12_trim_82 (by decide) rfl ?_
    refine wx_iinc (lv' := [(7, _), (5, _), (0, _), (1, _), (2, _), (3, _), (4, _), (6, _)]) dX12_trim_84 rfl (i_1 _) (by decide) rfl ?_
    refine wx_goto (tgt := 58) dX12_trim_87 (by decide) ?_
    obtain rfl := Option.some.inj h
    replace g := sE_l g
    exact wx_sub g (px_s rfl (px_s rfl (px_s rfl (px_s rfl (px_s rfl (px_s rfl (px_s rfl (px_s rfl px_0))))))))
theorem s_X12_trim_58 {x1 : Int32} {x2 : Int32} {a3 : Nat} {a4 : Nat} {x5 : Int32} {x6 : Int32} {x7 : Int32} {M : px_M} {L : px_L} {R : px_R} {e : (Int32 × px_M)} (hS : SR sh R) (hd : 4 ≤ d) (hcu : cu ≤ mc) (hsu : su ≤ ms) (hn : 220 ≤ n) (h : lpf (fun a : Int32 × Int32 × px_M => f_X12_trim_58 sh a.2.2 L R n x1 x2 a3 a4 a.1 x6 a.2.1) (x5, x7, M) = some e) (g : WX RX12 cX12_trim 12 (some .int) ("trim", []) d mc ms X (px_QF Post mc ms) 90 [(0, .ref 73), (1, .int x1), (2, .int x2), (3, .ref a3), (4, .ref a4), (5, .int e.1), (6, .int x6)] [] sh (e.2) L R n cu su) : WX RX12 cX12_trim 12 (some .int) ("trim", []) d mc ms X (px_QF Post mc ms) 58 [(0, .ref 73), (1, .int x1), (2, .int x2), (3, .ref a3), (4, .ref a4), (5, .int x5), (6, .int x6), (7, .int x7)] [] sh M L R n cu su := by
  have key := lpf_wp (P := (fun a => WX RX12 cX12_trim 12 (some .int) ("trim", []) d mc ms X (px_QF Post mc ms) 58 [(0, .ref 73), (1, .int x1), (2, .int x2), (3, .ref a3), (4, .ref a4), (5, .int a.1), (6, .int x6), (7, .int a.2.1)] [] sh (a.2.2) L R n cu su)) (G := (fun t => WX RX12 cX12_trim 12 (some .int) ("trim", []) d mc ms X (px_QF Post mc ms) 90 [(0, .ref 73), (1, .int x1), (2, .int x2), (3, .ref a3), (4, .ref a4), (5, .int t.1), (6, .int x6)] [] sh (t.2) L R n cu su)) (fun a r h g => s_X12_trim_58b (x1 := x1) (x2 := x2) (a3 := a3) (a4 := a4) (x5 := a.1) (x6 := x6) (x7 := a.2.1) (M := a.2.2) (L := L) (R := R) hS hd hcu hsu hn h g) (a := (x5, x7, M)) h g
  exact key
noncomputable def f_X12_trim_328 (sh : px_Sh) (M : px_M) (L : px_L) (R : px_R) (n : Nat) (z0 : Int32) : Option (Int32 × px_Sh × px_M × px_L × px_R × Nat) :=
  some (z0, sh, M, L, R, n)
theorem s_X12_trim_328 {z0 : Int32} {M : px_M} {L : px_L} {R : px_R} {e : (Int32 × px_Sh × px_M × px_L × px_R × Nat)} (hS : SR sh R) (hd : 4 ≤ d) (hcu : cu ≤ mc) (hsu : su ≤ ms) (hn : 220 ≤ n) (h : f_X12_trim_328 sh M L R n z0 = some e) (g : SR (e.2.1) (e.2.2.2.2.1) → 220 ≤ (e.2.2.2.2.2) → Post (some (.int (e.1))) (e.2.1) (e.2.2.1) (e.2.2.2.1) (e.2.2.2.2.1) (e.2.2.2.2.2)) : WX RX12 cX12_trim 12 (some .int) ("trim", []) d mc ms X (px_QF Post mc ms) 328 [] [.int z0] sh M L R n cu su := by
  unfold f_X12_trim_328 at h
  refine wx_iret dX12_trim_328 (show cu + 0 ≤ mc by omega) (show su + 0 ≤ ms by omega) ?_
  obtain rfl := Option.some.inj h
  exact g hS hn
noncomputable def f_X12_trim_31 (sh : px_Sh) (M : px_M) (L : px_L) (R : px_R) (n : Nat) (x1 : Int32) (x2 : Int32) (z0 : Int32) : Option (Int32 × px_Sh × px_M × px_L × px_R × Nat) :=
  bd1 (f_X12_bad M z0 1) fun e_32 =>
  if e_32.1 = 0 then
    nm (px_c sh n (some (13, 4))) fun sh_41 =>
    nm (px_c e_32.2 n (fun _ => 0)) fun M_41 =>
    nm (px_c L n (fun _ => 0)) fun L_41 =>
    nm (px_c R n (fun _ => none)) fun R_41 =>
    nm (px_c sh_41 (n + 1) (some (13, 4))) fun sh_45 =>
    nm (px_c M_41 (n + 1) (fun _ => 0)) fun M_45 =>
    nm (px_c L_41 (n + 1) (fun _ => 0)) fun L_45 =>
    nm (px_c R_41 (n + 1) (fun _ => none)) fun R_45 =>
    bd1 (lpf (fun a : Int32 × Int32 × px_M => f_X12_trim_58 sh_45 a.2.2 L_45 R_45 ((n + 1) + 1) x1 x2 n (n + 1) a.1 (-1) a.2.1) (1, 0, M_45)) fun e_58 =>
    bd1 (lpf (fun a : Int32 × Int32 × px_M => f_X12_trim_93 sh_45 a.2.2 L_45 R_45 ((n + 1) + 1) x1 x2 n (n + 1) e_58.1 a.1 a.2.1) ((-1), 0, e_58.2)) fun e_93 =>
    bd1 (lpf (fun a : Int32 × px_M => f_X12_trim_275 sh_45 a.2 L_45 R_45 ((n + 1) + 1) x2 n (n + 1) e_93.1 a.1) (0, e_93.2)) fun e_275 =>
    if x2 = (-1) then
      f_X12_trim_328 sh_45 e_275 L_45 R_45 ((n + 1) + 1) e_93.1
    else
      if (e_275 73 10) ≤ x2 then
        f_X12_trim_328 sh_45 e_275 L_45 R_45 ((n + 1) + 1) (-3)
      else
        ok (xk sh_45 (n + 1) 13 x2) <|
        f_X12_trim_328 sh_45 e_275 L_45 R_45 ((n + 1) + 1) (e_275 (n + 1) x2.toNatClampNeg)
  else
    some (0, sh, e_32.2, L, R, n)
theorem s_X12_trim_31 {x1 : Int32} {x2 : Int32} {z0 : Int32} {M : px_M} {L : px_L} {R : px_R} {e : (Int32 × px_Sh × px_M × px_L × px_R × Nat)} (hS : SR sh R) (hd : 4 ≤ d) (hcu : cu + 2 ≤ mc) (hsu : su + 8 ≤ ms) (hn : 220 ≤ n) (h : f_X12_trim_31 sh M L R n x1 x2 z0 = some e) (g : SR (e.2.1) (e.2.2.2.2.1) → 220 ≤ (e.2.2.2.2.2) → Post (some (.int (e.1))) (e.2.1) (e.2.2.1) (e.2.2.2.1) (e.2.2.2.2.1) (e.2.2.2.2.2)) : WX RX12 cX12_trim 12 (some .int) ("trim", []) d mc ms X (px_QF Post mc ms) 31 [(0, .ref 73), (1, .int x1), (2, .int x2)] [.int z0, .ref 73] sh M L R n cu su := by
  unfold f_X12_trim_31 at h
  refine wx_iconst (v := 1) dX12_trim_31 (by decide) ?_
  obtain ⟨e_32, k_32, h⟩ := bd1_some h
  refine wx_cVi dX12_trim_32 ml_X12_207 my_X12_bad iv_X12_bad (sc_73 hS) (by decide) (s_X12_bad (d := d - 1) hS (by omega) k_32) rfl (by omega) (by exact Nat.le_of_ble_eq_true rfl) (show cu + 0 ≤ mc by omega) (show su + 0 ≤ ms by omega) ?_
  refine wx_if_eq (tgt := 40) dX12_trim_35 (by decide) (fun c_35 => ?_) (fun c_35 => ?_)
  · replace h := it_t h c_35
    refine wx_iconst (v := 4) dX12_trim_40 (by decide) ?_
    refine wx_newarr (kd := 13) (N := 4) dX12_trim_41 (by decide) rfl ac_13 (by decide) (by decide) (by decide) (show cu + 1 ≤ mc by omega) (show su + 4 ≤ ms by omega) ?_
    refine wx_namS (fun sh_41 qsh_41 => ?_)
    replace h := nm_at h qsh_41
    refine wx_namM (fun M_41 qM_41 => ?_)
    replace h := nm_at h qM_41
    refine wx_namL (fun L_41 qL_41 => ?_)
    replace h := nm_at h qL_41
    refine wx_namR (fun R_41 qR_41 => ?_)
    replace h := nm_at h qR_41
    replace hS : SR sh_41 R_41 := by rw [qsh_41, qR_41]; exact SR.new hS hn
    replace hn : 220 ≤ n + 1 := Nat.le_succ_of_le hn
    refine wx_astore_n (lv' := [(3, _), (0, _), (1, _), (2, _)]) dX12_trim_43 (by decide) rfl ?_
    refine wx_iconst (v := 4) dX12_trim_44 (by decide) ?_
    refine wx_newarr (kd := 13) (N := 4) dX12_trim_45 (by decide) rfl ac_13 (by decide) (by decide) (by decide) (show cu + 2 ≤ mc by omega) (show su + 8 ≤ ms by omega) ?_
    refine wx_namS (fun sh_45 qsh_45 => ?_)
    replace h := nm_at h qsh_45
    refine wx_namM (fun M_45 qM_45 => ?_)
    replace h := nm_at h qM_45
    refine wx_namL (fun L_45 qL_45 => ?_)
    replace h := nm_at h qL_45
    refine wx_namR (fun R_45 qR_45 => ?_)
    replace h := nm_at h qR_45
    replace hS : SR sh_45 R_45 := by rw [qsh_45, qR_45]; exact SR.new hS hn
    replace hn : 220 ≤ (n + 1) + 1 := Nat.le_succ_of_le hn
    refine wx_astore (lv' := [(4, _), (3, _), (0, _), (1, _), (2, _)]) dX12_trim_47 (by decide) rfl ?_
    refine wx_iconst (v := 1) dX12_trim_49 (by decide) ?_
    refine wx_istore (lv' := [(5, _), (4, _), (3, _), (0, _), (1, _), (2, _)]) dX12_trim_50 (by decide) rfl ?_
    refine wx_iconst (v := (-1)) dX12_trim_52 (by decide) ?_
    refine wx_istore (lv' := [(6, _), (5, _), (4, _), (3, _), (0, _), (1, _), (2, _)]) dX12_trim_53 (by decide) rfl ?_
    refine wx_iconst (v := 0) dX12_trim_55 (by decide) ?_
    refine wx_istore (lv' := [(7, _), (6, _), (5, _), (4, _), (3, _), (0, _), (1, _), (2, _)]) dX12_trim_56 (by decide) rfl ?_
    obtain ⟨e_58, k_58, h⟩ := bd1_some h
    refine wx_sub (s_X12_trim_58 hS hd (show cu + 2 ≤ mc by omega) (show su + 8 ≤ ms by omega) hn k_58 ?_) (px_s rfl (px_s rfl (px_s rfl (px_s rfl (px_s rfl (px_s rfl (px_s rfl (px_s rfl px_0))))))))
    refine wx_iconst (v := 0) dX12_trim_90 (by decide) ?_
    refine wx_istore (lv' := [(7, _), (0, _), (1, _), (2, _), (3, _), (4, _), (5, _), (6, _)]) dX12_trim_91 (by decide) rfl ?_
    obtain ⟨e_93, k_93, h⟩ := bd1_some h
    refine wx_sub (s_X12_trim_93 hS hd (show cu + 2 ≤ mc by omega) (show su + 8 ≤ ms by omega) hn k_93 ?_) (px_s rfl (px_s rfl (px_s rfl (px_s rfl (px_s rfl (px_s rfl (px_s rfl (px_s rfl px_0))))))))
    refine wx_iconst (v := 0) dX12_trim_272 (by decide) ?_
    refine wx_istore (lv' := [(7, _), (0, _), (2, _), (3, _), (4, _), (6, _)]) dX12_trim_273 (by decide) rfl ?_
    obtain ⟨e_275, k_275, h⟩ := bd1_some h
    refine wx_sub (s_X12_trim_275 hS hd (show cu + 2 ≤ mc by omega) (show su + 8 ≤ ms by omega) hn k_275 ?_) (px_s rfl (px_s rfl (px_s rfl (px_s rfl (px_s rfl (px_s rfl px_0))))))
    refine wx_iload_n dX12_trim_301 rfl ?_
    refine wx_iconst (v := (-1)) dX12_trim_302 (by decide) ?_
    refine wx_icmp_ne (tgt := 311) dX12_trim_303 (by decide) (fun c_303 => ?_) (fun c_303 => ?_)
    · replace h := it_f h c_303
      refine wx_iload_n dX12_trim_311 rfl ?_
      refine wx_aload_n dX12_trim_312 rfl ?_
      refine wx_getI dX12_trim_313 fl_X12_225 (sc_73 hS) rfl ?_
      refine wx_icmp_ge (tgt := 326) dX12_trim_316 (by decide) (fun c_316 => ?_) (fun c_316 => ?_)
      · replace h := it_t h c_316
        refine wx_bipush (v := (-3)) dX12_trim_326 (by decide) ?_
        exact wx_sub (s_X12_trim_328 hS hd (show cu + 2 ≤ mc by omega) (show su + 8 ≤ ms by omega) hn h g) px_0
      · replace h := it_f h c_316
        refine wx_aload dX12_trim_319 rfl ?_
        refine wx_iload_n dX12_trim_321 rfl ?_
        obtain ⟨w_322, h⟩ := ok_some h
        obtain ⟨ln_322, wt_322, wi_322⟩ := xk_some w_322
        refine wx_iald dX12_trim_322 wt_322 wi_322 ?_
        refine wx_goto (tgt := 328) dX12_trim_323 (by decide) ?_
        exact wx_sub (s_X12_trim_328 hS hd (show cu + 2 ≤ mc by omega) (show su + 8 ≤ ms by omega) hn h g) px_0
    · replace h := it_t h c_303
      refine wx_iload dX12_trim_306 rfl ?_
      refine wx_goto (tgt := 328) dX12_trim_308 (by decide) ?_
      exact wx_sub (s_X12_trim_328 hS hd (show cu + 2 ≤ mc by omega) (show su + 8 ≤ ms by omega) hn h g) px_0
  · replace h := it_f h c_35
    refine wx_iconst (v := 0) dX12_trim_38 (by decide) ?_
    refine wx_iret dX12_trim_39 (show cu + 0 ≤ mc by omega) (show su + 0 ≤ ms by omega) ?_
    obtain rfl := Option.some.inj h
    exact g hS hn
noncomputable def f_X12_trim_26 (sh : px_Sh) (M : px_M) (L : px_L) (R : px_R) (n : Nat) (x1 : Int32) (x2 : Int32) : Option (Int32 × px_Sh × px_M × px_L × px_R × Nat) :=
  f_X12_trim_31 sh M L R n x1 x2 1
theorem s_X12_trim_26 {x1 : Int32} {x2 : Int32} {M : px_M} {L : px_L} {R : px_R} {e : (Int32 × px_Sh × px_M × px_L × px_R × Nat)} (hS : SR sh R) (hd : 4 ≤ d) (hcu : cu + 2 ≤ mc) (hsu : su + 8 ≤ ms) (hn : 220 ≤ n) (h : f_X12_trim_26 sh M L R n x1 x2 = some e) (g : SR (e.2.1) (e.2.2.2.2.1) → 220 ≤ (e.2.2.2.2.2) → Post (some (.int (e.1))) (e.2.1) (e.2.2.1) (e.2.2.2.1) (e.2.2.2.2.1) (e.2.2.2.2.2)) : WX RX12 cX12_trim 12 (some .int) ("trim", []) d mc ms X (px_QF Post mc ms) 26 [(0, .ref 73), (1, .int x1), (2, .int x2)] [.ref 73] sh M L R n cu su := by
  unfold f_X12_trim_26 at h
  refine wx_iconst (v := 1) dX12_trim_26 (by decide) ?_
  refine wx_goto (tgt := 31) dX12_trim_27 (by decide) ?_
  exact wx_sub (s_X12_trim_31 hS hd (show cu + 2 ≤ mc by omega) (show su + 8 ≤ ms by omega) hn h g) (px_s rfl (px_s rfl (px_s rfl px_0)))
noncomputable def f_X12_trim (sh : px_Sh) (M : px_M) (L : px_L) (R : px_R) (n : Nat) (p1 : Int32) (p2 : Int32) : Option (Int32 × px_Sh × px_M × px_L × px_R × Nat) :=
  nm (px_u M 73 0 0) fun M_2 =>
  bd1 (f_X12_in p1 (-8) 8) fun e_11 =>
  if e_11 = 0 then
    f_X12_trim_26 sh M_2 L R n p1 p2
  else
    bd1 (f_X12_in p2 (-1) 3) fun e_20 =>
    if e_20 = 0 then
      f_X12_trim_26 sh M_2 L R n p1 p2
    else
      f_X12_trim_31 sh M_2 L R n p1 p2 0
theorem s_X12_trim {d : Nat} {X : Nat × (Nat → Int32)} {sh : px_Sh} {M : px_M} {L : px_L} {R : px_R} {n : Nat} {p1 : Int32} {p2 : Int32} {e : Int32 × px_Sh × px_M × px_L × px_R × Nat} (hS : SR sh R) (hd : 4 ≤ d) (hn : 220 ≤ n) (h : f_X12_trim sh M L R n p1 p2 = some e) : MX yX12_trim cX12_trim 12 (some .int) d 2 8 X [.ref 73, .int p1, .int p2] sh M L R n (px_pa (some (.int e.1)) e.2.1 e.2.2.1 e.2.2.2.1 e.2.2.2.2.1 e.2.2.2.2.2) := by
  refine MX.of (by decide +kernel) (by exact Nat.le_of_ble_eq_true rfl) ?_
  have hcu : 0 ≤ 2 := Nat.zero_le _
  have hsu : 0 ≤ 8 := Nat.zero_le _
  have g : SR e.2.1 e.2.2.2.2.1 → 220 ≤ e.2.2.2.2.2 → px_pa (some (.int e.1)) e.2.1 e.2.2.1 e.2.2.2.1 e.2.2.2.2.1 e.2.2.2.2.2 (some (.int e.1)) e.2.1 e.2.2.1 e.2.2.2.1 e.2.2.2.2.1 e.2.2.2.2.2 := fun q q2 => ⟨⟨rfl, rfl, rfl, rfl, rfl, rfl⟩, q, q2⟩
  unfold f_X12_trim at h
  refine wx_aload_n dX12_trim_0 rfl ?_
  refine wx_iconst (v := 0) dX12_trim_1 (by decide) ?_
  refine wx_putI dX12_trim_2 fl_X12_179 (sc_73 hS) (Or.inl rfl) rfl ⟨rfl, rfl⟩ ?_
  refine wx_namM (fun M_2 q_2 => ?_)
  replace h := nm_at h q_2
  refine wx_aload_n dX12_trim_5 rfl ?_
  refine wx_iload_n dX12_trim_6 rfl ?_
  refine wx_bipush (v := (-8)) dX12_trim_7 (by decide) ?_
  refine wx_bipush (v := 8) dX12_trim_9 (by decide) ?_
  obtain ⟨e_11, k_11, h⟩ := bd1_some h
  refine wx_cSi dX12_trim_11 ml_X12_203 my_X12_in sv_X12_in (s_X12_in (d := d - 1) hS (by omega) k_11) rfl (by omega) (by exact Nat.le_of_ble_eq_true rfl) (show 0 + 0 ≤ 2 by omega) (show 0 + 0 ≤ 8 by omega) ?_
  refine wx_if_eq (tgt := 26) dX12_trim_14 (by decide) (fun c_14 => ?_) (fun c_14 => ?_)
  · replace h := it_t h c_14
    exact wx_sub (s_X12_trim_26 hS hd (show 0 + 2 ≤ 2 by omega) (show 0 + 8 ≤ 8 by omega) hn h g) (px_s rfl (px_s rfl (px_s rfl px_0)))
  · replace h := it_f h c_14
    refine wx_iload_n dX12_trim_17 rfl ?_
    refine wx_iconst (v := (-1)) dX12_trim_18 (by decide) ?_
    refine wx_iconst (v := 3) dX12_trim_19 (by decide) ?_
    obtain ⟨e_20, k_20, h⟩ := bd1_some h
    refine wx_cSi dX12_trim_20 ml_X12_203 my_X12_in sv_X12_in (s_X12_in (d := d - 1) hS (by omega) k_20) rfl (by omega) (by exact Nat.le_of_ble_eq_true rfl) (show 0 + 0 ≤ 2 by omega) (show 0 + 0 ≤ 8 by omega) ?_
    refine wx_if_ne (tgt := 30) dX12_trim_23 (by decide) (fun c_23 => ?_) (fun c_23 => ?_)
    · replace h := it_f h c_23
      refine wx_iconst (v := 0) dX12_trim_30 (by decide) ?_
      exact wx_sub (s_X12_trim_31 hS hd (show 0 + 2 ≤ 2 by omega) (show 0 + 8 ≤ 8 by omega) hn h g) (px_s rfl (px_s rfl (px_s rfl px_0)))
    · replace h := it_t h c_23
      exact wx_sub (s_X12_trim_26 hS hd (show 0 + 2 ≤ 2 by omega) (show 0 + 8 ≤ 8 by omega) hn h g) (px_s rfl (px_s rfl (px_s rfl px_0)))
noncomputable def f_X10_chartForN (sh : px_Sh) (M : px_M) (L : px_L) (R : px_R) (n : Nat) (a0 : Nat) (p1 : Int32) : Option (Nat × px_Sh × px_M × px_L × px_R × Nat) :=
  ok (hk sh a0 10) <|
  ok ((R a0 3).isNone) <|
  nm (px_c sh n (some (1, 0))) fun sh_8 =>
  nm (px_c M n (fun _ => 0)) fun M_8 =>
  nm (px_c L n (fun _ => 0)) fun L_8 =>
  nm (px_c R n (fun _ => none)) fun R_8 =>
  ok (hk sh_8 a0 10) <|
  ok (hk sh_8 a0 10) <|
  bd1 (f_X1_init sh_8 M_8 L_8 R_8 (n + 1) n (M_8 a0 0) (M_8 a0 2)) fun e_20 =>
  ok (hk e_20.1 a0 10) <|
  ok (decide (220 ≤ a0)) <|
  nm (px_u e_20.2.2.2.1 a0 3 (some n)) fun R_23 =>
  ok (hk e_20.1 a0 10) <|
  bd1 (R_23 a0 3) fun b_27 =>
  ok (hk e_20.1 b_27 1) <|
  bd1 (f_X1_fitTo e_20.1 e_20.2.1 b_27 p1) fun e_31 =>
  ok (hk e_20.1 a0 10) <|
  bd1 (R_23 a0 3) fun b_35 =>
  some (b_35, e_20.1, e_31, e_20.2.2.1, R_23, e_20.2.2.2.2)
theorem s_X10_chartForN {d : Nat} {X : Nat × (Nat → Int32)} {sh : px_Sh} {M : px_M} {L : px_L} {R : px_R} {n : Nat} {a0 : Nat} {p1 : Int32} {e : Nat × px_Sh × px_M × px_L × px_R × Nat} (hS : SR sh R) (hd : 2 ≤ d) (hn : 220 ≤ n) (h : f_X10_chartForN sh M L R n a0 p1 = some e) : MX yX10_chartFor cX10_chartFor 2 (some (.object "LightSails$Chart")) d 2 20996 X [.ref a0, .int p1] sh M L R n (px_pa (some (.ref e.1)) e.2.1 e.2.2.1 e.2.2.2.1 e.2.2.2.2.1 e.2.2.2.2.2) := by
  refine MX.of (by decide +kernel) (by exact Nat.le_of_ble_eq_true rfl) ?_
  have hcu : 0 ≤ 2 := Nat.zero_le _
  have hsu : 0 ≤ 20996 := Nat.zero_le _
  have g : SR e.2.1 e.2.2.2.2.1 → 220 ≤ e.2.2.2.2.2 → px_pa (some (.ref e.1)) e.2.1 e.2.2.1 e.2.2.2.1 e.2.2.2.2.1 e.2.2.2.2.2 (some (.ref e.1)) e.2.1 e.2.2.1 e.2.2.2.1 e.2.2.2.2.1 e.2.2.2.2.2 := fun q q2 => ⟨⟨rfl, rfl, rfl, rfl, rfl, rfl⟩, q, q2⟩
  unfold f_X10_chartForN at h
  refine wx_aload_n dX10_chartFor_0 rfl ?_
  obtain ⟨ws_1, h⟩ := ok_some h
  obtain ⟨ln_1, wt_1⟩ := hk_some ws_1
  obtain ⟨w_1, h⟩ := ok_some h
  refine wx_getN dX10_chartFor_1 fl_X10_31 wt_1 rfl (Option.isNone_iff_eq_none.mp w_1) ?_
  refine wx_ifnonnullN dX10_chartFor_4 ?_
  refine wx_aload_n dX10_chartFor_7 rfl ?_
  refine wx_new (kd := 1) dX10_chartFor_8 (by decide) cl_X10_35 (show 0 + 1 ≤ 2 by omega) (show 0 + 4 ≤ 20996 by omega) ?_
  refine wx_namS (fun sh_8 qsh_8 => ?_)
  replace h := nm_at h qsh_8
  refine wx_namM (fun M_8 qM_8 => ?_)
  replace h := nm_at h qM_8
  refine wx_namL (fun L_8 qL_8 => ?_)
  replace h := nm_at h qL_8
  refine wx_namR (fun R_8 qR_8 => ?_)
  replace h := nm_at h qR_8
  replace hS : SR sh_8 R_8 := by rw [qsh_8, qR_8]; exact SR.new hS hn
  replace hn : 220 ≤ n + 1 := Nat.le_succ_of_le hn
  refine wx_dup dX10_chartFor_11 rfl ?_
  refine wx_aload_n dX10_chartFor_12 rfl ?_
  obtain ⟨ws_13, h⟩ := ok_some h
  obtain ⟨ln_13, wt_13⟩ := hk_some ws_13
  refine wx_getI dX10_chartFor_13 fl_X10_7 wt_13 rfl ?_
  refine wx_aload_n dX10_chartFor_16 rfl ?_
  obtain ⟨ws_17, h⟩ := ok_some h
  obtain ⟨ln_17, wt_17⟩ := hk_some ws_17
  refine wx_getI dX10_chartFor_17 fl_X10_16 wt_17 rfl ?_
  obtain ⟨e_20, k_20, h⟩ := bd1_some h
  refine wx_aIv dX10_chartFor_20 ml_X10_37 my_X1_init iv_X1_init (s_X1_init (d := d - 1) hS (by omega) hn k_20) rfl (by omega) (by exact Nat.le_of_ble_eq_true rfl) (show 0 + 2 ≤ 2 by omega) (show 0 + 20996 ≤ 20996 by omega) (fun hS hn => ?_)
  obtain ⟨ws_23, h⟩ := ok_some h
  obtain ⟨ln_23, wt_23⟩ := hk_some ws_23
  obtain ⟨hk_23, h⟩ := ok_some h
  refine wx_putR dX10_chartFor_23 fl_X10_31 wt_23 (Or.inl rfl) rfl (fun _ => ⟨rfl, rfl⟩) ?_
  refine wx_namR (fun R_23 q_23 => ?_)
  replace h := nm_at h q_23
  replace hS : SR e_20.1 R_23 := by rw [q_23]; exact SR.put hS (rlay_dyn hk_23)
  refine wx_aload_n dX10_chartFor_26 rfl ?_
  obtain ⟨ws_27, h⟩ := ok_some h
  obtain ⟨ln_27, wt_27⟩ := hk_some ws_27
  obtain ⟨b_27, w_27, h⟩ := bd1_some h
  refine wx_getR dX10_chartFor_27 fl_X10_31 wt_27 rfl w_27 ?_
  refine wx_iload_n dX10_chartFor_30 rfl ?_
  obtain ⟨ws_31, h⟩ := ok_some h
  obtain ⟨ln_31, wt_31⟩ := hk_some ws_31
  obtain ⟨e_31, k_31, h⟩ := bd1_some h
  refine wx_cVv dX10_chartFor_31 ml_X10_40 my_X1_fitTo iv_X1_fitTo wt_31 (by decide) (s_X1_fitTo (d := d - 1) hS (by omega) k_31) rfl (by omega) (by exact Nat.le_of_ble_eq_true rfl) (show 0 + 2 ≤ 2 by omega) (show 0 + 20996 ≤ 20996 by omega) ?_
  refine wx_aload_n dX10_chartFor_34 rfl ?_
  obtain ⟨ws_35, h⟩ := ok_some h
  obtain ⟨ln_35, wt_35⟩ := hk_some ws_35
  obtain ⟨b_35, w_35, h⟩ := bd1_some h
  refine wx_getR dX10_chartFor_35 fl_X10_31 wt_35 rfl w_35 ?_
  refine wx_aret dX10_chartFor_38 (show 0 + 2 ≤ 2 by omega) (show 0 + 20996 ≤ 20996 by omega) ?_
  obtain rfl := Option.some.inj h
  exact g hS hn
noncomputable def f_X9_fewestDaysN (sh : px_Sh) (M : px_M) (L : px_L) (R : px_R) (n : Nat) (p1 : Int32) (p2 : Int32) (p3 : Int32) : Option (Int32 × px_Sh × px_M × px_L × px_R × Nat) :=
  bd1 (f_X11_turnOfDay (M 14 1)) fun e_9 =>
  nm ((M 14 2) + (p2 * e_9)) fun v_14 =>
  ok (ix p1 4) <|
  bd1 (R 15 p1.toNatClampNeg) fun b_21 =>
  ok (hk sh b_21 10) <|
  bd1 (f_X10_aheadOn sh M b_21 ((M 14 0) + p2) v_14) fun e_30 =>
  ok (ix p1 4) <|
  bd1 (R 15 p1.toNatClampNeg) fun b_40 =>
  ok (hk sh b_40 10) <|
  bd1 (f_X10_chartForN sh M L R n b_40 p3) fun e_42 =>
  ok (hk e_42.2.1 e_42.1 1) <|
  bd1 (f_X1_fewestFrom e_42.2.1 e_42.2.2.1 e_42.2.2.2.1 e_42.2.2.2.2.1 e_42.1 (e_42.2.2.1 14 1) e_30) fun e_51 =>
  some (e_51.1, e_42.2.1, e_51.2.1, e_51.2.2, e_42.2.2.2.2.1, e_42.2.2.2.2.2)
theorem s_X9_fewestDaysN {d : Nat} {X : Nat × (Nat → Int32)} {sh : px_Sh} {M : px_M} {L : px_L} {R : px_R} {n : Nat} {p1 : Int32} {p2 : Int32} {p3 : Int32} {e : Int32 × px_Sh × px_M × px_L × px_R × Nat} (hS : SR sh R) (hd : 4 ≤ d) (hn : 220 ≤ n) (h : f_X9_fewestDaysN sh M L R n p1 p2 p3 = some e) : MX yX9_fewestDays cX9_fewestDays 6 (some .int) d 2 20996 X [.ref 14, .int p1, .int p2, .int p3] sh M L R n (px_pa (some (.int e.1)) e.2.1 e.2.2.1 e.2.2.2.1 e.2.2.2.2.1 e.2.2.2.2.2) := by
  refine MX.of (by decide +kernel) (by exact Nat.le_of_ble_eq_true rfl) ?_
  have hcu : 0 ≤ 2 := Nat.zero_le _
  have hsu : 0 ≤ 20996 := Nat.zero_le _
  have g : SR e.2.1 e.2.2.2.2.1 → 220 ≤ e.2.2.2.2.2 → px_pa (some (.int e.1)) e.2.1 e.2.2.1 e.2.2.2.1 e.2.2.2.2.1 e.2.2.2.2.2 (some (.int e.1)) e.2.1 e.2.2.1 e.2.2.2.1 e.2.2.2.2.1 e.2.2.2.2.2 := fun q q2 => ⟨⟨rfl, rfl, rfl, rfl, rfl, rfl⟩, q, q2⟩
  unfold f_X9_fewestDaysN at h
  refine wx_aload_n dX9_fewestDays_0 rfl ?_
  refine wx_getI dX9_fewestDays_1 fl_X9_55 (sc_14 hS) rfl ?_
  refine wx_iload_n dX9_fewestDays_4 rfl ?_
  refine wx_aload_n dX9_fewestDays_5 rfl ?_
  refine wx_getI dX9_fewestDays_6 fl_X9_9 (sc_14 hS) rfl ?_
  obtain ⟨e_9, k_9, h⟩ := bd1_some h
  refine wx_cSi dX9_fewestDays_9 ml_X9_68 my_X11_turnOfDay sv_X11_turnOfDay (s_X11_turnOfDay (d := d - 1) hS (by omega) k_9) rfl (by omega) (by exact Nat.le_of_ble_eq_true rfl) (show 0 + 0 ≤ 2 by omega) (show 0 + 0 ≤ 20996 by omega) ?_
  refine wx_imul dX9_fewestDays_12 ?_
  refine wx_iadd dX9_fewestDays_13 ?_
  refine wx_nami (fun v_14 q_14 => ?_)
  replace h := nm_at h q_14
  refine wx_istore (lv' := [(4, _), (0, _), (1, _), (2, _), (3, _)]) dX9_fewestDays_14 (by decide) rfl ?_
  refine wx_aload_n dX9_fewestDays_16 rfl ?_
  refine wx_getR dX9_fewestDays_17 fl_X9_20 (sc_14 hS) rfl (rr_14_4 hS) ?_
  refine wx_iload_n dX9_fewestDays_20 rfl ?_
  obtain ⟨w_21, h⟩ := ok_some h
  obtain ⟨b_21, wr_21, h⟩ := bd1_some h
  refine wx_aald dX9_fewestDays_21 (sc_15 hS) (by decide) (by decide) (ix_in w_21) wr_21 ?_
  refine wx_aload_n dX9_fewestDays_22 rfl ?_
  refine wx_getI dX9_fewestDays_23 fl_X9_52 (sc_14 hS) rfl ?_
  refine wx_iload_n dX9_fewestDays_26 rfl ?_
  refine wx_iadd dX9_fewestDays_27 ?_
  refine wx_iload dX9_fewestDays_28 rfl ?_
  obtain ⟨ws_30, h⟩ := ok_some h
  obtain ⟨ln_30, wt_30⟩ := hk_some ws_30
  obtain ⟨e_30, k_30, h⟩ := bd1_some h
  refine wx_cVi dX9_fewestDays_30 ml_X9_58 my_X10_aheadOn iv_X10_aheadOn wt_30 (by decide) (s_X10_aheadOn (d := d - 1) hS (by omega) k_30) rfl (by omega) (by exact Nat.le_of_ble_eq_true rfl) (show 0 + 0 ≤ 2 by omega) (show 0 + 0 ≤ 20996 by omega) ?_
  refine wx_istore (lv' := [(5, _), (4, _), (0, _), (1, _), (2, _), (3, _)]) dX9_fewestDays_33 (by decide) rfl ?_
  refine wx_aload_n dX9_fewestDays_35 rfl ?_
  refine wx_getR dX9_fewestDays_36 fl_X9_20 (sc_14 hS) rfl (rr_14_4 hS) ?_
  refine wx_iload_n dX9_fewestDays_39 rfl ?_
  obtain ⟨w_40, h⟩ := ok_some h
  obtain ⟨b_40, wr_40, h⟩ := bd1_some h
  refine wx_aald dX9_fewestDays_40 (sc_15 hS) (by decide) (by decide) (ix_in w_40) wr_40 ?_
  refine wx_iload_n dX9_fewestDays_41 rfl ?_
  obtain ⟨ws_42, h⟩ := ok_some h
  obtain ⟨ln_42, wt_42⟩ := hk_some ws_42
  obtain ⟨e_42, k_42, h⟩ := bd1_some h
  refine wx_aVr dX9_fewestDays_42 ml_X9_72 my_X10_chartFor iv_X10_chartFor wt_42 (by decide) (s_X10_chartForN (d := d - 1) hS (by omega) hn k_42) rfl (by omega) (by exact Nat.le_of_ble_eq_true rfl) (show 0 + 2 ≤ 2 by omega) (show 0 + 20996 ≤ 20996 by omega) (fun hS hn => ?_)
  refine wx_aload_n dX9_fewestDays_45 rfl ?_
  refine wx_getI dX9_fewestDays_46 fl_X9_9 (sc_14 hS) rfl ?_
  refine wx_iload dX9_fewestDays_49 rfl ?_
  obtain ⟨ws_51, h⟩ := ok_some h
  obtain ⟨ln_51, wt_51⟩ := hk_some ws_51
  obtain ⟨e_51, k_51, h⟩ := bd1_some h
  refine wx_cVi dX9_fewestDays_51 ml_X9_76 my_X1_fewestFrom iv_X1_fewestFrom wt_51 (by decide) (s_X1_fewestFrom (d := d - 1) hS (by omega) k_51) rfl (by omega) (by exact Nat.le_of_ble_eq_true rfl) (show 0 + 2 ≤ 2 by omega) (show 0 + 20996 ≤ 20996 by omega) ?_
  refine wx_iret dX9_fewestDays_54 (show 0 + 2 ≤ 2 by omega) (show 0 + 20996 ≤ 20996 by omega) ?_
  obtain rfl := Option.some.inj h
  exact g hS hn
noncomputable def f_X9_steerOfFirstWayN (sh : px_Sh) (M : px_M) (L : px_L) (R : px_R) (n : Nat) (p1 : Int32) (p2 : Int32) (p3 : Int32) : Option (Int32 × px_Sh × px_M × px_L × px_R × Nat) :=
  bd1 (f_X9_fewestDaysN sh M L R n p1 0 p3) fun e_4 =>
  if p2 < e_4.1 then
    ok (ix p1 4) <|
    bd1 (e_4.2.2.2.2.1 15 p1.toNatClampNeg) fun b_22 =>
    ok (hk e_4.2.1 b_22 10) <|
    bd1 (f_X10_chartFor e_4.2.1 e_4.2.2.1 e_4.2.2.2.2.1 b_22 p3) fun e_24 =>
    nm (e_24.2 14 1) fun v_33 =>
    ok (ix p1 4) <|
    bd1 (e_4.2.2.2.2.1 15 p1.toNatClampNeg) fun b_40 =>
    ok (hk e_4.2.1 b_40 10) <|
    bd1 (f_X10_aheadOn e_4.2.1 e_24.2 b_40 (e_24.2 14 0) (e_24.2 14 2)) fun e_49 =>
    bd1 (lpf (fun a : Int32 × Int32 × Int32 × Int32 × px_M × px_L => f_X9_steerOfFirstWay_60 e_4.2.1 a.2.2.2.2.1 a.2.2.2.2.2 e_4.2.2.2.2.1 p2 p3 e_4.1 e_24.1 a.1 a.2.1 a.2.2.1 a.2.2.2.1) (v_33, e_49, 1, 0, e_24.2, e_4.2.2.2.1)) fun e_60 =>
    some (e_60.1, e_4.2.1, e_60.2.1, e_60.2.2, e_4.2.2.2.2.1, e_4.2.2.2.2.2)
  else
    some ((-1), e_4.2.1, e_4.2.2.1, e_4.2.2.2.1, e_4.2.2.2.2.1, e_4.2.2.2.2.2)
theorem s_X9_steerOfFirstWayN {d : Nat} {X : Nat × (Nat → Int32)} {sh : px_Sh} {M : px_M} {L : px_L} {R : px_R} {n : Nat} {p1 : Int32} {p2 : Int32} {p3 : Int32} {e : Int32 × px_Sh × px_M × px_L × px_R × Nat} (hS : SR sh R) (hd : 5 ≤ d) (hn : 220 ≤ n) (h : f_X9_steerOfFirstWayN sh M L R n p1 p2 p3 = some e) : MX yX9_steerOfFirstWay cX9_steerOfFirstWay 10 (some .int) d 2 20996 X [.ref 14, .int p1, .int p2, .int p3] sh M L R n (px_pa (some (.int e.1)) e.2.1 e.2.2.1 e.2.2.2.1 e.2.2.2.2.1 e.2.2.2.2.2) := by
  refine MX.of (by decide +kernel) (by exact Nat.le_of_ble_eq_true rfl) ?_
  have hcu : 0 ≤ 2 := Nat.zero_le _
  have hsu : 0 ≤ 20996 := Nat.zero_le _
  have g : SR e.2.1 e.2.2.2.2.1 → 220 ≤ e.2.2.2.2.2 → px_pa (some (.int e.1)) e.2.1 e.2.2.1 e.2.2.2.1 e.2.2.2.2.1 e.2.2.2.2.2 (some (.int e.1)) e.2.1 e.2.2.1 e.2.2.2.1 e.2.2.2.2.1 e.2.2.2.2.2 := fun q q2 => ⟨⟨rfl, rfl, rfl, rfl, rfl, rfl⟩, q, q2⟩
  unfold f_X9_steerOfFirstWayN at h
  refine wx_aload_n dX9_steerOfFirstWay_0 rfl ?_
  refine wx_iload_n dX9_steerOfFirstWay_1 rfl ?_
  refine wx_iconst (v := 0) dX9_steerOfFirstWay_2 (by decide) ?_
  refine wx_iload_n dX9_steerOfFirstWay_3 rfl ?_
  obtain ⟨e_4, k_4, h⟩ := bd1_some h
  refine wx_aVi dX9_steerOfFirstWay_4 ml_X9_79 my_X9_fewestDays iv_X9_fewestDays (sc_14 hS) (by decide) (s_X9_fewestDaysN (d := d - 1) hS (by omega) hn k_4) rfl (by omega) (by exact Nat.le_of_ble_eq_true rfl) (show 0 + 2 ≤ 2 by omega) (show 0 + 20996 ≤ 20996 by omega) (fun hS hn => ?_)
  refine wx_istore (lv' := [(4, _), (0, _), (1, _), (2, _), (3, _)]) dX9_steerOfFirstWay_7 (by decide) rfl ?_
  refine wx_iload_n dX9_steerOfFirstWay_9 rfl ?_
  refine wx_iload dX9_steerOfFirstWay_10 rfl ?_
  refine wx_icmp_lt (tgt := 17) dX9_steerOfFirstWay_12 (by decide) (fun c_12 => ?_) (fun c_12 => ?_)
  · replace h := it_t h c_12
    refine wx_aload_n dX9_steerOfFirstWay_17 rfl ?_
    refine wx_getR dX9_steerOfFirstWay_18 fl_X9_20 (sc_14 hS) rfl (rr_14_4 hS) ?_
    refine wx_iload_n dX9_steerOfFirstWay_21 rfl ?_
    obtain ⟨w_22, h⟩ := ok_some h
    obtain ⟨b_22, wr_22, h⟩ := bd1_some h
    refine wx_aald dX9_steerOfFirstWay_22 (sc_15 hS) (by decide) (by decide) (ix_in w_22) wr_22 ?_
    refine wx_iload_n dX9_steerOfFirstWay_23 rfl ?_
    obtain ⟨ws_24, h⟩ := ok_some h
    obtain ⟨ln_24, wt_24⟩ := hk_some ws_24
    obtain ⟨e_24, k_24, h⟩ := bd1_some h
    refine wx_cVr dX9_steerOfFirstWay_24 ml_X9_72 my_X10_chartFor iv_X10_chartFor wt_24 (by decide) (s_X10_chartFor (d := d - 1) hS (by omega) k_24) rfl (by omega) (by exact Nat.le_of_ble_eq_true rfl) (show 0 + 2 ≤ 2 by omega) (show 0 + 20996 ≤ 20996 by omega) ?_
    refine wx_astore (lv' := [(5, _), (4, _), (0, _), (1, _), (2, _), (3, _)]) dX9_steerOfFirstWay_27 (by decide) rfl ?_
    refine wx_aload_n dX9_steerOfFirstWay_29 rfl ?_
    refine wx_getI dX9_steerOfFirstWay_30 fl_X9_9 (sc_14 hS) rfl ?_
    refine wx_nami (fun v_33 q_33 => ?_)
    replace h := nm_at h q_33
    refine wx_istore (lv' := [(6, _), (5, _), (4, _), (0, _), (1, _), (2, _), (3, _)]) dX9_steerOfFirstWay_33 (by decide) rfl ?_
    refine wx_aload_n dX9_steerOfFirstWay_35 rfl ?_
    refine wx_getR dX9_steerOfFirstWay_36 fl_X9_20 (sc_14 hS) rfl (rr_14_4 hS) ?_
    refine wx_iload_n dX9_steerOfFirstWay_39 rfl ?_
    obtain ⟨w_40, h⟩ := ok_some h
    obtain ⟨b_40, wr_40, h⟩ := bd1_some h
    refine wx_aald dX9_steerOfFirstWay_40 (sc_15 hS) (by decide) (by decide) (ix_in w_40) wr_40 ?_
    refine wx_aload_n dX9_steerOfFirstWay_41 rfl ?_
    refine wx_getI dX9_steerOfFirstWay_42 fl_X9_52 (sc_14 hS) rfl ?_
    refine wx_aload_n dX9_steerOfFirstWay_45 rfl ?_
    refine wx_getI dX9_steerOfFirstWay_46 fl_X9_55 (sc_14 hS) rfl ?_
    obtain ⟨ws_49, h⟩ := ok_some h
    obtain ⟨ln_49, wt_49⟩ := hk_some ws_49
    obtain ⟨e_49, k_49, h⟩ := bd1_some h
    refine wx_cVi dX9_steerOfFirstWay_49 ml_X9_58 my_X10_aheadOn iv_X10_aheadOn wt_49 (by decide) (s_X10_aheadOn (d := d - 1) hS (by omega) k_49) rfl (by omega) (by exact Nat.le_of_ble_eq_true rfl) (show 0 + 2 ≤ 2 by omega) (show 0 + 20996 ≤ 20996 by omega) ?_
    refine wx_istore (lv' := [(7, _), (6, _), (5, _), (4, _), (0, _), (1, _), (2, _), (3, _)]) dX9_steerOfFirstWay_52 (by decide) rfl ?_
    refine wx_iconst (v := 1) dX9_steerOfFirstWay_54 (by decide) ?_
    refine wx_istore (lv' := [(8, _), (7, _), (6, _), (5, _), (4, _), (0, _), (1, _), (2, _), (3, _)]) dX9_steerOfFirstWay_55 (by decide) rfl ?_
    refine wx_iconst (v := 0) dX9_steerOfFirstWay_57 (by decide) ?_
    refine wx_istore (lv' := [(9, _), (8, _), (7, _), (6, _), (5, _), (4, _), (0, _), (1, _), (2, _), (3, _)]) dX9_steerOfFirstWay_58 (by decide) rfl ?_
    obtain ⟨e_60, k_60, h⟩ := bd1_some h
    refine wx_sub (s_X9_steerOfFirstWay_60 hS (by omega) (show 0 + 2 ≤ 2 by omega) (show 0 + 20996 ≤ 20996 by omega) k_60 ?_) (px_s rfl (px_s rfl (px_s rfl (px_s rfl (px_s rfl (px_s rfl (px_s rfl (px_s rfl px_0))))))))
    refine wx_iload dX9_steerOfFirstWay_109 rfl ?_
    refine wx_iret dX9_steerOfFirstWay_111 (show 0 + 2 ≤ 2 by omega) (show 0 + 20996 ≤ 20996 by omega) ?_
    obtain rfl := Option.some.inj h
    exact g hS hn
  · replace h := it_f h c_12
    refine wx_iconst (v := (-1)) dX9_steerOfFirstWay_15 (by decide) ?_
    refine wx_iret dX9_steerOfFirstWay_16 (show 0 + 2 ≤ 2 by omega) (show 0 + 20996 ≤ 20996 by omega) ?_
    obtain rfl := Option.some.inj h
    exact g hS hn
noncomputable def f_X9_daysInAllN_23 (sh : px_Sh) (M : px_M) (L : px_L) (R : px_R) (n : Nat) (z0 : Int32) : Option (Int32 × px_Sh × px_M × px_L × px_R × Nat) :=
  some (z0, sh, M, L, R, n)
theorem s_X9_daysInAllN_23 {z0 : Int32} {M : px_M} {L : px_L} {R : px_R} {e : (Int32 × px_Sh × px_M × px_L × px_R × Nat)} (hS : SR sh R) (hd : 5 ≤ d) (hcu : cu ≤ mc) (hsu : su ≤ ms) (hn : 220 ≤ n) (h : f_X9_daysInAllN_23 sh M L R n z0 = some e) (g : SR (e.2.1) (e.2.2.2.2.1) → 220 ≤ (e.2.2.2.2.2) → Post (some (.int (e.1))) (e.2.1) (e.2.2.1) (e.2.2.2.1) (e.2.2.2.2.1) (e.2.2.2.2.2)) : WX RX9 cX9_daysInAll 5 (some .int) ("daysInAll", []) d mc ms X (px_QF Post mc ms) 23 [] [.int z0] sh M L R n cu su := by
  unfold f_X9_daysInAllN_23 at h
  refine wx_iret dX9_daysInAll_23 (show cu + 0 ≤ mc by omega) (show su + 0 ≤ ms by omega) ?_
  obtain rfl := Option.some.inj h
  exact g hS hn
noncomputable def f_X9_daysInAllN (sh : px_Sh) (M : px_M) (L : px_L) (R : px_R) (n : Nat) (p1 : Int32) (p2 : Int32) (p3 : Int32) : Option (Int32 × px_Sh × px_M × px_L × px_R × Nat) :=
  bd1 (f_X9_fewestDaysN sh M L R n p1 p2 p3) fun e_4 =>
  if e_4.1 = (-1) then
    f_X9_daysInAllN_23 e_4.2.1 e_4.2.2.1 e_4.2.2.2.1 e_4.2.2.2.2.1 e_4.2.2.2.2.2 (-1)
  else
    f_X9_daysInAllN_23 e_4.2.1 e_4.2.2.1 e_4.2.2.2.1 e_4.2.2.2.2.1 e_4.2.2.2.2.2 (p2 + e_4.1)
theorem s_X9_daysInAllN {d : Nat} {X : Nat × (Nat → Int32)} {sh : px_Sh} {M : px_M} {L : px_L} {R : px_R} {n : Nat} {p1 : Int32} {p2 : Int32} {p3 : Int32} {e : Int32 × px_Sh × px_M × px_L × px_R × Nat} (hS : SR sh R) (hd : 5 ≤ d) (hn : 220 ≤ n) (h : f_X9_daysInAllN sh M L R n p1 p2 p3 = some e) : MX yX9_daysInAll cX9_daysInAll 5 (some .int) d 2 20996 X [.ref 14, .int p1, .int p2, .int p3] sh M L R n (px_pa (some (.int e.1)) e.2.1 e.2.2.1 e.2.2.2.1 e.2.2.2.2.1 e.2.2.2.2.2) := by
  refine MX.of (by decide +kernel) (by exact Nat.le_of_ble_eq_true rfl) ?_
  have hcu : 0 ≤ 2 := Nat.zero_le _
  have hsu : 0 ≤ 20996 := Nat.zero_le _
  have g : SR e.2.1 e.2.2.2.2.1 → 220 ≤ e.2.2.2.2.2 → px_pa (some (.int e.1)) e.2.1 e.2.2.1 e.2.2.2.1 e.2.2.2.2.1 e.2.2.2.2.2 (some (.int e.1)) e.2.1 e.2.2.1 e.2.2.2.1 e.2.2.2.2.1 e.2.2.2.2.2 := fun q q2 => ⟨⟨rfl, rfl, rfl, rfl, rfl, rfl⟩, q, q2⟩
  unfold f_X9_daysInAllN at h
  refine wx_aload_n dX9_daysInAll_0 rfl ?_
  refine wx_iload_n dX9_daysInAll_1 rfl ?_
  refine wx_iload_n dX9_daysInAll_2 rfl ?_
  refine wx_iload_n dX9_daysInAll_3 rfl ?_
  obtain ⟨e_4, k_4, h⟩ := bd1_some h
  refine wx_aVi dX9_daysInAll_4 ml_X9_79 my_X9_fewestDays iv_X9_fewestDays (sc_14 hS) (by decide) (s_X9_fewestDaysN (d := d - 1) hS (by omega) hn k_4) rfl (by omega) (by exact Nat.le_of_ble_eq_true rfl) (show 0 + 2 ≤ 2 by omega) (show 0 + 20996 ≤ 20996 by omega) (fun hS hn => ?_)
  refine wx_istore (lv' := [(4, _), (0, _), (1, _), (2, _), (3, _)]) dX9_daysInAll_7 (by decide) rfl ?_
  refine wx_iload dX9_daysInAll_9 rfl ?_
  refine wx_iconst (v := (-1)) dX9_daysInAll_11 (by decide) ?_
  refine wx_icmp_ne (tgt := 19) dX9_daysInAll_12 (by decide) (fun c_12 => ?_) (fun c_12 => ?_)
  · replace h := it_f h c_12
    refine wx_iload_n dX9_daysInAll_19 rfl ?_
    refine wx_iload dX9_daysInAll_20 rfl ?_
    refine wx_iadd dX9_daysInAll_22 ?_
    exact wx_sub (s_X9_daysInAllN_23 hS hd (show 0 + 2 ≤ 2 by omega) (show 0 + 20996 ≤ 20996 by omega) hn h g) px_0
  · replace h := it_t h c_12
    refine wx_iconst (v := (-1)) dX9_daysInAll_15 (by decide) ?_
    refine wx_goto (tgt := 23) dX9_daysInAll_16 (by decide) ?_
    exact wx_sub (s_X9_daysInAllN_23 hS hd (show 0 + 2 ≤ 2 by omega) (show 0 + 20996 ≤ 20996 by omega) hn h g) px_0
noncomputable def f_X9_bestWaitingN (sh : px_Sh) (M : px_M) (L : px_L) (R : px_R) (n : Nat) (p1 : Int32) (p2 : Int32) : Option (Int32 × px_Sh × px_M × px_L × px_R × Nat) :=
  if 20 < (0 : Int32) then
    some ((-1), sh, M, L, R, n)
  else
    bd1 (f_X9_fewestDaysN sh M L R n p1 0 p2) fun e_20 =>
    if e_20.1 = (-1) then
      bd1 (lpf (fun a : Int32 × Int32 × Int32 × px_M × px_L => f_X9_bestWaiting_8 e_20.2.1 a.2.2.2.1 a.2.2.2.2 e_20.2.2.2.2.1 p1 p2 a.1 a.2.1 a.2.2.1) ((-1), (-1), (0 + 1), e_20.2.2.1, e_20.2.2.2.1)) fun e_8 =>
      some (e_8.1, e_20.2.1, e_8.2.1, e_8.2.2, e_20.2.2.2.2.1, e_20.2.2.2.2.2)
    else
      if (-1 : Int32) = (-1) then
        nm (0 + e_20.1) fun v_54 =>
        bd1 (lpf (fun a : Int32 × Int32 × Int32 × px_M × px_L => f_X9_bestWaiting_8 e_20.2.1 a.2.2.2.1 a.2.2.2.2 e_20.2.2.2.2.1 p1 p2 a.1 a.2.1 a.2.2.1) (0, v_54, (0 + 1), e_20.2.2.1, e_20.2.2.2.1)) fun e_8 =>
        some (e_8.1, e_20.2.1, e_8.2.1, e_8.2.2, e_20.2.2.2.2.1, e_20.2.2.2.2.2)
      else
        if (-1) ≤ (0 + e_20.1) then
          bd1 (lpf (fun a : Int32 × Int32 × Int32 × px_M × px_L => f_X9_bestWaiting_8 e_20.2.1 a.2.2.2.1 a.2.2.2.2 e_20.2.2.2.2.1 p1 p2 a.1 a.2.1 a.2.2.1) ((-1), (-1), (0 + 1), e_20.2.2.1, e_20.2.2.2.1)) fun e_8 =>
          some (e_8.1, e_20.2.1, e_8.2.1, e_8.2.2, e_20.2.2.2.2.1, e_20.2.2.2.2.2)
        else
          nm (0 + e_20.1) fun v_54 =>
          bd1 (lpf (fun a : Int32 × Int32 × Int32 × px_M × px_L => f_X9_bestWaiting_8 e_20.2.1 a.2.2.2.1 a.2.2.2.2 e_20.2.2.2.2.1 p1 p2 a.1 a.2.1 a.2.2.1) (0, v_54, (0 + 1), e_20.2.2.1, e_20.2.2.2.1)) fun e_8 =>
          some (e_8.1, e_20.2.1, e_8.2.1, e_8.2.2, e_20.2.2.2.2.1, e_20.2.2.2.2.2)
theorem s_X9_bestWaitingN {d : Nat} {X : Nat × (Nat → Int32)} {sh : px_Sh} {M : px_M} {L : px_L} {R : px_R} {n : Nat} {p1 : Int32} {p2 : Int32} {e : Int32 × px_Sh × px_M × px_L × px_R × Nat} (hS : SR sh R) (hd : 5 ≤ d) (hn : 220 ≤ n) (h : f_X9_bestWaitingN sh M L R n p1 p2 = some e) : MX yX9_bestWaiting cX9_bestWaiting 7 (some .int) d 2 20996 X [.ref 14, .int p1, .int p2] sh M L R n (px_pa (some (.int e.1)) e.2.1 e.2.2.1 e.2.2.2.1 e.2.2.2.2.1 e.2.2.2.2.2) := by
  refine MX.of (by decide +kernel) (by exact Nat.le_of_ble_eq_true rfl) ?_
  have hcu : 0 ≤ 2 := Nat.zero_le _
  have hsu : 0 ≤ 20996 := Nat.zero_le _
  have g : SR e.2.1 e.2.2.2.2.1 → 220 ≤ e.2.2.2.2.2 → px_pa (some (.int e.1)) e.2.1 e.2.2.1 e.2.2.2.1 e.2.2.2.2.1 e.2.2.2.2.2 (some (.int e.1)) e.2.1 e.2.2.1 e.2.2.2.1 e.2.2.2.2.1 e.2.2.2.2.2 := fun q q2 => ⟨⟨rfl, rfl, rfl, rfl, rfl, rfl⟩, q, q2⟩
  unfold f_X9_bestWaitingN at h
  refine wx_iconst (v := (-1)) dX9_bestWaiting_0 (by decide) ?_
  refine wx_istore_n (lv' := [(3, _), (0, _), (1, _), (2, _)]) dX9_bestWaiting_1 (by decide) rfl ?_
  refine wx_iconst (v := (-1)) dX9_bestWaiting_2 (by decide) ?_
  refine wx_istore (lv' := [(4, _), (3, _), (0, _), (1, _), (2, _)]) dX9_bestWaiting_3 (by decide) rfl ?_
  refine wx_iconst (v := 0) dX9_bestWaiting_5 (by decide) ?_
  refine wx_istore (lv' := [(5, _), (4, _), (3, _), (0, _), (1, _), (2, _)]) dX9_bestWaiting_6 (by decide) rfl ?_
  refine wx_iload dX9_bestWaiting_8 rfl ?_
  refine wx_bipush (v := 20) dX9_bestWaiting_10 (by decide) ?_
  refine wx_icmp_gt (tgt := 62) dX9_bestWaiting_12 (by decide) (fun c_12 => ?_) (fun c_12 => ?_)
  · replace h := it_t h c_12
    refine wx_iload_n dX9_bestWaiting_62 rfl ?_
    refine wx_iret dX9_bestWaiting_63 (show 0 + 0 ≤ 2 by omega) (show 0 + 0 ≤ 20996 by omega) ?_
    obtain rfl := Option.some.inj h
    exact g hS hn
  · replace h := it_f h c_12
    refine wx_aload_n dX9_bestWaiting_15 rfl ?_
    refine wx_iload_n dX9_bestWaiting_16 rfl ?_
    refine wx_iload dX9_bestWaiting_17 rfl ?_
    refine wx_iload_n dX9_bestWaiting_19 rfl ?_
    obtain ⟨e_20, k_20, h⟩ := bd1_some h
    refine wx_aVi dX9_bestWaiting_20 ml_X9_79 my_X9_fewestDays iv_X9_fewestDays (sc_14 hS) (by decide) (s_X9_fewestDaysN (d := d - 1) hS (by omega) hn k_20) rfl (by omega) (by exact Nat.le_of_ble_eq_true rfl) (show 0 + 2 ≤ 2 by omega) (show 0 + 20996 ≤ 20996 by omega) (fun hS hn => ?_)
    refine wx_istore (lv' := [(6, _), (5, _), (4, _), (3, _), (0, _), (1, _), (2, _)]) dX9_bestWaiting_23 (by decide) rfl ?_
    refine wx_iload dX9_bestWaiting_25 rfl ?_
    refine wx_iconst (v := (-1)) dX9_bestWaiting_27 (by decide) ?_
    refine wx_icmp_eq (tgt := 56) dX9_bestWaiting_28 (by decide) (fun c_28 => ?_) (fun c_28 => ?_)
    · replace h := it_t h c_28
      refine wx_iinc (lv' := [(5, _), (6, _), (4, _), (3, _), (0, _), (1, _), (2, _)]) dX9_bestWaiting_56 rfl (i_1 _) (by decide) rfl ?_
      refine wx_goto (tgt := 8) dX9_bestWaiting_59 (by decide) ?_
      obtain ⟨e_8, k_8, h⟩ := bd1_some h
      refine wx_sub (s_X9_bestWaiting_8 hS (by omega) (show 0 + 2 ≤ 2 by omega) (show 0 + 20996 ≤ 20996 by omega) k_8 ?_) (px_s rfl (px_s rfl (px_s rfl (px_s rfl (px_s rfl (px_s rfl px_0))))))
      refine wx_iload_n dX9_bestWaiting_62 rfl ?_
      refine wx_iret dX9_bestWaiting_63 (show 0 + 2 ≤ 2 by omega) (show 0 + 20996 ≤ 20996 by omega) ?_
      obtain rfl := Option.some.inj h
      exact g hS hn
    · replace h := it_f h c_28
      refine wx_iload_n dX9_bestWaiting_31 rfl ?_
      refine wx_iconst (v := (-1)) dX9_bestWaiting_32 (by decide) ?_
      refine wx_icmp_eq (tgt := 46) dX9_bestWaiting_33 (by decide) (fun c_33 => ?_) (fun c_33 => ?_)
      · replace h := it_t h c_33
        refine wx_iload dX9_bestWaiting_46 rfl ?_
        refine wx_istore_n (lv' := [(3, _), (6, _), (5, _), (4, _), (0, _), (1, _), (2, _)]) dX9_bestWaiting_48 (by decide) rfl ?_
        refine wx_iload dX9_bestWaiting_49 rfl ?_
        refine wx_iload dX9_bestWaiting_51 rfl ?_
        refine wx_iadd dX9_bestWaiting_53 ?_
        refine wx_nami (fun v_54 q_54 => ?_)
        replace h := nm_at h q_54
        refine wx_istore (lv' := [(4, _), (3, _), (6, _), (5, _), (0, _), (1, _), (2, _)]) dX9_bestWaiting_54 (by decide) rfl ?_
        refine wx_iinc (lv' := [(5, _), (4, _), (3, _), (6, _), (0, _), (1, _), (2, _)]) dX9_bestWaiting_56 rfl (i_1 _) (by decide) rfl ?_
        refine wx_goto (tgt := 8) dX9_bestWaiting_59 (by decide) ?_
        obtain ⟨e_8, k_8, h⟩ := bd1_some h
        refine wx_sub (s_X9_bestWaiting_8 hS (by omega) (show 0 + 2 ≤ 2 by omega) (show 0 + 20996 ≤ 20996 by omega) k_8 ?_) (px_s rfl (px_s rfl (px_s rfl (px_s rfl (px_s rfl (px_s rfl px_0))))))
        refine wx_iload_n dX9_bestWaiting_62 rfl ?_
        refine wx_iret dX9_bestWaiting_63 (show 0 + 2 ≤ 2 by omega) (show 0 + 20996 ≤ 20996 by omega) ?_
        obtain rfl := Option.some.inj h
        exact g hS hn
      · replace h := it_f h c_33
        refine wx_iload dX9_bestWaiting_36 rfl ?_
        refine wx_iload dX9_bestWaiting_38 rfl ?_
        refine wx_iadd dX9_bestWaiting_40 ?_
        refine wx_iload dX9_bestWaiting_41 rfl ?_
        refine wx_icmp_ge (tgt := 56) dX9_bestWaiting_43 (by decide) (fun c_43 => ?_) (fun c_43 => ?_)
        · replace h := it_t h c_43
          refine wx_iinc (lv' := [(5, _), (6, _), (4, _), (3, _), (0, _), (1, _), (2, _)]) dX9_bestWaiting_56 rfl (i_1 _) (by decide) rfl ?_
          refine wx_goto (tgt := 8) dX9_bestWaiting_59 (by decide) ?_
          obtain ⟨e_8, k_8, h⟩ := bd1_some h
          refine wx_sub (s_X9_bestWaiting_8 hS (by omega) (show 0 + 2 ≤ 2 by omega) (show 0 + 20996 ≤ 20996 by omega) k_8 ?_) (px_s rfl (px_s rfl (px_s rfl (px_s rfl (px_s rfl (px_s rfl px_0))))))
          refine wx_iload_n dX9_bestWaiting_62 rfl ?_
          refine wx_iret dX9_bestWaiting_63 (show 0 + 2 ≤ 2 by omega) (show 0 + 20996 ≤ 20996 by omega) ?_
          obtain rfl := Option.some.inj h
          exact g hS hn
        · replace h := it_f h c_43
          refine wx_iload dX9_bestWaiting_46 rfl ?_
          refine wx_istore_n (lv' := [(3, _), (6, _), (5, _), (4, _), (0, _), (1, _), (2, _)]) dX9_bestWaiting_48 (by decide) rfl ?_
          refine wx_iload dX9_bestWaiting_49 rfl ?_
          refine wx_iload dX9_bestWaiting_51 rfl ?_
          refine wx_iadd dX9_bestWaiting_53 ?_
          refine wx_nami (fun v_54 q_54 => ?_)
          replace h := nm_at h q_54
          refine wx_istore (lv' := [(4, _), (3, _), (6, _), (5, _), (0, _), (1, _), (2, _)]) dX9_bestWaiting_54 (by decide) rfl ?_
          refine wx_iinc (lv' := [(5, _), (4, _), (3, _), (6, _), (0, _), (1, _), (2, _)]) dX9_bestWaiting_56 rfl (i_1 _) (by decide) rfl ?_
          refine wx_goto (tgt := 8) dX9_bestWaiting_59 (by decide) ?_
          obtain ⟨e_8, k_8, h⟩ := bd1_some h
          refine wx_sub (s_X9_bestWaiting_8 hS (by omega) (show 0 + 2 ≤ 2 by omega) (show 0 + 20996 ≤ 20996 by omega) k_8 ?_) (px_s rfl (px_s rfl (px_s rfl (px_s rfl (px_s rfl (px_s rfl px_0))))))
          refine wx_iload_n dX9_bestWaiting_62 rfl ?_
          refine wx_iret dX9_bestWaiting_63 (show 0 + 2 ≤ 2 by omega) (show 0 + 20996 ≤ 20996 by omega) ?_
          obtain rfl := Option.some.inj h
          exact g hS hn
end LIFT
