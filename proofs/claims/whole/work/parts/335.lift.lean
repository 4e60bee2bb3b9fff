/-! the face -/
section LIFT
variable {d mc ms : Nat} {X : Nat × (Nat → Int32)} {Post : px_Post} {sh : px_Sh} {n cu su : Nat}
noncomputable def f_X11_of_20 (sh : px_Sh) (M : px_M) (R : px_R) (x1 : Int32) (x2 : Int32) : Option (Int32) :=
  ok (ix x1 16) <|
  bd1 (R 7 x1.toNatClampNeg) fun b_28 =>
  ok (hk sh b_28 5) <|
  bd1 (f_X5_fact sh M b_28 x2) fun e_30 =>
  some e_30
theorem s_X11_of_20 {x1 : Int32} {x2 : Int32} {M : px_M} {L : px_L} {R : px_R} {e : (Int32)} (hS : SR sh R) (hd : 7 ≤ d) (hcu : cu ≤ mc) (hsu : su ≤ ms) (h : f_X11_of_20 sh M R x1 x2 = some e) (g : Post (some (.int e)) sh M L R n) : WX RX11 cX11_of 3 (some .int) ("of", []) d mc ms X (px_QF Post mc ms) 20 [(0, .ref 0), (1, .int x1), (2, .int x2)] [] sh M L R n cu su := by
  unfold f_X11_of_20 at h
  refine wx_aload_n dX11_of_20 rfl ?_
  refine wx_getR dX11_of_21 fl_X11_19 (sc_0 hS) rfl (rr_0_1 hS) ?_
  refine wx_getR dX11_of_24 fl_X11_135 (sc_6 hS) rfl (rr_6_0 hS) ?_
  refine wx_iload_n dX11_of_27 rfl ?_
  obtain ⟨w_28, h⟩ := ok_some h
  obtain ⟨b_28, wr_28, h⟩ := bd1_some h
  refine wx_aald dX11_of_28 (sc_7 hS) (by decide) (by decide) (ix_in w_28) wr_28 ?_
  refine wx_iload_n dX11_of_29 rfl ?_
  obtain ⟨ws_30, h⟩ := ok_some h
  obtain ⟨ln_30, wt_30⟩ := hk_some ws_30
  obtain ⟨e_30, k_30, h⟩ := bd1_some h
  refine wx_cVi dX11_of_30 ml_X11_139 my_X5_fact iv_X5_fact wt_30 (by decide) (s_X5_fact (d := d - 1) hS (by omega) k_30) rfl (by omega) (by exact Nat.le_of_ble_eq_true rfl) hcu hsu ?_
  refine wx_iret dX11_of_33 hcu hsu ?_
  obtain rfl := Option.some.inj h
  exact g
noncomputable def f_X11_of (sh : px_Sh) (M : px_M) (R : px_R) (p1 : Int32) (p2 : Int32) : Option ((Int32) ⊕ Nat) :=
  bd1 (f_X8_hasPanel M p1) fun e_5 =>
  if e_5 = 0 then some (.inr 3) else
  bd1 (f_X11_within p2 0 4) fun e_14 =>
  if e_14 = 0 then some (.inr 0) else
  bd1 (f_X11_of_20 sh M R p1 p2) fun r_20 => some (.inl r_20)
theorem s_X11_of {d : Nat} {X : Nat × (Nat → Int32)} {sh : px_Sh} {M : px_M} {L : px_L} {R : px_R} {n : Nat} {p1 : Int32} {p2 : Int32} {e : Int32} (hS : SR sh R) (hd : 7 ≤ d) (h : f_X11_of sh M R p1 p2 = some (.inl e)) : MXT yX11_of cX11_of 3 (some .int) d 0 0 X [.ref 0, .int p1, .int p2] sh M L R n (px_pu (some (.int e)) sh M L R n) px_nx := by
  refine MXT.of (by decide +kernel) (by exact Nat.le_of_ble_eq_true rfl) ?_
  have hcu : 0 ≤ 0 := Nat.zero_le _
  have hsu : 0 ≤ 0 := Nat.zero_le _
  have g : px_pu (some (.int e)) sh M L R n (some (.int e)) sh M L R n := ⟨rfl, rfl, rfl, rfl, rfl, rfl⟩
  unfold f_X11_of at h
  refine wx_aload_n dX11_of_0 rfl ?_
  refine wx_getR dX11_of_1 fl_X11_19 (sc_0 hS) rfl (rr_0_1 hS) ?_
  refine wx_iload_n dX11_of_4 rfl ?_
  obtain ⟨e_5, k_5, h⟩ := bd1_some h
  refine wx_cVi dX11_of_5 ml_X11_129 my_X8_hasPanel iv_X8_hasPanel (sc_6 hS) (by decide) (s_X8_hasPanel (d := d - 1) hS (by omega) k_5) rfl (by omega) (by exact Nat.le_of_ble_eq_true rfl) (show 0 + 0 ≤ 0 by omega) (show 0 + 0 ≤ 0 by omega) ?_
  by_cases c_8 : e_5 = 0
  · replace h := it_t h c_8
    cases h
  replace h := it_f h c_8
  refine wx_needT dX11_of_8 nl_needElement my_X11_needElement sv_X11_needElement (mT_needElement (d := d - 1) c_8) (by omega) (by exact Nat.le_of_ble_eq_true rfl) (show 0 + 0 ≤ 0 by omega) (show 0 + 0 ≤ 0 by omega) ?_
  refine wx_iload_n dX11_of_11 rfl ?_
  refine wx_iconst (v := 0) dX11_of_12 (by decide) ?_
  refine wx_iconst (v := 4) dX11_of_13 (by decide) ?_
  obtain ⟨e_14, k_14, h⟩ := bd1_some h
  refine wx_cSi dX11_of_14 ml_X11_65 my_X11_within sv_X11_within (s_X11_within (d := d - 1) hS (by omega) k_14) rfl (by omega) (by exact Nat.le_of_ble_eq_true rfl) (show 0 + 0 ≤ 0 by omega) (show 0 + 0 ≤ 0 by omega) ?_
  by_cases c_17 : e_14 = 0
  · replace h := it_t h c_17
    cases h
  replace h := it_f h c_17
  refine wx_needT dX11_of_17 nl_needArgument my_X11_needArgument sv_X11_needArgument (mT_needArgument (d := d - 1) c_17) (by omega) (by exact Nat.le_of_ble_eq_true rfl) (show 0 + 0 ≤ 0 by omega) (show 0 + 0 ≤ 0 by omega) ?_
  obtain ⟨r_20, k_20, h⟩ := bd1_some h
  cases h
  exact wx_rx (wx_sub (s_X11_of_20 hS hd (show 0 + 0 ≤ 0 by omega) (show 0 + 0 ≤ 0 by omega) k_20 g) (px_s rfl (px_s rfl (px_s rfl px_0))))
theorem x_X11_of {d : Nat} {X : Nat × (Nat → Int32)} {sh : px_Sh} {M : px_M} {L : px_L} {R : px_R} {n : Nat} {p1 : Int32} {p2 : Int32} {e : Nat} (hS : SR sh R) (hd : 7 ≤ d) (h : f_X11_of sh M R p1 p2 = some (.inr e)) : MXT yX11_of cX11_of 3 (some .int) d 1 6 X [.ref 0, .int p1, .int p2] sh M L R n px_np (px_px (px_xn e) sh M L R n) := by
  refine MXT.of (by decide +kernel) (by exact Nat.le_of_ble_eq_true rfl) ?_
  have hcu : 0 ≤ 1 := Nat.zero_le _
  have hsu : 0 ≤ 6 := Nat.zero_le _
  have g : ∀ n', n ≤ n' → px_px (px_xn e) sh M L R n (px_xn e) sh M L R n' := fun n' hn => ⟨rfl, rfl, rfl, rfl, rfl, hn⟩
  unfold f_X11_of at h
  refine wx_aload_n dX11_of_0 rfl ?_
  refine wx_getR dX11_of_1 fl_X11_19 (sc_0 hS) rfl (rr_0_1 hS) ?_
  refine wx_iload_n dX11_of_4 rfl ?_
  obtain ⟨e_5, k_5, h⟩ := bd1_some h
  refine wx_cVi dX11_of_5 ml_X11_129 my_X8_hasPanel iv_X8_hasPanel (sc_6 hS) (by decide) (s_X8_hasPanel (d := d - 1) hS (by omega) k_5) rfl (by omega) (by exact Nat.le_of_ble_eq_true rfl) (show 0 + 0 ≤ 1 by omega) (show 0 + 0 ≤ 6 by omega) ?_
  by_cases c_8 : e_5 = 0
  · replace h := it_t h c_8
    obtain rfl := Sum.inr.inj (Option.some.inj h)
    exact wx_needF dX11_of_8 nl_needElement my_X11_needElement sv_X11_needElement (mF_needElement (d := d - 1) (by omega) c_8) (by omega) (by exact Nat.le_of_ble_eq_true rfl) (show 0 + 1 ≤ 1 by omega) (show 0 + 6 ≤ 6 by omega) g
  replace h := it_f h c_8
  refine wx_needT dX11_of_8 nl_needElement my_X11_needElement sv_X11_needElement (mT_needElement (d := d - 1) c_8) (by omega) (by exact Nat.le_of_ble_eq_true rfl) (show 0 + 0 ≤ 1 by omega) (show 0 + 0 ≤ 6 by omega) ?_
  refine wx_iload_n dX11_of_11 rfl ?_
  refine wx_iconst (v := 0) dX11_of_12 (by decide) ?_
  refine wx_iconst (v := 4) dX11_of_13 (by decide) ?_
  obtain ⟨e_14, k_14, h⟩ := bd1_some h
  refine wx_cSi dX11_of_14 ml_X11_65 my_X11_within sv_X11_within (s_X11_within (d := d - 1) hS (by omega) k_14) rfl (by omega) (by exact Nat.le_of_ble_eq_true rfl) (show 0 + 0 ≤ 1 by omega) (show 0 + 0 ≤ 6 by omega) ?_
  by_cases c_17 : e_14 = 0
  · replace h := it_t h c_17
    obtain rfl := Sum.inr.inj (Option.some.inj h)
    exact wx_needF dX11_of_17 nl_needArgument my_X11_needArgument sv_X11_needArgument (mF_needArgument (d := d - 1) (by omega) c_17) (by omega) (by exact Nat.le_of_ble_eq_true rfl) (show 0 + 1 ≤ 1 by omega) (show 0 + 6 ≤ 6 by omega) g
  replace h := it_f h c_17
  refine wx_needT dX11_of_17 nl_needArgument my_X11_needArgument sv_X11_needArgument (mT_needArgument (d := d - 1) c_17) (by omega) (by exact Nat.le_of_ble_eq_true rfl) (show 0 + 0 ≤ 1 by omega) (show 0 + 0 ≤ 6 by omega) ?_
  obtain ⟨r_20, k_20, h⟩ := bd1_some h
  cases h
noncomputable def f_X11_tear_11 (sh : px_Sh) (M : px_M) (R : px_R) (x1 : Int32) : Option (Int32 × px_M) :=
  ok (ix x1 16) <|
  bd1 (R 7 x1.toNatClampNeg) fun b_19 =>
  ok (hk sh b_19 5) <|
  nm (M b_19 5) fun v_23 =>
  ok (ix x1 16) <|
  bd1 (R 7 x1.toNatClampNeg) fun b_32 =>
  ok (hk sh b_32 5) <|
  nm (px_u M b_32 5 1) fun M_34 =>
  ok (zb v_23) <|
  some (v_23, M_34)
theorem s_X11_tear_11 {x1 : Int32} {M : px_M} {L : px_L} {R : px_R} {e : (Int32 × px_M)} (hS : SR sh R) (hd : 7 ≤ d) (hcu : cu ≤ mc) (hsu : su ≤ ms) (h : f_X11_tear_11 sh M R x1 = some e) (g : Post (some (.int (e.1))) sh (e.2) L R n) : WX RX11 cX11_tear 3 (some .boolean) ("tear", []) d mc ms X (px_QF Post mc ms) 11 [(0, .ref 0), (1, .int x1)] [] sh M L R n cu su := by
  unfold f_X11_tear_11 at h
  refine wx_aload_n dX11_tear_11 rfl ?_
  refine wx_getR dX11_tear_12 fl_X11_19 (sc_0 hS) rfl (rr_0_1 hS) ?_
  refine wx_getR dX11_tear_15 fl_X11_135 (sc_6 hS) rfl (rr_6_0 hS) ?_
  refine wx_iload_n dX11_tear_18 rfl ?_
  obtain ⟨w_19, h⟩ := ok_some h
  obtain ⟨b_19, wr_19, h⟩ := bd1_some h
  refine wx_aald dX11_tear_19 (sc_7 hS) (by decide) (by decide) (ix_in w_19) wr_19 ?_
  obtain ⟨ws_20, h⟩ := ok_some h
  obtain ⟨ln_20, wt_20⟩ := hk_some ws_20
  refine wx_getI dX11_tear_20 fl_X11_144 wt_20 rfl ?_
  refine wx_nami (fun v_23 q_23 => ?_)
  replace h := nm_at h q_23
  refine wx_istore_n (lv' := [(2, _), (0, _), (1, _)]) dX11_tear_23 (by decide) rfl ?_
  refine wx_aload_n dX11_tear_24 rfl ?_
  refine wx_getR dX11_tear_25 fl_X11_19 (sc_0 hS) rfl (rr_0_1 hS) ?_
  refine wx_getR dX11_tear_28 fl_X11_135 (sc_6 hS) rfl (rr_6_0 hS) ?_
  refine wx_iload_n dX11_tear_31 rfl ?_
  obtain ⟨w_32, h⟩ := ok_some h
  obtain ⟨b_32, wr_32, h⟩ := bd1_some h
  refine wx_aald dX11_tear_32 (sc_7 hS) (by decide) (by decide) (ix_in w_32) wr_32 ?_
  refine wx_iconst (v := 1) dX11_tear_33 (by decide) ?_
  obtain ⟨ws_34, h⟩ := ok_some h
  obtain ⟨ln_34, wt_34⟩ := hk_some ws_34
  refine wx_putI dX11_tear_34 fl_X11_144 wt_34 (Or.inl rfl) rfl ⟨rfl, rfl⟩ ?_
  refine wx_namM (fun M_34 q_34 => ?_)
  replace h := nm_at h q_34
  refine wx_iload_n dX11_tear_37 rfl ?_
  obtain ⟨w_38, h⟩ := ok_some h
  refine wx_zret dX11_tear_38 (zb_n w_38) hcu hsu ?_
  obtain rfl := Option.some.inj h
  exact g
noncomputable def f_X11_tear (sh : px_Sh) (M : px_M) (R : px_R) (p1 : Int32) : Option ((Int32 × px_M) ⊕ Nat) :=
  bd1 (f_X8_hasPanel M p1) fun e_5 =>
  if e_5 = 0 then some (.inr 3) else
  bd1 (f_X11_tear_11 sh M R p1) fun r_11 => some (.inl r_11)
theorem s_X11_tear {d : Nat} {X : Nat × (Nat → Int32)} {sh : px_Sh} {M : px_M} {L : px_L} {R : px_R} {n : Nat} {p1 : Int32} {e : Int32 × px_M} (hS : SR sh R) (hd : 7 ≤ d) (h : f_X11_tear sh M R p1 = some (.inl e)) : MXT yX11_tear cX11_tear 3 (some .boolean) d 0 0 X [.ref 0, .int p1] sh M L R n (px_pu (some (.int e.1)) sh e.2 L R n) px_nx := by
  refine MXT.of (by decide +kernel) (by exact Nat.le_of_ble_eq_true rfl) ?_
  have hcu : 0 ≤ 0 := Nat.zero_le _
  have hsu : 0 ≤ 0 := Nat.zero_le _
  have g : px_pu (some (.int e.1)) sh e.2 L R n (some (.int e.1)) sh e.2 L R n := ⟨rfl, rfl, rfl, rfl, rfl, rfl⟩
  unfold f_X11_tear at h
  refine wx_aload_n dX11_tear_0 rfl ?_
  refine wx_getR dX11_tear_1 fl_X11_19 (sc_0 hS) rfl (rr_0_1 hS) ?_
  refine wx_iload_n dX11_tear_4 rfl ?_
  obtain ⟨e_5, k_5, h⟩ := bd1_some h
  refine wx_cVi dX11_tear_5 ml_X11_129 my_X8_hasPanel iv_X8_hasPanel (sc_6 hS) (by decide) (s_X8_hasPanel (d := d - 1) hS (by omega) k_5) rfl (by omega) (by exact Nat.le_of_ble_eq_true rfl) (show 0 + 0 ≤ 0 by omega) (show 0 + 0 ≤ 0 by omega) ?_
  by_cases c_8 : e_5 = 0
  · replace h := it_t h c_8
    cases h
  replace h := it_f h c_8
  refine wx_needT dX11_tear_8 nl_needElement my_X11_needElement sv_X11_needElement (mT_needElement (d := d - 1) c_8) (by omega) (by exact Nat.le_of_ble_eq_true rfl) (show 0 + 0 ≤ 0 by omega) (show 0 + 0 ≤ 0 by omega) ?_
  obtain ⟨r_11, k_11, h⟩ := bd1_some h
  cases h
  exact wx_rx (wx_sub (s_X11_tear_11 hS hd (show 0 + 0 ≤ 0 by omega) (show 0 + 0 ≤ 0 by omega) k_11 g) (px_s rfl (px_s rfl px_0)))
theorem x_X11_tear {d : Nat} {X : Nat × (Nat → Int32)} {sh : px_Sh} {M : px_M} {L : px_L} {R : px_R} {n : Nat} {p1 : Int32} {e : Nat} (hS : SR sh R) (hd : 7 ≤ d) (h : f_X11_tear sh M R p1 = some (.inr e)) : MXT yX11_tear cX11_tear 3 (some .boolean) d 1 6 X [.ref 0, .int p1] sh M L R n px_np (px_px (px_xn e) sh M L R n) := by
  refine MXT.of (by decide +kernel) (by exact Nat.le_of_ble_eq_true rfl) ?_
  have hcu : 0 ≤ 1 := Nat.zero_le _
  have hsu : 0 ≤ 6 := Nat.zero_le _
  have g : ∀ n', n ≤ n' → px_px (px_xn e) sh M L R n (px_xn e) sh M L R n' := fun n' hn => ⟨rfl, rfl, rfl, rfl, rfl, hn⟩
  unfold f_X11_tear at h
  refine wx_aload_n dX11_tear_0 rfl ?_
  refine wx_getR dX11_tear_1 fl_X11_19 (sc_0 hS) rfl (rr_0_1 hS) ?_
  refine wx_iload_n dX11_tear_4 rfl ?_
  obtain ⟨e_5, k_5, h⟩ := bd1_some h
  refine wx_cVi dX11_tear_5 ml_X11_129 my_X8_hasPanel iv_X8_hasPanel (sc_6 hS) (by decide) (s_X8_hasPanel (d := d - 1) hS (by omega) k_5) rfl (by omega) (by exact Nat.le_of_ble_eq_true rfl) (show 0 + 0 ≤ 1 by omega) (show 0 + 0 ≤ 6 by omega) ?_
  by_cases c_8 : e_5 = 0
  · replace h := it_t h c_8
    obtain rfl := Sum.inr.inj (Option.some.inj h)
    exact wx_needF dX11_tear_8 nl_needElement my_X11_needElement sv_X11_needElement (mF_needElement (d := d - 1) (by omega) c_8) (by omega) (by exact Nat.le_of_ble_eq_true rfl) (show 0 + 1 ≤ 1 by omega) (show 0 + 6 ≤ 6 by omega) g
  replace h := it_f h c_8
  refine wx_needT dX11_tear_8 nl_needElement my_X11_needElement sv_X11_needElement (mT_needElement (d := d - 1) c_8) (by omega) (by exact Nat.le_of_ble_eq_true rfl) (show 0 + 0 ≤ 1 by omega) (show 0 + 0 ≤ 6 by omega) ?_
  obtain ⟨r_11, k_11, h⟩ := bd1_some h
  cases h
noncomputable def f_X11_flap_11 (sh : px_Sh) (M : px_M) (R : px_R) (x1 : Int32) : Option (Int32 × px_M × px_R) :=
  bd1 (f_X8_makeFlap sh M R x1) fun e_16 =>
  some (e_16.1, e_16.2.1, e_16.2.2)
theorem s_X11_flap_11 {x1 : Int32} {M : px_M} {L : px_L} {R : px_R} {e : (Int32 × px_M × px_R)} (hS : SR sh R) (hd : 7 ≤ d) (hcu : cu ≤ mc) (hsu : su ≤ ms) (h : f_X11_flap_11 sh M R x1 = some e) (g : SR sh (e.2.2) → Post (some (.int (e.1))) sh (e.2.1) L (e.2.2) n) : WX RX11 cX11_flap 2 (some .int) ("flap", []) d mc ms X (px_QF Post mc ms) 11 [(0, .ref 0), (1, .int x1)] [] sh M L R n cu su := by
  unfold f_X11_flap_11 at h
  refine wx_aload_n dX11_flap_11 rfl ?_
  refine wx_getR dX11_flap_12 fl_X11_19 (sc_0 hS) rfl (rr_0_1 hS) ?_
  refine wx_iload_n dX11_flap_15 rfl ?_
  obtain ⟨e_16, k_16, h⟩ := bd1_some h
  refine wx_cViS dX11_flap_16 ml_X11_148 my_X8_makeFlap iv_X8_makeFlap (sc_6 hS) (by decide) (s_X8_makeFlap (d := d - 1) hS (by omega) k_16) rfl (by omega) (by exact Nat.le_of_ble_eq_true rfl) hcu hsu (fun hS => ?_)
  refine wx_iret dX11_flap_19 hcu hsu ?_
  obtain rfl := Option.some.inj h
  exact g hS
noncomputable def f_X11_flap (sh : px_Sh) (M : px_M) (R : px_R) (p1 : Int32) : Option ((Int32 × px_M × px_R) ⊕ Nat) :=
  bd1 (f_X8_hasPanel M p1) fun e_5 =>
  if e_5 = 0 then some (.inr 3) else
  bd1 (f_X11_flap_11 sh M R p1) fun r_11 => some (.inl r_11)
theorem s_X11_flap {d : Nat} {X : Nat × (Nat → Int32)} {sh : px_Sh} {M : px_M} {L : px_L} {R : px_R} {n : Nat} {p1 : Int32} {e : Int32 × px_M × px_R} (hS : SR sh R) (hd : 7 ≤ d) (h : f_X11_flap sh M R p1 = some (.inl e)) : MXT yX11_flap cX11_flap 2 (some .int) d 0 0 X [.ref 0, .int p1] sh M L R n (px_ps (some (.int e.1)) sh e.2.1 L e.2.2 n) px_nx := by
  refine MXT.of (by decide +kernel) (by exact Nat.le_of_ble_eq_true rfl) ?_
  have hcu : 0 ≤ 0 := Nat.zero_le _
  have hsu : 0 ≤ 0 := Nat.zero_le _
  have g : SR sh e.2.2 → px_ps (some (.int e.1)) sh e.2.1 L e.2.2 n (some (.int e.1)) sh e.2.1 L e.2.2 n := fun q => ⟨⟨rfl, rfl, rfl, rfl, rfl, rfl⟩, q⟩
  unfold f_X11_flap at h
  refine wx_aload_n dX11_flap_0 rfl ?_
  refine wx_getR dX11_flap_1 fl_X11_19 (sc_0 hS) rfl (rr_0_1 hS) ?_
  refine wx_iload_n dX11_flap_4 rfl ?_
  obtain ⟨e_5, k_5, h⟩ := bd1_some h
  refine wx_cVi dX11_flap_5 ml_X11_129 my_X8_hasPanel iv_X8_hasPanel (sc_6 hS) (by decide) (s_X8_hasPanel (d := d - 1) hS (by omega) k_5) rfl (by omega) (by exact Nat.le_of_ble_eq_true rfl) (show 0 + 0 ≤ 0 by omega) (show 0 + 0 ≤ 0 by omega) ?_
  by_cases c_8 : e_5 = 0
  · replace h := it_t h c_8
    cases h
  replace h := it_f h c_8
  refine wx_needT dX11_flap_8 nl_needElement my_X11_needElement sv_X11_needElement (mT_needElement (d := d - 1) c_8) (by omega) (by exact Nat.le_of_ble_eq_true rfl) (show 0 + 0 ≤ 0 by omega) (show 0 + 0 ≤ 0 by omega) ?_
  obtain ⟨r_11, k_11, h⟩ := bd1_some h
  cases h
  exact wx_rx (wx_sub (s_X11_flap_11 hS hd (show 0 + 0 ≤ 0 by omega) (show 0 + 0 ≤ 0 by omega) k_11 g) (px_s rfl (px_s rfl px_0)))
theorem x_X11_flap {d : Nat} {X : Nat × (Nat → Int32)} {sh : px_Sh} {M : px_M} {L : px_L} {R : px_R} {n : Nat} {p1 : Int32} {e : Nat} (hS : SR sh R) (hd : 7 ≤ d) (h : f_X11_flap sh M R p1 = some (.inr e)) : MXT yX11_flap cX11_flap 2 (some .int) d 1 6 X [.ref 0, .int p1] sh M L R n px_np (px_px (px_xn e) sh M L R n) := by
  refine MXT.of (by decide +kernel) (by exact Nat.le_of_ble_eq_true rfl) ?_
  have hcu : 0 ≤ 1 := Nat.zero_le _
  have hsu : 0 ≤ 6 := Nat.zero_le _
  have g : ∀ n', n ≤ n' → px_px (px_xn e) sh M L R n (px_xn e) sh M L R n' := fun n' hn => ⟨rfl, rfl, rfl, rfl, rfl, hn⟩
  unfold f_X11_flap at h
  refine wx_aload_n dX11_flap_0 rfl ?_
  refine wx_getR dX11_flap_1 fl_X11_19 (sc_0 hS) rfl (rr_0_1 hS) ?_
  refine wx_iload_n dX11_flap_4 rfl ?_
  obtain ⟨e_5, k_5, h⟩ := bd1_some h
  refine wx_cVi dX11_flap_5 ml_X11_129 my_X8_hasPanel iv_X8_hasPanel (sc_6 hS) (by decide) (s_X8_hasPanel (d := d - 1) hS (by omega) k_5) rfl (by omega) (by exact Nat.le_of_ble_eq_true rfl) (show 0 + 0 ≤ 1 by omega) (show 0 + 0 ≤ 6 by omega) ?_
  by_cases c_8 : e_5 = 0
  · replace h := it_t h c_8
    obtain rfl := Sum.inr.inj (Option.some.inj h)
    exact wx_needF dX11_flap_8 nl_needElement my_X11_needElement sv_X11_needElement (mF_needElement (d := d - 1) (by omega) c_8) (by omega) (by exact Nat.le_of_ble_eq_true rfl) (show 0 + 1 ≤ 1 by omega) (show 0 + 6 ≤ 6 by omega) g
  replace h := it_f h c_8
  refine wx_needT dX11_flap_8 nl_needElement my_X11_needElement sv_X11_needElement (mT_needElement (d := d - 1) c_8) (by omega) (by exact Nat.le_of_ble_eq_true rfl) (show 0 + 0 ≤ 1 by omega) (show 0 + 0 ≤ 6 by omega) ?_
  obtain ⟨r_11, k_11, h⟩ := bd1_some h
  cases h
noncomputable def f_X11_dust_41 (M : px_M) (x1 : Int32) (x2 : Int32) : Option (Int32 × px_M) :=
  bd1 (f_X9_addDust M x1 x2) fun e_47 =>
  some (e_47.1, e_47.2)
theorem s_X11_dust_41 {x1 : Int32} {x2 : Int32} {M : px_M} {L : px_L} {R : px_R} {e : (Int32 × px_M)} (hS : SR sh R) (hd : 7 ≤ d) (hcu : cu ≤ mc) (hsu : su ≤ ms) (h : f_X11_dust_41 M x1 x2 = some e) (g : Post (some (.int (e.1))) sh (e.2) L R n) : WX RX11 cX11_dust 3 (some .int) ("dust", []) d mc ms X (px_QF Post mc ms) 41 [(0, .ref 0), (1, .int x1), (2, .int x2)] [] sh M L R n cu su := by
  unfold f_X11_dust_41 at h
  refine wx_aload_n dX11_dust_41 rfl ?_
  refine wx_getR dX11_dust_42 fl_X11_26 (sc_0 hS) rfl (rr_0_2 hS) ?_
  refine wx_iload_n dX11_dust_45 rfl ?_
  refine wx_iload_n dX11_dust_46 rfl ?_
  obtain ⟨e_47, k_47, h⟩ := bd1_some h
  refine wx_cVi dX11_dust_47 ml_X11_256 my_X9_addDust iv_X9_addDust (sc_14 hS) (by decide) (s_X9_addDust (d := d - 1) hS (by omega) k_47) rfl (by omega) (by exact Nat.le_of_ble_eq_true rfl) hcu hsu ?_
  refine wx_iret dX11_dust_50 hcu hsu ?_
  obtain rfl := Option.some.inj h
  exact g
noncomputable def f_X11_dust_38 (M : px_M) (x1 : Int32) (x2 : Int32) (z0 : Int32) : Option ((Int32 × px_M) ⊕ Nat) :=
  if z0 = 0 then some (.inr 0) else
  bd1 (f_X11_dust_41 M x1 x2) fun r_41 => some (.inl r_41)
theorem s_X11_dust_38 {x1 : Int32} {x2 : Int32} {z0 : Int32} {PX : px_PX} {M : px_M} {L : px_L} {R : px_R} {e : Int32 × px_M} (hS : SR sh R) (hd : 7 ≤ d) (hcu : cu ≤ mc) (hsu : su ≤ ms) (h : f_X11_dust_38 M x1 x2 z0 = some (.inl e)) (g : Post (some (.int (e.1))) sh (e.2) L R n) : WX RX11 cX11_dust 3 (some .int) ("dust", []) d mc ms X (px_QX Post PX mc ms) 38 [(0, .ref 0), (1, .int x1), (2, .int x2)] [.int z0] sh M L R n cu su := by
  unfold f_X11_dust_38 at h
  by_cases c_38 : z0 = 0
  · replace h := it_t h c_38
    cases h
  replace h := it_f h c_38
  refine wx_needT dX11_dust_38 nl_needArgument my_X11_needArgument sv_X11_needArgument (mT_needArgument (d := d - 1) c_38) (by omega) (by exact Nat.le_of_ble_eq_true rfl) (show cu + 0 ≤ mc by omega) (show su + 0 ≤ ms by omega) ?_
  obtain ⟨r_41, k_41, h⟩ := bd1_some h
  cases h
  exact wx_rx (wx_sub (s_X11_dust_41 hS hd (show cu + 0 ≤ mc by omega) (show su + 0 ≤ ms by omega) k_41 g) (px_s rfl (px_s rfl (px_s rfl px_0))))
theorem x_X11_dust_38 {x1 : Int32} {x2 : Int32} {z0 : Int32} {PX : px_PX} {M : px_M} {L : px_L} {R : px_R} {e : Nat} (hS : SR sh R) (hd : 7 ≤ d) (hcu : cu + 1 ≤ mc) (hsu : su + 6 ≤ ms) (h : f_X11_dust_38 M x1 x2 z0 = some (.inr e)) (g : ∀ n', n ≤ n' → PX (px_xn e) sh M L R n') : WX RX11 cX11_dust 3 (some .int) ("dust", []) d mc ms X (px_QX Post PX mc ms) 38 [(0, .ref 0), (1, .int x1), (2, .int x2)] [.int z0] sh M L R n cu su := by
  unfold f_X11_dust_38 at h
  by_cases c_38 : z0 = 0
  · replace h := it_t h c_38
    obtain rfl := Sum.inr.inj (Option.some.inj h)
    exact wx_needF dX11_dust_38 nl_needArgument my_X11_needArgument sv_X11_needArgument (mF_needArgument (d := d - 1) (by omega) c_38) (by omega) (by exact Nat.le_of_ble_eq_true rfl) (show cu + 1 ≤ mc by omega) (show su + 6 ≤ ms by omega) g
  replace h := it_f h c_38
  refine wx_needT dX11_dust_38 nl_needArgument my_X11_needArgument sv_X11_needArgument (mT_needArgument (d := d - 1) c_38) (by omega) (by exact Nat.le_of_ble_eq_true rfl) (show cu + 0 ≤ mc by omega) (show su + 0 ≤ ms by omega) ?_
  obtain ⟨r_41, k_41, h⟩ := bd1_some h
  cases h
noncomputable def f_X11_dust_37 (M : px_M) (x1 : Int32) (x2 : Int32) : Option ((Int32 × px_M) ⊕ Nat) :=
  f_X11_dust_38 M x1 x2 0
theorem s_X11_dust_37 {x1 : Int32} {x2 : Int32} {PX : px_PX} {M : px_M} {L : px_L} {R : px_R} {e : Int32 × px_M} (hS : SR sh R) (hd : 7 ≤ d) (hcu : cu ≤ mc) (hsu : su ≤ ms) (h : f_X11_dust_37 M x1 x2 = some (.inl e)) (g : Post (some (.int (e.1))) sh (e.2) L R n) : WX RX11 cX11_dust 3 (some .int) ("dust", []) d mc ms X (px_QX Post PX mc ms) 37 [(0, .ref 0), (1, .int x1), (2, .int x2)] [] sh M L R n cu su := by
  unfold f_X11_dust_37 at h
  refine wx_iconst (v := 0) dX11_dust_37 (by decide) ?_
  exact wx_sub (s_X11_dust_38 hS hd (show cu + 0 ≤ mc by omega) (show su + 0 ≤ ms by omega) h g) (px_s rfl (px_s rfl (px_s rfl px_0)))
theorem x_X11_dust_37 {x1 : Int32} {x2 : Int32} {PX : px_PX} {M : px_M} {L : px_L} {R : px_R} {e : Nat} (hS : SR sh R) (hd : 7 ≤ d) (hcu : cu + 1 ≤ mc) (hsu : su + 6 ≤ ms) (h : f_X11_dust_37 M x1 x2 = some (.inr e)) (g : ∀ n', n ≤ n' → PX (px_xn e) sh M L R n') : WX RX11 cX11_dust 3 (some .int) ("dust", []) d mc ms X (px_QX Post PX mc ms) 37 [(0, .ref 0), (1, .int x1), (2, .int x2)] [] sh M L R n cu su := by
  unfold f_X11_dust_37 at h
  refine wx_iconst (v := 0) dX11_dust_37 (by decide) ?_
  exact wx_sub (x_X11_dust_38 hS hd (show cu + 1 ≤ mc by omega) (show su + 6 ≤ ms by omega) h g) (px_s rfl (px_s rfl (px_s rfl px_0)))
noncomputable def f_X11_dust (M : px_M) (p1 : Int32) (p2 : Int32) : Option ((Int32 × px_M) ⊕ Nat) :=
  bd1 (f_X8_hasPanel M p1) fun e_5 =>
  if e_5 = 0 then some (.inr 3) else
  bd1 (f_X11_within p2 0 1999) fun e_16 =>
  if e_16 = 0 then
    f_X11_dust_37 M p1 p2
  else
    if p2 < (M 14 0) then
      f_X11_dust_37 M p1 p2
    else
      f_X11_dust_38 M p1 p2 1
theorem s_X11_dust {d : Nat} {X : Nat × (Nat → Int32)} {sh : px_Sh} {M : px_M} {L : px_L} {R : px_R} {n : Nat} {p1 : Int32} {p2 : Int32} {e : Int32 × px_M} (hS : SR sh R) (hd : 7 ≤ d) (h : f_X11_dust M p1 p2 = some (.inl e)) : MXT yX11_dust cX11_dust 3 (some .int) d 0 0 X [.ref 0, .int p1, .int p2] sh M L R n (px_pu (some (.int e.1)) sh e.2 L R n) px_nx := by
  refine MXT.of (by decide +kernel) (by exact Nat.le_of_ble_eq_true rfl) ?_
  have hcu : 0 ≤ 0 := Nat.zero_le _
  have hsu : 0 ≤ 0 := Nat.zero_le _
  have g : px_pu (some (.int e.1)) sh e.2 L R n (some (.int e.1)) sh e.2 L R n := ⟨rfl, rfl, rfl, rfl, rfl, rfl⟩
  unfold f_X11_dust at h
  refine wx_aload_n dX11_dust_0 rfl ?_
  refine wx_getR dX11_dust_1 fl_X11_19 (sc_0 hS) rfl (rr_0_1 hS) ?_
  refine wx_iload_n dX11_dust_4 rfl ?_
  obtain ⟨e_5, k_5, h⟩ := bd1_some h
  refine wx_cVi dX11_dust_5 ml_X11_129 my_X8_hasPanel iv_X8_hasPanel (sc_6 hS) (by decide) (s_X8_hasPanel (d := d - 1) hS (by omega) k_5) rfl (by omega) (by exact Nat.le_of_ble_eq_true rfl) (show 0 + 0 ≤ 0 by omega) (show 0 + 0 ≤ 0 by omega) ?_
  by_cases c_8 : e_5 = 0
  · replace h := it_t h c_8
    cases h
  replace h := it_f h c_8
  refine wx_needT dX11_dust_8 nl_needElement my_X11_needElement sv_X11_needElement (mT_needElement (d := d - 1) c_8) (by omega) (by exact Nat.le_of_ble_eq_true rfl) (show 0 + 0 ≤ 0 by omega) (show 0 + 0 ≤ 0 by omega) ?_
  refine wx_iload_n dX11_dust_11 rfl ?_
  refine wx_iconst (v := 0) dX11_dust_12 (by decide) ?_
  refine wx_sipush (v := 1999) dX11_dust_13 (by decide) ?_
  obtain ⟨e_16, k_16, h⟩ := bd1_some h
  refine wx_cSi dX11_dust_16 ml_X11_65 my_X11_within sv_X11_within (s_X11_within (d := d - 1) hS (by omega) k_16) rfl (by omega) (by exact Nat.le_of_ble_eq_true rfl) (show 0 + 0 ≤ 0 by omega) (show 0 + 0 ≤ 0 by omega) ?_
  refine wx_if_eq (tgt := 37) dX11_dust_19 (by decide) (fun c_19 => ?_) (fun c_19 => ?_)
  · replace h := it_t h c_19
    exact wx_sub (s_X11_dust_37 hS hd (show 0 + 0 ≤ 0 by omega) (show 0 + 0 ≤ 0 by omega) h g) (px_s rfl (px_s rfl (px_s rfl px_0)))
  · replace h := it_f h c_19
    refine wx_iload_n dX11_dust_22 rfl ?_
    refine wx_aload_n dX11_dust_23 rfl ?_
    refine wx_getR dX11_dust_24 fl_X11_26 (sc_0 hS) rfl (rr_0_2 hS) ?_
    refine wx_getI dX11_dust_27 fl_X11_253 (sc_14 hS) rfl ?_
    refine wx_icmp_lt (tgt := 37) dX11_dust_30 (by decide) (fun c_30 => ?_) (fun c_30 => ?_)
    · replace h := it_t h c_30
      exact wx_sub (s_X11_dust_37 hS hd (show 0 + 0 ≤ 0 by omega) (show 0 + 0 ≤ 0 by omega) h g) (px_s rfl (px_s rfl (px_s rfl px_0)))
    · replace h := it_f h c_30
      refine wx_iconst (v := 1) dX11_dust_33 (by decide) ?_
      refine wx_goto (tgt := 38) dX11_dust_34 (by decide) ?_
      exact wx_sub (s_X11_dust_38 hS hd (show 0 + 0 ≤ 0 by omega) (show 0 + 0 ≤ 0 by omega) h g) (px_s rfl (px_s rfl (px_s rfl px_0)))
theorem x_X11_dust {d : Nat} {X : Nat × (Nat → Int32)} {sh : px_Sh} {M : px_M} {L : px_L} {R : px_R} {n : Nat} {p1 : Int32} {p2 : Int32} {e : Nat} (hS : SR sh R) (hd : 7 ≤ d) (h : f_X11_dust M p1 p2 = some (.inr e)) : MXT yX11_dust cX11_dust 3 (some .int) d 1 6 X [.ref 0, .int p1, .int p2] sh M L R n px_np (px_px (px_xn e) sh M L R n) := by
  refine MXT.of (by decide +kernel) (by exact Nat.le_of_ble_eq_true rfl) ?_
  have hcu : 0 ≤ 1 := Nat.zero_le _
  have hsu : 0 ≤ 6 := Nat.zero_le _
  have g : ∀ n', n ≤ n' → px_px (px_xn e) sh M L R n (px_xn e) sh M L R n' := fun n' hn => ⟨rfl, rfl, rfl, rfl, rfl, hn⟩
  unfold f_X11_dust at h
  refine wx_aload_n dX11_dust_0 rfl ?_
  refine wx_getR dX11_dust_1 fl_X11_19 (sc_0 hS) rfl (rr_0_1 hS) ?_
  refine wx_iload_n dX11_dust_4 rfl ?_
  obtain ⟨e_5, k_5, h⟩ := bd1_some h
  refine wx_cVi dX11_dust_5 ml_X11_129 my_X8_hasPanel iv_X8_hasPanel (sc_6 hS) (by decide) (s_X8_hasPanel (d := d - 1) hS (by omega) k_5) rfl (by omega) (by exact Nat.le_of_ble_eq_true rfl) (show 0 + 0 ≤ 1 by omega) (show 0 + 0 ≤ 6 by omega) ?_
  by_cases c_8 : e_5 = 0
  · replace h := it_t h c_8
    obtain rfl := Sum.inr.inj (Option.some.inj h)
    exact wx_needF dX11_dust_8 nl_needElement my_X11_needElement sv_X11_needElement (mF_needElement (d := d - 1) (by omega) c_8) (by omega) (by exact Nat.le_of_ble_eq_true rfl) (show 0 + 1 ≤ 1 by omega) (show 0 + 6 ≤ 6 by omega) g
  replace h := it_f h c_8
  refine wx_needT dX11_dust_8 nl_needElement my_X11_needElement sv_X11_needElement (mT_needElement (d := d - 1) c_8) (by omega) (by exact Nat.le_of_ble_eq_true rfl) (show 0 + 0 ≤ 1 by omega) (show 0 + 0 ≤ 6 by omega) ?_
  refine wx_iload_n dX11_dust_11 rfl ?_
  refine wx_iconst (v := 0) dX11_dust_12 (by decide) ?_
  refine wx_sipush (v := 1999) dX11_dust_13 (by decide) ?_
  obtain ⟨e_16, k_16, h⟩ := bd1_some h
  refine wx_cSi dX11_dust_16 ml_X11_65 my_X11_within sv_X11_within (s_X11_within (d := d - 1) hS (by omega) k_16) rfl (by omega) (by exact Nat.le_of_ble_eq_true rfl) (show 0 + 0 ≤ 1 by omega) (show 0 + 0 ≤ 6 by omega) ?_
  refine wx_if_eq (tgt := 37) dX11_dust_19 (by decide) (fun c_19 => ?_) (fun c_19 => ?_)
  · replace h := it_t h c_19
    exact wx_sub (x_X11_dust_37 hS hd (show 0 + 1 ≤ 1 by omega) (show 0 + 6 ≤ 6 by omega) h g) (px_s rfl (px_s rfl (px_s rfl px_0)))
  · replace h := it_f h c_19
    refine wx_iload_n dX11_dust_22 rfl ?_
    refine wx_aload_n dX11_dust_23 rfl ?_
    refine wx_getR dX11_dust_24 fl_X11_26 (sc_0 hS) rfl (rr_0_2 hS) ?_
    refine wx_getI dX11_dust_27 fl_X11_253 (sc_14 hS) rfl ?_
    refine wx_icmp_lt (tgt := 37) dX11_dust_30 (by decide) (fun c_30 => ?_) (fun c_30 => ?_)
    · replace h := it_t h c_30
      exact wx_sub (x_X11_dust_37 hS hd (show 0 + 1 ≤ 1 by omega) (show 0 + 6 ≤ 6 by omega) h g) (px_s rfl (px_s rfl (px_s rfl px_0)))
    · replace h := it_f h c_30
      refine wx_iconst (v := 1) dX11_dust_33 (by decide) ?_
      refine wx_goto (tgt := 38) dX11_dust_34 (by decide) ?_
      exact wx_sub (x_X11_dust_38 hS hd (show 0 + 1 ≤ 1 by omega) (show 0 + 6 ≤ 6 by omega) h g) (px_s rfl (px_s rfl (px_s rfl px_0)))
end LIFT
