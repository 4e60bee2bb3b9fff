/-! the face -/
section LIFT
variable {d mc ms : Nat} {X : Nat × (Nat → Int32)} {Post : px_Post} {sh : px_Sh} {n cu su : Nat}
noncomputable def f_X11_strip_26 (M : px_M) (x1 : Int32) (x2 : Int32) : Option (Int32 × px_M) :=
  bd1 (f_X2_tell M x1 x2) fun e_32 =>
  some (e_32.1, e_32.2)
theorem s_X11_strip_26 {x1 : Int32} {x2 : Int32} {M : px_M} {L : px_L} {R : px_R} {e : (Int32 × px_M)} (hS : SR sh R) (hd : 14 ≤ d) (hcu : cu ≤ mc) (hsu : su ≤ ms) (h : f_X11_strip_26 M x1 x2 = some e) (g : Post (some (.int (e.1))) sh (e.2) L R n) : WX RX11 cX11_strip 3 (some .int) ("strip", []) d mc ms X (px_QF Post mc ms) 26 [(0, .ref 0), (1, .int x1), (2, .int x2)] [] sh M L R n cu su := by
  unfold f_X11_strip_26 at h
  refine wx_aload_n dX11_strip_26 rfl ?_
  refine wx_getR dX11_strip_27 fl_X11_12 (sc_0 hS) rfl (rr_0_0 hS) ?_
  refine wx_iload_n dX11_strip_30 rfl ?_
  refine wx_iload_n dX11_strip_31 rfl ?_
  obtain ⟨e_32, k_32, h⟩ := bd1_some h
  refine wx_cVi dX11_strip_32 ml_X11_73 my_X2_tell iv_X2_tell (sc_1 hS) (by decide) (s_X2_tell (d := d - 1) hS (by omega) k_32) rfl (by omega) (by exact Nat.le_of_ble_eq_true rfl) hcu hsu ?_
  refine wx_iret dX11_strip_35 hcu hsu ?_
  obtain rfl := Option.some.inj h
  exact g
noncomputable def f_X11_strip_23 (M : px_M) (x1 : Int32) (x2 : Int32) (z0 : Int32) : Option ((Int32 × px_M) ⊕ Nat) :=
  if z0 = 0 then some (.inr 0) else
  bd1 (f_X11_strip_26 M x1 x2) fun r_26 => some (.inl r_26)
theorem s_X11_strip_23 {x1 : Int32} {x2 : Int32} {z0 : Int32} {PX : px_PX} {M : px_M} {L : px_L} {R : px_R} {e : Int32 × px_M} (hS : SR sh R) (hd : 14 ≤ d) (hcu : cu ≤ mc) (hsu : su ≤ ms) (h : f_X11_strip_23 M x1 x2 z0 = some (.inl e)) (g : Post (some (.int (e.1))) sh (e.2) L R n) : WX RX11 cX11_strip 3 (some .int) ("strip", []) d mc ms X (px_QX Post PX mc ms) 23 [(0, .ref 0), (1, .int x1), (2, .int x2)] [.int z0] sh M L R n cu su := by
  unfold f_X11_strip_23 at h
  by_cases c_23 : z0 = 0
  · replace h := it_t h c_23
    cases h
  replace h := it_f h c_23
  refine wx_needT dX11_strip_23 nl_needArgument my_X11_needArgument sv_X11_needArgument (mT_needArgument (d := d - 1) c_23) (by omega) (by exact Nat.le_of_ble_eq_true rfl) (show cu + 0 ≤ mc by omega) (show su + 0 ≤ ms by omega) ?_
  obtain ⟨r_26, k_26, h⟩ := bd1_some h
  cases h
  exact wx_rx (wx_sub (s_X11_strip_26 hS hd (show cu + 0 ≤ mc by omega) (show su + 0 ≤ ms by omega) k_26 g) (px_s rfl (px_s rfl (px_s rfl px_0))))
theorem x_X11_strip_23 {x1 : Int32} {x2 : Int32} {z0 : Int32} {PX : px_PX} {M : px_M} {L : px_L} {R : px_R} {e : Nat} (hS : SR sh R) (hd : 14 ≤ d) (hcu : cu + 1 ≤ mc) (hsu : su + 6 ≤ ms) (h : f_X11_strip_23 M x1 x2 z0 = some (.inr e)) (g : ∀ n', n ≤ n' → PX (px_xn e) sh M L R n') : WX RX11 cX11_strip 3 (some .int) ("strip", []) d mc ms X (px_QX Post PX mc ms) 23 [(0, .ref 0), (1, .int x1), (2, .int x2)] [.int z0] sh M L R n cu su := by
  unfold f_X11_strip_23 at h
  by_cases c_23 : z0 = 0
  · replace h := it_t h c_23
    obtain rfl := Sum.inr.inj (Option.some.inj h)
    exact wx_needF dX11_strip_23 nl_needArgument my_X11_needArgument sv_X11_needArgument (mF_needArgument (d := d - 1) (by omega) c_23) (by omega) (by exact Nat.le_of_ble_eq_true rfl) (show cu + 1 ≤ mc by omega) (show su + 6 ≤ ms by omega) g
  replace h := it_f h c_23
  refine wx_needT dX11_strip_23 nl_needArgument my_X11_needArgument sv_X11_needArgument (mT_needArgument (d := d - 1) c_23) (by omega) (by exact Nat.le_of_ble_eq_true rfl) (show cu + 0 ≤ mc by omega) (show su + 0 ≤ ms by omega) ?_
  obtain ⟨r_26, k_26, h⟩ := bd1_some h
  cases h
noncomputable def f_X11_strip_22 (M : px_M) (x1 : Int32) (x2 : Int32) : Option ((Int32 × px_M) ⊕ Nat) :=
  f_X11_strip_23 M x1 x2 0
theorem s_X11_strip_22 {x1 : Int32} {x2 : Int32} {PX : px_PX} {M : px_M} {L : px_L} {R : px_R} {e : Int32 × px_M} (hS : SR sh R) (hd : 14 ≤ d) (hcu : cu ≤ mc) (hsu : su ≤ ms) (h : f_X11_strip_22 M x1 x2 = some (.inl e)) (g : Post (some (.int (e.1))) sh (e.2) L R n) : WX RX11 cX11_strip 3 (some .int) ("strip", []) d mc ms X (px_QX Post PX mc ms) 22 [(0, .ref 0), (1, .int x1), (2, .int x2)] [] sh M L R n cu su := by
  unfold f_X11_strip_22 at h
  refine wx_iconst (v := 0) dX11_strip_22 (by decide) ?_
  exact wx_sub (s_X11_strip_23 hS hd (show cu + 0 ≤ mc by omega) (show su + 0 ≤ ms by omega) h g) (px_s rfl (px_s rfl (px_s rfl px_0)))
theorem x_X11_strip_22 {x1 : Int32} {x2 : Int32} {PX : px_PX} {M : px_M} {L : px_L} {R : px_R} {e : Nat} (hS : SR sh R) (hd : 14 ≤ d) (hcu : cu + 1 ≤ mc) (hsu : su + 6 ≤ ms) (h : f_X11_strip_22 M x1 x2 = some (.inr e)) (g : ∀ n', n ≤ n' → PX (px_xn e) sh M L R n') : WX RX11 cX11_strip 3 (some .int) ("strip", []) d mc ms X (px_QX Post PX mc ms) 22 [(0, .ref 0), (1, .int x1), (2, .int x2)] [] sh M L R n cu su := by
  unfold f_X11_strip_22 at h
  refine wx_iconst (v := 0) dX11_strip_22 (by decide) ?_
  exact wx_sub (x_X11_strip_23 hS hd (show cu + 1 ≤ mc by omega) (show su + 6 ≤ ms by omega) h g) (px_s rfl (px_s rfl (px_s rfl px_0)))
noncomputable def f_X11_strip (M : px_M) (p1 : Int32) (p2 : Int32) : Option ((Int32 × px_M) ⊕ Nat) :=
  bd1 (f_X11_within p1 2 8) fun e_4 =>
  if e_4 = 0 then
    f_X11_strip_22 M p1 p2
  else
    if (((p2 : Int32).toUInt32 >>> (((p1 - 1) : Int32).toUInt32 &&& Int32.toUInt32 31)).toInt32) = 0 then
      f_X11_strip_23 M p1 p2 1
    else
      f_X11_strip_22 M p1 p2
theorem s_X11_strip {d : Nat} {X : Nat × (Nat → Int32)} {sh : px_Sh} {M : px_M} {L : px_L} {R : px_R} {n : Nat} {p1 : Int32} {p2 : Int32} {e : Int32 × px_M} (hS : SR sh R) (hd : 14 ≤ d) (h : f_X11_strip M p1 p2 = some (.inl e)) : MXT yX11_strip cX11_strip 3 (some .int) d 0 0 X [.ref 0, .int p1, .int p2] sh M L R n (px_pu (some (.int e.1)) sh e.2 L R n) px_nx := by
  refine MXT.of (by decide +kernel) (by exact Nat.le_of_ble_eq_true rfl) ?_
  have hcu : 0 ≤ 0 := Nat.zero_le _
  have hsu : 0 ≤ 0 := Nat.zero_le _
  have g : px_pu (some (.int e.1)) sh e.2 L R n (some (.int e.1)) sh e.2 L R n := ⟨rfl, rfl, rfl, rfl, rfl, rfl⟩
  unfold f_X11_strip at h
  refine wx_iload_n dX11_strip_0 rfl ?_
  refine wx_iconst (v := 2) dX11_strip_1 (by decide) ?_
  refine wx_bipush (v := 8) dX11_strip_2 (by decide) ?_
  obtain ⟨e_4, k_4, h⟩ := bd1_some h
  refine wx_cSi dX11_strip_4 ml_X11_65 my_X11_within sv_X11_within (s_X11_within (d := d - 1) hS (by omega) k_4) rfl (by omega) (by exact Nat.le_of_ble_eq_true rfl) (show 0 + 0 ≤ 0 by omega) (show 0 + 0 ≤ 0 by omega) ?_
  refine wx_if_eq (tgt := 22) dX11_strip_7 (by decide) (fun c_7 => ?_) (fun c_7 => ?_)
  · replace h := it_t h c_7
    exact wx_sub (s_X11_strip_22 hS hd (show 0 + 0 ≤ 0 by omega) (show 0 + 0 ≤ 0 by omega) h g) (px_s rfl (px_s rfl (px_s rfl px_0)))
  · replace h := it_f h c_7
    refine wx_iload_n dX11_strip_10 rfl ?_
    refine wx_iload_n dX11_strip_11 rfl ?_
    refine wx_iconst (v := 1) dX11_strip_12 (by decide) ?_
    refine wx_isub dX11_strip_13 ?_
    refine wx_iushr dX11_strip_14 ?_
    refine wx_if_ne (tgt := 22) dX11_strip_15 (by decide) (fun c_15 => ?_) (fun c_15 => ?_)
    · replace h := it_f h c_15
      exact wx_sub (s_X11_strip_22 hS hd (show 0 + 0 ≤ 0 by omega) (show 0 + 0 ≤ 0 by omega) h g) (px_s rfl (px_s rfl (px_s rfl px_0)))
    · replace h := it_t h c_15
      refine wx_iconst (v := 1) dX11_strip_18 (by decide) ?_
      refine wx_goto (tgt := 23) dX11_strip_19 (by decide) ?_
      exact wx_sub (s_X11_strip_23 hS hd (show 0 + 0 ≤ 0 by omega) (show 0 + 0 ≤ 0 by omega) h g) (px_s rfl (px_s rfl (px_s rfl px_0)))
theorem x_X11_strip {d : Nat} {X : Nat × (Nat → Int32)} {sh : px_Sh} {M : px_M} {L : px_L} {R : px_R} {n : Nat} {p1 : Int32} {p2 : Int32} {e : Nat} (hS : SR sh R) (hd : 14 ≤ d) (h : f_X11_strip M p1 p2 = some (.inr e)) : MXT yX11_strip cX11_strip 3 (some .int) d 1 6 X [.ref 0, .int p1, .int p2] sh M L R n px_np (px_px (px_xn e) sh M L R n) := by
  refine MXT.of (by decide +kernel) (by exact Nat.le_of_ble_eq_true rfl) ?_
  have hcu : 0 ≤ 1 := Nat.zero_le _
  have hsu : 0 ≤ 6 := Nat.zero_le _
  have g : ∀ n', n ≤ n' → px_px (px_xn e) sh M L R n (px_xn e) sh M L R n' := fun n' hn => ⟨rfl, rfl, rfl, rfl, rfl, hn⟩
  unfold f_X11_strip at h
  refine wx_iload_n dX11_strip_0 rfl ?_
  refine wx_iconst (v := 2) dX11_strip_1 (by decide) ?_
  refine wx_bipush (v := 8) dX11_strip_2 (by decide) ?_
  obtain ⟨e_4, k_4, h⟩ := bd1_some h
  refine wx_cSi dX11_strip_4 ml_X11_65 my_X11_within sv_X11_within (s_X11_within (d := d - 1) hS (by omega) k_4) rfl (by omega) (by exact Nat.le_of_ble_eq_true rfl) (show 0 + 0 ≤ 1 by omega) (show 0 + 0 ≤ 6 by omega) ?_
  refine wx_if_eq (tgt := 22) dX11_strip_7 (by decide) (fun c_7 => ?_) (fun c_7 => ?_)
  · replace h := it_t h c_7
    exact wx_sub (x_X11_strip_22 hS hd (show 0 + 1 ≤ 1 by omega) (show 0 + 6 ≤ 6 by omega) h g) (px_s rfl (px_s rfl (px_s rfl px_0)))
  · replace h := it_f h c_7
    refine wx_iload_n dX11_strip_10 rfl ?_
    refine wx_iload_n dX11_strip_11 rfl ?_
    refine wx_iconst (v := 1) dX11_strip_12 (by decide) ?_
    refine wx_isub dX11_strip_13 ?_
    refine wx_iushr dX11_strip_14 ?_
    refine wx_if_ne (tgt := 22) dX11_strip_15 (by decide) (fun c_15 => ?_) (fun c_15 => ?_)
    · replace h := it_f h c_15
      exact wx_sub (x_X11_strip_22 hS hd (show 0 + 1 ≤ 1 by omega) (show 0 + 6 ≤ 6 by omega) h g) (px_s rfl (px_s rfl (px_s rfl px_0)))
    · replace h := it_t h c_15
      refine wx_iconst (v := 1) dX11_strip_18 (by decide) ?_
      refine wx_goto (tgt := 23) dX11_strip_19 (by decide) ?_
      exact wx_sub (x_X11_strip_23 hS hd (show 0 + 1 ≤ 1 by omega) (show 0 + 6 ≤ 6 by omega) h g) (px_s rfl (px_s rfl (px_s rfl px_0)))
noncomputable def f_X11_lies_29 (M : px_M) (x1 : Int32) : Option (Int32) :=
  bd1 (f_X2_liesSo M x1) fun e_34 =>
  ok (zb e_34) <|
  some e_34
theorem s_X11_lies_29 {x1 : Int32} {M : px_M} {L : px_L} {R : px_R} {e : (Int32)} (hS : SR sh R) (hd : 7 ≤ d) (hcu : cu ≤ mc) (hsu : su ≤ ms) (h : f_X11_lies_29 M x1 = some e) (g : Post (some (.int e)) sh M L R n) : WX RX11 cX11_lies 2 (some .boolean) ("lies", []) d mc ms X (px_QF Post mc ms) 29 [(0, .ref 0), (1, .int x1)] [] sh M L R n cu su := by
  unfold f_X11_lies_29 at h
  refine wx_aload_n dX11_lies_29 rfl ?_
  refine wx_getR dX11_lies_30 fl_X11_12 (sc_0 hS) rfl (rr_0_0 hS) ?_
  refine wx_iload_n dX11_lies_33 rfl ?_
  obtain ⟨e_34, k_34, h⟩ := bd1_some h
  refine wx_cVi dX11_lies_34 ml_X11_92 my_X2_liesSo iv_X2_liesSo (sc_1 hS) (by decide) (s_X2_liesSo (d := d - 1) hS (by omega) k_34) rfl (by omega) (by exact Nat.le_of_ble_eq_true rfl) hcu hsu ?_
  obtain ⟨w_37, h⟩ := ok_some h
  refine wx_zret dX11_lies_37 (zb_n w_37) hcu hsu ?_
  obtain rfl := Option.some.inj h
  exact g
noncomputable def f_X11_lies_15 (M : px_M) (x1 : Int32) (z0 : Int32) : Option ((Int32) ⊕ Nat) :=
  if z0 = 0 then some (.inr 1) else
  bd1 (f_X2_isRowOfParts M x1) fun e_23 =>
  if e_23 = 0 then some (.inr 0) else
  bd1 (f_X11_lies_29 M x1) fun r_29 => some (.inl r_29)
theorem s_X11_lies_15 {x1 : Int32} {z0 : Int32} {PX : px_PX} {M : px_M} {L : px_L} {R : px_R} {e : Int32} (hS : SR sh R) (hd : 7 ≤ d) (hcu : cu ≤ mc) (hsu : su ≤ ms) (h : f_X11_lies_15 M x1 z0 = some (.inl e)) (g : Post (some (.int e)) sh M L R n) : WX RX11 cX11_lies 2 (some .boolean) ("lies", []) d mc ms X (px_QX Post PX mc ms) 15 [(0, .ref 0), (1, .int x1)] [.int z0] sh M L R n cu su := by
  unfold f_X11_lies_15 at h
  by_cases c_15 : z0 = 0
  · replace h := it_t h c_15
    cases h
  replace h := it_f h c_15
  refine wx_needT dX11_lies_15 nl_needState my_X11_needState sv_X11_needState (mT_needState (d := d - 1) c_15) (by omega) (by exact Nat.le_of_ble_eq_true rfl) (show cu + 0 ≤ mc by omega) (show su + 0 ≤ ms by omega) ?_
  refine wx_aload_n dX11_lies_18 rfl ?_
  refine wx_getR dX11_lies_19 fl_X11_12 (sc_0 hS) rfl (rr_0_0 hS) ?_
  refine wx_iload_n dX11_lies_22 rfl ?_
  obtain ⟨e_23, k_23, h⟩ := bd1_some h
  refine wx_cVi dX11_lies_23 ml_X11_88 my_X2_isRowOfParts iv_X2_isRowOfParts (sc_1 hS) (by decide) (s_X2_isRowOfParts (d := d - 1) hS (by omega) k_23) rfl (by omega) (by exact Nat.le_of_ble_eq_true rfl) (show cu + 0 ≤ mc by omega) (show su + 0 ≤ ms by omega) ?_
  by_cases c_26 : e_23 = 0
  · replace h := it_t h c_26
    cases h
  replace h := it_f h c_26
  refine wx_needT dX11_lies_26 nl_needArgument my_X11_needArgument sv_X11_needArgument (mT_needArgument (d := d - 1) c_26) (by omega) (by exact Nat.le_of_ble_eq_true rfl) (show cu + 0 ≤ mc by omega) (show su + 0 ≤ ms by omega) ?_
  obtain ⟨r_29, k_29, h⟩ := bd1_some h
  cases h
  exact wx_rx (wx_sub (s_X11_lies_29 hS hd (show cu + 0 ≤ mc by omega) (show su + 0 ≤ ms by omega) k_29 g) (px_s rfl (px_s rfl px_0)))
theorem x_X11_lies_15 {x1 : Int32} {z0 : Int32} {PX : px_PX} {M : px_M} {L : px_L} {R : px_R} {e : Nat} (hS : SR sh R) (hd : 7 ≤ d) (hcu : cu + 1 ≤ mc) (hsu : su + 6 ≤ ms) (h : f_X11_lies_15 M x1 z0 = some (.inr e)) (g : ∀ n', n ≤ n' → PX (px_xn e) sh M L R n') : WX RX11 cX11_lies 2 (some .boolean) ("lies", []) d mc ms X (px_QX Post PX mc ms) 15 [(0, .ref 0), (1, .int x1)] [.int z0] sh M L R n cu su := by
  unfold f_X11_lies_15 at h
  by_cases c_15 : z0 = 0
  · replace h := it_t h c_15
    obtain rfl := Sum.inr.inj (Option.some.inj h)
    exact wx_needF dX11_lies_15 nl_needState my_X11_needState sv_X11_needState (mF_needState (d := d - 1) (by omega) c_15) (by omega) (by exact Nat.le_of_ble_eq_true rfl) (show cu + 1 ≤ mc by omega) (show su + 6 ≤ ms by omega) g
  replace h := it_f h c_15
  refine wx_needT dX11_lies_15 nl_needState my_X11_needState sv_X11_needState (mT_needState (d := d - 1) c_15) (by omega) (by exact Nat.le_of_ble_eq_true rfl) (show cu + 0 ≤ mc by omega) (show su + 0 ≤ ms by omega) ?_
  refine wx_aload_n dX11_lies_18 rfl ?_
  refine wx_getR dX11_lies_19 fl_X11_12 (sc_0 hS) rfl (rr_0_0 hS) ?_
  refine wx_iload_n dX11_lies_22 rfl ?_
  obtain ⟨e_23, k_23, h⟩ := bd1_some h
  refine wx_cVi dX11_lies_23 ml_X11_88 my_X2_isRowOfParts iv_X2_isRowOfParts (sc_1 hS) (by decide) (s_X2_isRowOfParts (d := d - 1) hS (by omega) k_23) rfl (by omega) (by exact Nat.le_of_ble_eq_true rfl) (show cu + 0 ≤ mc by omega) (show su + 0 ≤ ms by omega) ?_
  by_cases c_26 : e_23 = 0
  · replace h := it_t h c_26
    obtain rfl := Sum.inr.inj (Option.some.inj h)
    exact wx_needF dX11_lies_26 nl_needArgument my_X11_needArgument sv_X11_needArgument (mF_needArgument (d := d - 1) (by omega) c_26) (by omega) (by exact Nat.le_of_ble_eq_true rfl) (show cu + 1 ≤ mc by omega) (show su + 6 ≤ ms by omega) g
  replace h := it_f h c_26
  refine wx_needT dX11_lies_26 nl_needArgument my_X11_needArgument sv_X11_needArgument (mT_needArgument (d := d - 1) c_26) (by omega) (by exact Nat.le_of_ble_eq_true rfl) (show cu + 0 ≤ mc by omega) (show su + 0 ≤ ms by omega) ?_
  obtain ⟨r_29, k_29, h⟩ := bd1_some h
  cases h
noncomputable def f_X11_lies (M : px_M) (p1 : Int32) : Option ((Int32) ⊕ Nat) :=
  if (M 1 0) ≤ 0 then
    f_X11_lies_15 M p1 0
  else
    f_X11_lies_15 M p1 1
theorem s_X11_lies {d : Nat} {X : Nat × (Nat → Int32)} {sh : px_Sh} {M : px_M} {L : px_L} {R : px_R} {n : Nat} {p1 : Int32} {e : Int32} (hS : SR sh R) (hd : 7 ≤ d) (h : f_X11_lies M p1 = some (.inl e)) : MXT yX11_lies cX11_lies 2 (some .boolean) d 0 0 X [.ref 0, .int p1] sh M L R n (px_pu (some (.int e)) sh M L R n) px_nx := by
  refine MXT.of (by decide +kernel) (by exact Nat.le_of_ble_eq_true rfl) ?_
  have hcu : 0 ≤ 0 := Nat.zero_le _
  have hsu : 0 ≤ 0 := Nat.zero_le _
  have g : px_pu (some (.int e)) sh M L R n (some (.int e)) sh M L R n := ⟨rfl, rfl, rfl, rfl, rfl, rfl⟩
  unfold f_X11_lies at h
  refine wx_aload_n dX11_lies_0 rfl ?_
  refine wx_getR dX11_lies_1 fl_X11_12 (sc_0 hS) rfl (rr_0_0 hS) ?_
  refine wx_getI dX11_lies_4 fl_X11_77 (sc_1 hS) rfl ?_
  refine wx_if_le (tgt := 14) dX11_lies_7 (by decide) (fun c_7 => ?_) (fun c_7 => ?_)
  · replace h := it_t h c_7
    refine wx_iconst (v := 0) dX11_lies_14 (by decide) ?_
    exact wx_sub (s_X11_lies_15 hS hd (show 0 + 0 ≤ 0 by omega) (show 0 + 0 ≤ 0 by omega) h g) (px_s rfl (px_s rfl px_0))
  · replace h := it_f h c_7
    refine wx_iconst (v := 1) dX11_lies_10 (by decide) ?_
    refine wx_goto (tgt := 15) dX11_lies_11 (by decide) ?_
    exact wx_sub (s_X11_lies_15 hS hd (show 0 + 0 ≤ 0 by omega) (show 0 + 0 ≤ 0 by omega) h g) (px_s rfl (px_s rfl px_0))
theorem x_X11_lies {d : Nat} {X : Nat × (Nat → Int32)} {sh : px_Sh} {M : px_M} {L : px_L} {R : px_R} {n : Nat} {p1 : Int32} {e : Nat} (hS : SR sh R) (hd : 7 ≤ d) (h : f_X11_lies M p1 = some (.inr e)) : MXT yX11_lies cX11_lies 2 (some .boolean) d 1 6 X [.ref 0, .int p1] sh M L R n px_np (px_px (px_xn e) sh M L R n) := by
  refine MXT.of (by decide +kernel) (by exact Nat.le_of_ble_eq_true rfl) ?_
  have hcu : 0 ≤ 1 := Nat.zero_le _
  have hsu : 0 ≤ 6 := Nat.zero_le _
  have g : ∀ n', n ≤ n' → px_px (px_xn e) sh M L R n (px_xn e) sh M L R n' := fun n' hn => ⟨rfl, rfl, rfl, rfl, rfl, hn⟩
  unfold f_X11_lies at h
  refine wx_aload_n dX11_lies_0 rfl ?_
  refine wx_getR dX11_lies_1 fl_X11_12 (sc_0 hS) rfl (rr_0_0 hS) ?_
  refine wx_getI dX11_lies_4 fl_X11_77 (sc_1 hS) rfl ?_
  refine wx_if_le (tgt := 14) dX11_lies_7 (by decide) (fun c_7 => ?_) (fun c_7 => ?_)
  · replace h := it_t h c_7
    refine wx_iconst (v := 0) dX11_lies_14 (by decide) ?_
    exact wx_sub (x_X11_lies_15 hS hd (show 0 + 1 ≤ 1 by omega) (show 0 + 6 ≤ 6 by omega) h g) (px_s rfl (px_s rfl px_0))
  · replace h := it_f h c_7
    refine wx_iconst (v := 1) dX11_lies_10 (by decide) ?_
    refine wx_goto (tgt := 15) dX11_lies_11 (by decide) ?_
    exact wx_sub (x_X11_lies_15 hS hd (show 0 + 1 ≤ 1 by omega) (show 0 + 6 ≤ 6 by omega) h g) (px_s rfl (px_s rfl px_0))
noncomputable def f_X11_clear_61 (M : px_M) (x1 : Int32) : Option (Int32) :=
  bd1 (f_X2_isClear M x1 (M 1 2)) fun e_73 =>
  ok (zb e_73) <|
  some e_73
theorem s_X11_clear_61 {x1 : Int32} {M : px_M} {L : px_L} {R : px_R} {e : (Int32)} (hS : SR sh R) (hd : 7 ≤ d) (hcu : cu ≤ mc) (hsu : su ≤ ms) (h : f_X11_clear_61 M x1 = some e) (g : Post (some (.int e)) sh M L R n) : WX RX11 cX11_clear 2 (some .boolean) ("clear", []) d mc ms X (px_QF Post mc ms) 61 [(0, .ref 0), (1, .int x1)] [] sh M L R n cu su := by
  unfold f_X11_clear_61 at h
  refine wx_aload_n dX11_clear_61 rfl ?_
  refine wx_getR dX11_clear_62 fl_X11_12 (sc_0 hS) rfl (rr_0_0 hS) ?_
  refine wx_iload_n dX11_clear_65 rfl ?_
  refine wx_aload_n dX11_clear_66 rfl ?_
  refine wx_getR dX11_clear_67 fl_X11_12 (sc_0 hS) rfl (rr_0_0 hS) ?_
  refine wx_getI dX11_clear_70 fl_X11_98 (sc_1 hS) rfl ?_
  obtain ⟨e_73, k_73, h⟩ := bd1_some h
  refine wx_cVi dX11_clear_73 ml_X11_105 my_X2_isClear iv_X2_isClear (sc_1 hS) (by decide) (s_X2_isClear (d := d - 1) hS (by omega) k_73) rfl (by omega) (by exact Nat.le_of_ble_eq_true rfl) hcu hsu ?_
  obtain ⟨w_76, h⟩ := ok_some h
  refine wx_zret dX11_clear_76 (zb_n w_76) hcu hsu ?_
  obtain rfl := Option.some.inj h
  exact g
noncomputable def f_X11_clear_58 (M : px_M) (x1 : Int32) (z0 : Int32) : Option ((Int32) ⊕ Nat) :=
  if z0 = 0 then some (.inr 0) else
  bd1 (f_X11_clear_61 M x1) fun r_61 => some (.inl r_61)
theorem s_X11_clear_58 {x1 : Int32} {z0 : Int32} {PX : px_PX} {M : px_M} {L : px_L} {R : px_R} {e : Int32} (hS : SR sh R) (hd : 7 ≤ d) (hcu : cu ≤ mc) (hsu : su ≤ ms) (h : f_X11_clear_58 M x1 z0 = some (.inl e)) (g : Post (some (.int e)) sh M L R n) : WX RX11 cX11_clear 2 (some .boolean) ("clear", []) d mc ms X (px_QX Post PX mc ms) 58 [(0, .ref 0), (1, .int x1)] [.int z0] sh M L R n cu su := by
  unfold f_X11_clear_58 at h
  by_cases c_58 : z0 = 0
  · replace h := it_t h c_58
    cases h
  replace h := it_f h c_58
  refine wx_needT dX11_clear_58 nl_needArgument my_X11_needArgument sv_X11_needArgument (mT_needArgument (d := d - 1) c_58) (by omega) (by exact Nat.le_of_ble_eq_true rfl) (show cu + 0 ≤ mc by omega) (show su + 0 ≤ ms by omega) ?_
  obtain ⟨r_61, k_61, h⟩ := bd1_some h
  cases h
  exact wx_rx (wx_sub (s_X11_clear_61 hS hd (show cu + 0 ≤ mc by omega) (show su + 0 ≤ ms by omega) k_61 g) (px_s rfl (px_s rfl px_0)))
theorem x_X11_clear_58 {x1 : Int32} {z0 : Int32} {PX : px_PX} {M : px_M} {L : px_L} {R : px_R} {e : Nat} (hS : SR sh R) (hd : 7 ≤ d) (hcu : cu + 1 ≤ mc) (hsu : su + 6 ≤ ms) (h : f_X11_clear_58 M x1 z0 = some (.inr e)) (g : ∀ n', n ≤ n' → PX (px_xn e) sh M L R n') : WX RX11 cX11_clear 2 (some .boolean) ("clear", []) d mc ms X (px_QX Post PX mc ms) 58 [(0, .ref 0), (1, .int x1)] [.int z0] sh M L R n cu su := by
  unfold f_X11_clear_58 at h
  by_cases c_58 : z0 = 0
  · replace h := it_t h c_58
    obtain rfl := Sum.inr.inj (Option.some.inj h)
    exact wx_needF dX11_clear_58 nl_needArgument my_X11_needArgument sv_X11_needArgument (mF_needArgument (d := d - 1) (by omega) c_58) (by omega) (by exact Nat.le_of_ble_eq_true rfl) (show cu + 1 ≤ mc by omega) (show su + 6 ≤ ms by omega) g
  replace h := it_f h c_58
  refine wx_needT dX11_clear_58 nl_needArgument my_X11_needArgument sv_X11_needArgument (mT_needArgument (d := d - 1) c_58) (by omega) (by exact Nat.le_of_ble_eq_true rfl) (show cu + 0 ≤ mc by omega) (show su + 0 ≤ ms by omega) ?_
  obtain ⟨r_61, k_61, h⟩ := bd1_some h
  cases h
noncomputable def f_X11_clear_15 (M : px_M) (x1 : Int32) (z0 : Int32) : Option ((Int32) ⊕ Nat) :=
  if z0 = 0 then some (.inr 1) else
  bd1 (f_X11_within x1 0 ((M 1 0) - 2)) fun e_29 =>
  if e_29 = 0 then some (.inr 2) else
  bd1 (f_X2_isOpen x1 (M 1 2)) fun e_47 =>
  if e_47 = 0 then
    f_X11_clear_58 M x1 1
  else
    f_X11_clear_58 M x1 0
theorem s_X11_clear_15 {x1 : Int32} {z0 : Int32} {PX : px_PX} {M : px_M} {L : px_L} {R : px_R} {e : Int32} (hS : SR sh R) (hd : 7 ≤ d) (hcu : cu ≤ mc) (hsu : su ≤ ms) (h : f_X11_clear_15 M x1 z0 = some (.inl e)) (g : Post (some (.int e)) sh M L R n) : WX RX11 cX11_clear 2 (some .boolean) ("clear", []) d mc ms X (px_QX Post PX mc ms) 15 [(0, .ref 0), (1, .int x1)] [.int z0] sh M L R n cu su := by
  unfold f_X11_clear_15 at h
  by_cases c_15 : z0 = 0
  · replace h := it_t h c_15
    cases h
  replace h := it_f h c_15
  refine wx_needT dX11_clear_15 nl_needState my_X11_needState sv_X11_needState (mT_needState (d := d - 1) c_15) (by omega) (by exact Nat.le_of_ble_eq_true rfl) (show cu + 0 ≤ mc by omega) (show su + 0 ≤ ms by omega) ?_
  refine wx_iload_n dX11_clear_18 rfl ?_
  refine wx_iconst (v := 0) dX11_clear_19 (by decide) ?_
  refine wx_aload_n dX11_clear_20 rfl ?_
  refine wx_getR dX11_clear_21 fl_X11_12 (sc_0 hS) rfl (rr_0_0 hS) ?_
  refine wx_getI dX11_clear_24 fl_X11_77 (sc_1 hS) rfl ?_
  refine wx_iconst (v := 2) dX11_clear_27 (by decide) ?_
  refine wx_isub dX11_clear_28 ?_
  obtain ⟨e_29, k_29, h⟩ := bd1_some h
  refine wx_cSi dX11_clear_29 ml_X11_65 my_X11_within sv_X11_within (s_X11_within (d := d - 1) hS (by omega) k_29) rfl (by omega) (by exact Nat.le_of_ble_eq_true rfl) (show cu + 0 ≤ mc by omega) (show su + 0 ≤ ms by omega) ?_
  by_cases c_32 : e_29 = 0
  · replace h := it_t h c_32
    cases h
  replace h := it_f h c_32
  refine wx_needT dX11_clear_32 nl_needIndex my_X11_needIndex sv_X11_needIndex (mT_needIndex (d := d - 1) c_32) (by omega) (by exact Nat.le_of_ble_eq_true rfl) (show cu + 0 ≤ mc by omega) (show su + 0 ≤ ms by omega) ?_
  refine wx_aload_n dX11_clear_35 rfl ?_
  refine wx_getR dX11_clear_36 fl_X11_12 (sc_0 hS) rfl (rr_0_0 hS) ?_
  refine wx_iload_n dX11_clear_39 rfl ?_
  refine wx_aload_n dX11_clear_40 rfl ?_
  refine wx_getR dX11_clear_41 fl_X11_12 (sc_0 hS) rfl (rr_0_0 hS) ?_
  refine wx_getI dX11_clear_44 fl_X11_98 (sc_1 hS) rfl ?_
  obtain ⟨e_47, k_47, h⟩ := bd1_some h
  refine wx_cVi dX11_clear_47 ml_X11_101 my_X2_isOpen iv_X2_isOpen (sc_1 hS) (by decide) (s_X2_isOpen (d := d - 1) hS (by omega) k_47) rfl (by omega) (by exact Nat.le_of_ble_eq_true rfl) (show cu + 0 ≤ mc by omega) (show su + 0 ≤ ms by omega) ?_
  refine wx_if_ne (tgt := 57) dX11_clear_50 (by decide) (fun c_50 => ?_) (fun c_50 => ?_)
  · replace h := it_f h c_50
    refine wx_iconst (v := 0) dX11_clear_57 (by decide) ?_
    exact wx_sub (s_X11_clear_58 hS hd (show cu + 0 ≤ mc by omega) (show su + 0 ≤ ms by omega) h g) (px_s rfl (px_s rfl px_0))
  · replace h := it_t h c_50
    refine wx_iconst (v := 1) dX11_clear_53 (by decide) ?_
    refine wx_goto (tgt := 58) dX11_clear_54 (by decide) ?_
    exact wx_sub (s_X11_clear_58 hS hd (show cu + 0 ≤ mc by omega) (show su + 0 ≤ ms by omega) h g) (px_s rfl (px_s rfl px_0))
theorem x_X11_clear_15 {x1 : Int32} {z0 : Int32} {PX : px_PX} {M : px_M} {L : px_L} {R : px_R} {e : Nat} (hS : SR sh R) (hd : 7 ≤ d) (hcu : cu + 1 ≤ mc) (hsu : su + 6 ≤ ms) (h : f_X11_clear_15 M x1 z0 = some (.inr e)) (g : ∀ n', n ≤ n' → PX (px_xn e) sh M L R n') : WX RX11 cX11_clear 2 (some .boolean) ("clear", []) d mc ms X (px_QX Post PX mc ms) 15 [(0, .ref 0), (1, .int x1)] [.int z0] sh M L R n cu su := by
  unfold f_X11_clear_15 at h
  by_cases c_15 : z0 = 0
  · replace h := it_t h c_15
    obtain rfl := Sum.inr.inj (Option.some.inj h)
    exact wx_needF dX11_clear_15 nl_needState my_X11_needState sv_X11_needState (mF_needState (d := d - 1) (by omega) c_15) (by omega) (by exact Nat.le_of_ble_eq_true rfl) (show cu + 1 ≤ mc by omega) (show su + 6 ≤ ms by omega) g
  replace h := it_f h c_15
  refine wx_needT dX11_clear_15 nl_needState my_X11_needState sv_X11_needState (mT_needState (d := d - 1) c_15) (by omega) (by exact Nat.le_of_ble_eq_true rfl) (show cu + 0 ≤ mc by omega) (show su + 0 ≤ ms by omega) ?_
  refine wx_iload_n dX11_clear_18 rfl ?_
  refine wx_iconst (v := 0) dX11_clear_19 (by decide) ?_
  refine wx_aload_n dX11_clear_20 rfl ?_
  refine wx_getR dX11_clear_21 fl_X11_12 (sc_0 hS) rfl (rr_0_0 hS) ?_
  refine wx_getI dX11_clear_24 fl_X11_77 (sc_1 hS) rfl ?_
  refine wx_iconst (v := 2) dX11_clear_27 (by decide) ?_
  refine wx_isub dX11_clear_28 ?_
  obtain ⟨e_29, k_29, h⟩ := bd1_some h
  refine wx_cSi dX11_clear_29 ml_X11_65 my_X11_within sv_X11_within (s_X11_within (d := d - 1) hS (by omega) k_29) rfl (by omega) (by exact Nat.le_of_ble_eq_true rfl) (show cu + 0 ≤ mc by omega) (show su + 0 ≤ ms by omega) ?_
  by_cases c_32 : e_29 = 0
  · replace h := it_t h c_32
    obtain rfl := Sum.inr.inj (Option.some.inj h)
    exact wx_needF dX11_clear_32 nl_needIndex my_X11_needIndex sv_X11_needIndex (mF_needIndex (d := d - 1) (by omega) c_32) (by omega) (by exact Nat.le_of_ble_eq_true rfl) (show cu + 1 ≤ mc by omega) (show su + 6 ≤ ms by omega) g
  replace h := it_f h c_32
  refine wx_needT dX11_clear_32 nl_needIndex my_X11_needIndex sv_X11_needIndex (mT_needIndex (d := d - 1) c_32) (by omega) (by exact Nat.le_of_ble_eq_true rfl) (show cu + 0 ≤ mc by omega) (show su + 0 ≤ ms by omega) ?_
  refine wx_aload_n dX11_clear_35 rfl ?_
  refine wx_getR dX11_clear_36 fl_X11_12 (sc_0 hS) rfl (rr_0_0 hS) ?_
  refine wx_iload_n dX11_clear_39 rfl ?_
  refine wx_aload_n dX11_clear_40 rfl ?_
  refine wx_getR dX11_clear_41 fl_X11_12 (sc_0 hS) rfl (rr_0_0 hS) ?_
  refine wx_getI dX11_clear_44 fl_X11_98 (sc_1 hS) rfl ?_
  obtain ⟨e_47, k_47, h⟩ := bd1_some h
  refine wx_cVi dX11_clear_47 ml_X11_101 my_X2_isOpen iv_X2_isOpen (sc_1 hS) (by decide) (s_X2_isOpen (d := d - 1) hS (by omega) k_47) rfl (by omega) (by exact Nat.le_of_ble_eq_true rfl) (show cu + 0 ≤ mc by omega) (show su + 0 ≤ ms by omega) ?_
  refine wx_if_ne (tgt := 57) dX11_clear_50 (by decide) (fun c_50 => ?_) (fun c_50 => ?_)
  · replace h := it_f h c_50
    refine wx_iconst (v := 0) dX11_clear_57 (by decide) ?_
    exact wx_sub (x_X11_clear_58 hS hd (show cu + 1 ≤ mc by omega) (show su + 6 ≤ ms by omega) h g) (px_s rfl (px_s rfl px_0))
  · replace h := it_t h c_50
    refine wx_iconst (v := 1) dX11_clear_53 (by decide) ?_
    refine wx_goto (tgt := 58) dX11_clear_54 (by decide) ?_
    exact wx_sub (x_X11_clear_58 hS hd (show cu + 1 ≤ mc by omega) (show su + 6 ≤ ms by omega) h g) (px_s rfl (px_s rfl px_0))
noncomputable def f_X11_clear (M : px_M) (p1 : Int32) : Option ((Int32) ⊕ Nat) :=
  if (M 1 0) ≤ 0 then
    f_X11_clear_15 M p1 0
  else
    f_X11_clear_15 M p1 1
theorem s_X11_clear {d : Nat} {X : Nat × (Nat → Int32)} {sh : px_Sh} {M : px_M} {L : px_L} {R : px_R} {n : Nat} {p1 : Int32} {e : Int32} (hS : SR sh R) (hd : 7 ≤ d) (h : f_X11_clear M p1 = some (.inl e)) : MXT yX11_clear cX11_clear 2 (some .boolean) d 0 0 X [.ref 0, .int p1] sh M L R n (px_pu (some (.int e)) sh M L R n) px_nx := by
  refine MXT.of (by decide +kernel) (by exact Nat.le_of_ble_eq_true rfl) ?_
  have hcu : 0 ≤ 0 := Nat.zero_le _
  have hsu : 0 ≤ 0 := Nat.zero_le _
  have g : px_pu (some (.int e)) sh M L R n (some (.int e)) sh M L R n := ⟨rfl, rfl, rfl, rfl, rfl, rfl⟩
  unfold f_X11_clear at h
  refine wx_aload_n dX11_clear_0 rfl ?_
  refine wx_getR dX11_clear_1 fl_X11_12 (sc_0 hS) rfl (rr_0_0 hS) ?_
  refine wx_getI dX11_clear_4 fl_X11_77 (sc_1 hS) rfl ?_
  refine wx_if_le (tgt := 14) dX11_clear_7 (by decide) (fun c_7 => ?_) (fun c_7 => ?_)
  · replace h := it_t h c_7
    refine wx_iconst (v := 0) dX11_clear_14 (by decide) ?_
    exact wx_sub (s_X11_clear_15 hS hd (show 0 + 0 ≤ 0 by omega) (show 0 + 0 ≤ 0 by omega) h g) (px_s rfl (px_s rfl px_0))
  · replace h := it_f h c_7
    refine wx_iconst (v := 1) dX11_clear_10 (by decide) ?_
    refine wx_goto (tgt := 15) dX11_clear_11 (by decide) ?_
    exact wx_sub (s_X11_clear_15 hS hd (show 0 + 0 ≤ 0 by omega) (show 0 + 0 ≤ 0 by omega) h g) (px_s rfl (px_s rfl px_0))
theorem x_X11_clear {d : Nat} {X : Nat × (Nat → Int32)} {sh : px_Sh} {M : px_M} {L : px_L} {R : px_R} {n : Nat} {p1 : Int32} {e : Nat} (hS : SR sh R) (hd : 7 ≤ d) (h : f_X11_clear M p1 = some (.inr e)) : MXT yX11_clear cX11_clear 2 (some .boolean) d 1 6 X [.ref 0, .int p1] sh M L R n px_np (px_px (px_xn e) sh M L R n) := by
  refine MXT.of (by decide +kernel) (by exact Nat.le_of_ble_eq_true rfl) ?_
  have hcu : 0 ≤ 1 := Nat.zero_le _
  have hsu : 0 ≤ 6 := Nat.zero_le _
  have g : ∀ n', n ≤ n' → px_px (px_xn e) sh M L R n (px_xn e) sh M L R n' := fun n' hn => ⟨rfl, rfl, rfl, rfl, rfl, hn⟩
  unfold f_X11_clear at h
  refine wx_aload_n dX11_clear_0 rfl ?_
  refine wx_getR dX11_clear_1 fl_X11_12 (sc_0 hS) rfl (rr_0_0 hS) ?_
  refine wx_getI dX11_clear_4 fl_X11_77 (sc_1 hS) rfl ?_
  refine wx_if_le (tgt := 14) dX11_clear_7 (by decide) (fun c_7 => ?_) (fun c_7 => ?_)
  · replace h := it_t h c_7
    refine wx_iconst (v := 0) dX11_clear_14 (by decide) ?_
    exact wx_sub (x_X11_clear_15 hS hd (show 0 + 1 ≤ 1 by omega) (show 0 + 6 ≤ 6 by omega) h g) (px_s rfl (px_s rfl px_0))
  · replace h := it_f h c_7
    refine wx_iconst (v := 1) dX11_clear_10 (by decide) ?_
    refine wx_goto (tgt := 15) dX11_clear_11 (by decide) ?_
    exact wx_sub (x_X11_clear_15 hS hd (show 0 + 1 ≤ 1 by omega) (show 0 + 6 ≤ 6 by omega) h g) (px_s rfl (px_s rfl px_0))
noncomputable def f_X11_open_35 (M : px_M) (x1 : Int32) : Option (Int32 × px_M) :=
  bd1 (f_X2_tryOpening M x1) fun e_40 =>
  some (e_40.1, e_40.2)
theorem s_X11_open_35 {x1 : Int32} {M : px_M} {L : px_L} {R : px_R} {e : (Int32 × px_M)} (hS : SR sh R) (hd : 7 ≤ d) (hcu : cu ≤ mc) (hsu : su ≤ ms) (h : f_X11_open_35 M x1 = some e) (g : Post (some (.int (e.1))) sh (e.2) L R n) : WX RX11 cX11_open 2 (some .int) ("open", []) d mc ms X (px_QF Post mc ms) 35 [(0, .ref 0), (1, .int x1)] [] sh M L R n cu su := by
  unfold f_X11_open_35 at h
  refine wx_aload_n dX11_open_35 rfl ?_
  refine wx_getR dX11_open_36 fl_X11_12 (sc_0 hS) rfl (rr_0_0 hS) ?_
  refine wx_iload_n dX11_open_39 rfl ?_
  obtain ⟨e_40, k_40, h⟩ := bd1_some h
  refine wx_cVi dX11_open_40 ml_X11_108 my_X2_tryOpening iv_X2_tryOpening (sc_1 hS) (by decide) (s_X2_tryOpening (d := d - 1) hS (by omega) k_40) rfl (by omega) (by exact Nat.le_of_ble_eq_true rfl) hcu hsu ?_
  refine wx_iret dX11_open_43 hcu hsu ?_
  obtain rfl := Option.some.inj h
  exact g
noncomputable def f_X11_open_15 (M : px_M) (x1 : Int32) (z0 : Int32) : Option ((Int32 × px_M) ⊕ Nat) :=
  if z0 = 0 then some (.inr 1) else
  bd1 (f_X11_within x1 0 ((M 1 0) - 2)) fun e_29 =>
  if e_29 = 0 then some (.inr 2) else
  bd1 (f_X11_open_35 M x1) fun r_35 => some (.inl r_35)
theorem s_X11_open_15 {x1 : Int32} {z0 : Int32} {PX : px_PX} {M : px_M} {L : px_L} {R : px_R} {e : Int32 × px_M} (hS : SR sh R) (hd : 7 ≤ d) (hcu : cu ≤ mc) (hsu : su ≤ ms) (h : f_X11_open_15 M x1 z0 = some (.inl e)) (g : Post (some (.int (e.1))) sh (e.2) L R n) : WX RX11 cX11_open 2 (some .int) ("open", []) d mc ms X (px_QX Post PX mc ms) 15 [(0, .ref 0), (1, .int x1)] [.int z0] sh M L R n cu su := by
  unfold f_X11_open_15 at h
  by_cases c_15 : z0 = 0
  · replace h := it_t h c_15
    cases h
  replace h := it_f h c_15
  refine wx_needT dX11_open_15 nl_needState my_X11_needState sv_X11_needState (mT_needState (d := d - 1) c_15) (by omega) (by exact Nat.le_of_ble_eq_true rfl) (show cu + 0 ≤ mc by omega) (show su + 0 ≤ ms by omega) ?_
  refine wx_iload_n dX11_open_18 rfl ?_
  refine wx_iconst (v := 0) dX11_open_19 (by decide) ?_
  refine wx_aload_n dX11_open_20 rfl ?_
  refine wx_getR dX11_open_21 fl_X11_12 (sc_0 hS) rfl (rr_0_0 hS) ?_
  refine wx_getI dX11_open_24 fl_X11_77 (sc_1 hS) rfl ?_
  refine wx_iconst (v := 2) dX11_open_27 (by decide) ?_
  refine wx_isub dX11_open_28 ?_
  obtain ⟨e_29, k_29, h⟩ := bd1_some h
  refine wx_cSi dX11_open_29 ml_X11_65 my_X11_within sv_X11_within (s_X11_within (d := d - 1) hS (by omega) k_29) rfl (by omega) (by exact Nat.le_of_ble_eq_true rfl) (show cu + 0 ≤ mc by omega) (show su + 0 ≤ ms by omega) ?_
  by_cases c_32 : e_29 = 0
  · replace h := it_t h c_32
    cases h
  replace h := it_f h c_32
  refine wx_needT dX11_open_32 nl_needIndex my_X11_needIndex sv_X11_needIndex (mT_needIndex (d := d - 1) c_32) (by omega) (by exact Nat.le_of_ble_eq_true rfl) (show cu + 0 ≤ mc by omega) (show su + 0 ≤ ms by omega) ?_
  obtain ⟨r_35, k_35, h⟩ := bd1_some h
  cases h
  exact wx_rx (wx_sub (s_X11_open_35 hS hd (show cu + 0 ≤ mc by omega) (show su + 0 ≤ ms by omega) k_35 g) (px_s rfl (px_s rfl px_0)))
theorem x_X11_open_15 {x1 : Int32} {z0 : Int32} {PX : px_PX} {M : px_M} {L : px_L} {R : px_R} {e : Nat} (hS : SR sh R) (hd : 7 ≤ d) (hcu : cu + 1 ≤ mc) (hsu : su + 6 ≤ ms) (h : f_X11_open_15 M x1 z0 = some (.inr e)) (g : ∀ n', n ≤ n' → PX (px_xn e) sh M L R n') : WX RX11 cX11_open 2 (some .int) ("open", []) d mc ms X (px_QX Post PX mc ms) 15 [(0, .ref 0), (1, .int x1)] [.int z0] sh M L R n cu su := by
  unfold f_X11_open_15 at h
  by_cases c_15 : z0 = 0
  · replace h := it_t h c_15
    obtain rfl := Sum.inr.inj (Option.some.inj h)
    exact wx_needF dX11_open_15 nl_needState my_X11_needState sv_X11_needState (mF_needState (d := d - 1) (by omega) c_15) (by omega) (by exact Nat.le_of_ble_eq_true rfl) (show cu + 1 ≤ mc by omega) (show su + 6 ≤ ms by omega) g
  replace h := it_f h c_15
  refine wx_needT dX11_open_15 nl_needState my_X11_needState sv_X11_needState (mT_needState (d := d - 1) c_15) (by omega) (by exact Nat.le_of_ble_eq_true rfl) (show cu + 0 ≤ mc by omega) (show su + 0 ≤ ms by omega) ?_
  refine wx_iload_n dX11_open_18 rfl ?_
  refine wx_iconst (v := 0) dX11_open_19 (by decide) ?_
  refine wx_aload_n dX11_open_20 rfl ?_
  refine wx_getR dX11_open_21 fl_X11_12 (sc_0 hS) rfl (rr_0_0 hS) ?_
  refine wx_getI dX11_open_24 fl_X11_77 (sc_1 hS) rfl ?_
  refine wx_iconst (v := 2) dX11_open_27 (by decide) ?_
  refine wx_isub dX11_open_28 ?_
  obtain ⟨e_29, k_29, h⟩ := bd1_some h
  refine wx_cSi dX11_open_29 ml_X11_65 my_X11_within sv_X11_within (s_X11_within (d := d - 1) hS (by omega) k_29) rfl (by omega) (by exact Nat.le_of_ble_eq_true rfl) (show cu + 0 ≤ mc by omega) (show su + 0 ≤ ms by omega) ?_
  by_cases c_32 : e_29 = 0
  · replace h := it_t h c_32
    obtain rfl := Sum.inr.inj (Option.some.inj h)
    exact wx_needF dX11_open_32 nl_needIndex my_X11_needIndex sv_X11_needIndex (mF_needIndex (d := d - 1) (by omega) c_32) (by omega) (by exact Nat.le_of_ble_eq_true rfl) (show cu + 1 ≤ mc by omega) (show su + 6 ≤ ms by omega) g
  replace h := it_f h c_32
  refine wx_needT dX11_open_32 nl_needIndex my_X11_needIndex sv_X11_needIndex (mT_needIndex (d := d - 1) c_32) (by omega) (by exact Nat.le_of_ble_eq_true rfl) (show cu + 0 ≤ mc by omega) (show su + 0 ≤ ms by omega) ?_
  obtain ⟨r_35, k_35, h⟩ := bd1_some h
  cases h
noncomputable def f_X11_open (M : px_M) (p1 : Int32) : Option ((Int32 × px_M) ⊕ Nat) :=
  if (M 1 0) ≤ 0 then
    f_X11_open_15 M p1 0
  else
    f_X11_open_15 M p1 1
theorem s_X11_open {d : Nat} {X : Nat × (Nat → Int32)} {sh : px_Sh} {M : px_M} {L : px_L} {R : px_R} {n : Nat} {p1 : Int32} {e : Int32 × px_M} (hS : SR sh R) (hd : 7 ≤ d) (h : f_X11_open M p1 = some (.inl e)) : MXT yX11_open cX11_open 2 (some .int) d 0 0 X [.ref 0, .int p1] sh M L R n (px_pu (some (.int e.1)) sh e.2 L R n) px_nx := by
  refine MXT.of (by decide +kernel) (by exact Nat.le_of_ble_eq_true rfl) ?_
  have hcu : 0 ≤ 0 := Nat.zero_le _
  have hsu : 0 ≤ 0 := Nat.zero_le _
  have g : px_pu (some (.int e.1)) sh e.2 L R n (some (.int e.1)) sh e.2 L R n := ⟨rfl, rfl, rfl, rfl, rfl, rfl⟩
  unfold f_X11_open at h
  refine wx_aload_n dX11_open_0 rfl ?_
  refine wx_getR dX11_open_1 fl_X11_12 (sc_0 hS) rfl (rr_0_0 hS) ?_
  refine wx_getI dX11_open_4 fl_X11_77 (sc_1 hS) rfl ?_
  refine wx_if_le (tgt := 14) dX11_open_7 (by decide) (fun c_7 => ?_) (fun c_7 => ?_)
  · replace h := it_t h c_7
    refine wx_iconst (v := 0) dX11_open_14 (by decide) ?_
    exact wx_sub (s_X11_open_15 hS hd (show 0 + 0 ≤ 0 by omega) (show 0 + 0 ≤ 0 by omega) h g) (px_s rfl (px_s rfl px_0))
  · replace h := it_f h c_7
    refine wx_iconst (v := 1) dX11_open_10 (by decide) ?_
    refine wx_goto (tgt := 15) dX11_open_11 (by decide) ?_
    exact wx_sub (s_X11_open_15 hS hd (show 0 + 0 ≤ 0 by omega) (show 0 + 0 ≤ 0 by omega) h g) (px_s rfl (px_s rfl px_0))
theorem x_X11_open {d : Nat} {X : Nat × (Nat → Int32)} {sh : px_Sh} {M : px_M} {L : px_L} {R : px_R} {n : Nat} {p1 : Int32} {e : Nat} (hS : SR sh R) (hd : 7 ≤ d) (h : f_X11_open M p1 = some (.inr e)) : MXT yX11_open cX11_open 2 (some .int) d 1 6 X [.ref 0, .int p1] sh M L R n px_np (px_px (px_xn e) sh M L R n) := by
  refine MXT.of (by decide +kernel) (by exact Nat.le_of_ble_eq_true rfl) ?_
  have hcu : 0 ≤ 1 := Nat.zero_le _
  have hsu : 0 ≤ 6 := Nat.zero_le _
  have g : ∀ n', n ≤ n' → px_px (px_xn e) sh M L R n (px_xn e) sh M L R n' := fun n' hn => ⟨rfl, rfl, rfl, rfl, rfl, hn⟩
  unfold f_X11_open at h
  refine wx_aload_n dX11_open_0 rfl ?_
  refine wx_getR dX11_open_1 fl_X11_12 (sc_0 hS) rfl (rr_0_0 hS) ?_
  refine wx_getI dX11_open_4 fl_X11_77 (sc_1 hS) rfl ?_
  refine wx_if_le (tgt := 14) dX11_open_7 (by decide) (fun c_7 => ?_) (fun c_7 => ?_)
  · replace h := it_t h c_7
    refine wx_iconst (v := 0) dX11_open_14 (by decide) ?_
    exact wx_sub (x_X11_open_15 hS hd (show 0 + 1 ≤ 1 by omega) (show 0 + 6 ≤ 6 by omega) h g) (px_s rfl (px_s rfl px_0))
  · replace h := it_f h c_7
    refine wx_iconst (v := 1) dX11_open_10 (by decide) ?_
    refine wx_goto (tgt := 15) dX11_open_11 (by decide) ?_
    exact wx_sub (x_X11_open_15 hS hd (show 0 + 1 ≤ 1 by omega) (show 0 + 6 ≤ 6 by omega) h g) (px_s rfl (px_s rfl px_0))
noncomputable def f_X11_orders_18 (M : px_M) : Option (Int32 × px_M) :=
  bd1 (f_X2_countOrders M) fun e_22 =>
  some (e_22.1, e_22.2)
theorem s_X11_orders_18 {M : px_M} {L : px_L} {R : px_R} {e : (Int32 × px_M)} (hS : SR sh R) (hd : 7 ≤ d) (hcu : cu ≤ mc) (hsu : su ≤ ms) (h : f_X11_orders_18 M = some e) (g : Post (some (.int (e.1))) sh (e.2) L R n) : WX RX11 cX11_orders 1 (some .int) ("orders", []) d mc ms X (px_QF Post mc ms) 18 [(0, .ref 0)] [] sh M L R n cu su := by
  unfold f_X11_orders_18 at h
  refine wx_aload_n dX11_orders_18 rfl ?_
  refine wx_getR dX11_orders_19 fl_X11_12 (sc_0 hS) rfl (rr_0_0 hS) ?_
  obtain ⟨e_22, k_22, h⟩ := bd1_some h
  refine wx_cVi dX11_orders_22 ml_X11_112 my_X2_countOrders iv_X2_countOrders (sc_1 hS) (by decide) (s_X2_countOrders (d := d - 1) hS (by omega) k_22) rfl (by omega) (by exact Nat.le_of_ble_eq_true rfl) hcu hsu ?_
  refine wx_iret dX11_orders_25 hcu hsu ?_
  obtain rfl := Option.some.inj h
  exact g
noncomputable def f_X11_orders_15 (M : px_M) (z0 : Int32) : Option ((Int32 × px_M) ⊕ Nat) :=
  if z0 = 0 then some (.inr 1) else
  bd1 (f_X11_orders_18 M) fun r_18 => some (.inl r_18)
theorem s_X11_orders_15 {z0 : Int32} {PX : px_PX} {M : px_M} {L : px_L} {R : px_R} {e : Int32 × px_M} (hS : SR sh R) (hd : 7 ≤ d) (hcu : cu ≤ mc) (hsu : su ≤ ms) (h : f_X11_orders_15 M z0 = some (.inl e)) (g : Post (some (.int (e.1))) sh (e.2) L R n) : WX RX11 cX11_orders 1 (some .int) ("orders", []) d mc ms X (px_QX Post PX mc ms) 15 [(0, .ref 0)] [.int z0] sh M L R n cu su := by
  unfold f_X11_orders_15 at h
  by_cases c_15 : z0 = 0
  · replace h := it_t h c_15
    cases h
  replace h := it_f h c_15
  refine wx_needT dX11_orders_15 nl_needState my_X11_needState sv_X11_needState (mT_needState (d := d - 1) c_15) (by omega) (by exact Nat.le_of_ble_eq_true rfl) (show cu + 0 ≤ mc by omega) (show su + 0 ≤ ms by omega) ?_
  obtain ⟨r_18, k_18, h⟩ := bd1_some h
  cases h
  exact wx_rx (wx_sub (s_X11_orders_18 hS hd (show cu + 0 ≤ mc by omega) (show su + 0 ≤ ms by omega) k_18 g) (px_s rfl px_0))
theorem x_X11_orders_15 {z0 : Int32} {PX : px_PX} {M : px_M} {L : px_L} {R : px_R} {e : Nat} (hS : SR sh R) (hd : 7 ≤ d) (hcu : cu + 1 ≤ mc) (hsu : su + 6 ≤ ms) (h : f_X11_orders_15 M z0 = some (.inr e)) (g : ∀ n', n ≤ n' → PX (px_xn e) sh M L R n') : WX RX11 cX11_orders 1 (some .int) ("orders", []) d mc ms X (px_QX Post PX mc ms) 15 [(0, .ref 0)] [.int z0] sh M L R n cu su := by
  unfold f_X11_orders_15 at h
  by_cases c_15 : z0 = 0
  · replace h := it_t h c_15
    obtain rfl := Sum.inr.inj (Option.some.inj h)
    exact wx_needF dX11_orders_15 nl_needState my_X11_needState sv_X11_needState (mF_needState (d := d - 1) (by omega) c_15) (by omega) (by exact Nat.le_of_ble_eq_true rfl) (show cu + 1 ≤ mc by omega) (show su + 6 ≤ ms by omega) g
  replace h := it_f h c_15
  refine wx_needT dX11_orders_15 nl_needState my_X11_needState sv_X11_needState (mT_needState (d := d - 1) c_15) (by omega) (by exact Nat.le_of_ble_eq_true rfl) (show cu + 0 ≤ mc by omega) (show su + 0 ≤ ms by omega) ?_
  obtain ⟨r_18, k_18, h⟩ := bd1_some h
  cases h
noncomputable def f_X11_orders (M : px_M) : Option ((Int32 × px_M) ⊕ Nat) :=
  if (M 1 0) ≤ 0 then
    f_X11_orders_15 M 0
  else
    f_X11_orders_15 M 1
theorem s_X11_orders {d : Nat} {X : Nat × (Nat → Int32)} {sh : px_Sh} {M : px_M} {L : px_L} {R : px_R} {n : Nat} {e : Int32 × px_M} (hS : SR sh R) (hd : 7 ≤ d) (h : f_X11_orders M = some (.inl e)) : MXT yX11_orders cX11_orders 1 (some .int) d 0 0 X [.ref 0] sh M L R n (px_pu (some (.int e.1)) sh e.2 L R n) px_nx := by
  refine MXT.of (by decide +kernel) (by exact Nat.le_of_ble_eq_true rfl) ?_
  have hcu : 0 ≤ 0 := Nat.zero_le _
  have hsu : 0 ≤ 0 := Nat.zero_le _
  have g : px_pu (some (.int e.1)) sh e.2 L R n (some (.int e.1)) sh e.2 L R n := ⟨rfl, rfl, rfl, rfl, rfl, rfl⟩
  unfold f_X11_orders at h
  refine wx_aload_n dX11_orders_0 rfl ?_
  refine wx_getR dX11_orders_1 fl_X11_12 (sc_0 hS) rfl (rr_0_0 hS) ?_
  refine wx_getI dX11_orders_4 fl_X11_77 (sc_1 hS) rfl ?_
  refine wx_if_le (tgt := 14) dX11_orders_7 (by decide) (fun c_7 => ?_) (fun c_7 => ?_)
  · replace h := it_t h c_7
    refine wx_iconst (v := 0) dX11_orders_14 (by decide) ?_
    exact wx_sub (s_X11_orders_15 hS hd (show 0 + 0 ≤ 0 by omega) (show 0 + 0 ≤ 0 by omega) h g) (px_s rfl px_0)
  · replace h := it_f h c_7
    refine wx_iconst (v := 1) dX11_orders_10 (by decide) ?_
    refine wx_goto (tgt := 15) dX11_orders_11 (by decide) ?_
    exact wx_sub (s_X11_orders_15 hS hd (show 0 + 0 ≤ 0 by omega) (show 0 + 0 ≤ 0 by omega) h g) (px_s rfl px_0)
theorem x_X11_orders {d : Nat} {X : Nat × (Nat → Int32)} {sh : px_Sh} {M : px_M} {L : px_L} {R : px_R} {n : Nat} {e : Nat} (hS : SR sh R) (hd : 7 ≤ d) (h : f_X11_orders M = some (.inr e)) : MXT yX11_orders cX11_orders 1 (some .int) d 1 6 X [.ref 0] sh M L R n px_np (px_px (px_xn e) sh M L R n) := by
  refine MXT.of (by decide +kernel) (by exact Nat.le_of_ble_eq_true rfl) ?_
  have hcu : 0 ≤ 1 := Nat.zero_le _
  have hsu : 0 ≤ 6 := Nat.zero_le _
  have g : ∀ n', n ≤ n' → px_px (px_xn e) sh M L R n (px_xn e) sh M L R n' := fun n' hn => ⟨rfl, rfl, rfl, rfl, rfl, hn⟩
  unfold f_X11_orders at h
  refine wx_aload_n dX11_orders_0 rfl ?_
  refine wx_getR dX11_orders_1 fl_X11_12 (sc_0 hS) rfl (rr_0_0 hS) ?_
  refine wx_getI dX11_orders_4 fl_X11_77 (sc_1 hS) rfl ?_
  refine wx_if_le (tgt := 14) dX11_orders_7 (by decide) (fun c_7 => ?_) (fun c_7 => ?_)
  · replace h := it_t h c_7
    refine wx_iconst (v := 0) dX11_orders_14 (by decide) ?_
    exact wx_sub (x_X11_orders_15 hS hd (show 0 + 1 ≤ 1 by omega) (show 0 + 6 ≤ 6 by omega) h g) (px_s rfl px_0)
  · replace h := it_f h c_7
    refine wx_iconst (v := 1) dX11_orders_10 (by decide) ?_
    refine wx_goto (tgt := 15) dX11_orders_11 (by decide) ?_
    exact wx_sub (x_X11_orders_15 hS hd (show 0 + 1 ≤ 1 by omega) (show 0 + 6 ≤ 6 by omega) h g) (px_s rfl px_0)
noncomputable def f_X11_safe_18 (M : px_M) (x1 : Int32) : Option (Int32 × px_M) :=
  bd1 (f_X2_creaseOfFirstOrder M x1) fun e_23 =>
  some (e_23.1, e_23.2)
theorem s_X11_safe_18 {x1 : Int32} {M : px_M} {L : px_L} {R : px_R} {e : (Int32 × px_M)} (hS : SR sh R) (hd : 7 ≤ d) (hcu : cu ≤ mc) (hsu : su ≤ ms) (h : f_X11_safe_18 M x1 = some e) (g : Post (some (.int (e.1))) sh (e.2) L R n) : WX RX11 cX11_safe 2 (some .int) ("safe", []) d mc ms X (px_QF Post mc ms) 18 [(0, .ref 0), (1, .int x1)] [] sh M L R n cu su := by
  unfold f_X11_safe_18 at h
  refine wx_aload_n dX11_safe_18 rfl ?_
  refine wx_getR dX11_safe_19 fl_X11_12 (sc_0 hS) rfl (rr_0_0 hS) ?_
  refine wx_iload_n dX11_safe_22 rfl ?_
  obtain ⟨e_23, k_23, h⟩ := bd1_some h
  refine wx_cVi dX11_safe_23 ml_X11_116 my_X2_creaseOfFirstOrder iv_X2_creaseOfFirstOrder (sc_1 hS) (by decide) (s_X2_creaseOfFirstOrder (d := d - 1) hS (by omega) k_23) rfl (by omega) (by exact Nat.le_of_ble_eq_true rfl) hcu hsu ?_
  refine wx_iret dX11_safe_26 hcu hsu ?_
  obtain rfl := Option.some.inj h
  exact g
noncomputable def f_X11_safe_15 (M : px_M) (x1 : Int32) (z0 : Int32) : Option ((Int32 × px_M) ⊕ Nat) :=
  if z0 = 0 then some (.inr 1) else
  bd1 (f_X11_safe_18 M x1) fun r_18 => some (.inl r_18)
theorem s_X11_safe_15 {x1 : Int32} {z0 : Int32} {PX : px_PX} {M : px_M} {L : px_L} {R : px_R} {e : Int32 × px_M} (hS : SR sh R) (hd : 7 ≤ d) (hcu : cu ≤ mc) (hsu : su ≤ ms) (h : f_X11_safe_15 M x1 z0 = some (.inl e)) (g : Post (some (.int (e.1))) sh (e.2) L R n) : WX RX11 cX11_safe 2 (some .int) ("safe", []) d mc ms X (px_QX Post PX mc ms) 15 [(0, .ref 0), (1, .int x1)] [.int z0] sh M L R n cu su := by
  unfold f_X11_safe_15 at h
  by_cases c_15 : z0 = 0
  · replace h := it_t h c_15
    cases h
  replace h := it_f h c_15
  refine wx_needT dX11_safe_15 nl_needState my_X11_needState sv_X11_needState (mT_needState (d := d - 1) c_15) (by omega) (by exact Nat.le_of_ble_eq_true rfl) (show cu + 0 ≤ mc by omega) (show su + 0 ≤ ms by omega) ?_
  obtain ⟨r_18, k_18, h⟩ := bd1_some h
  cases h
  exact wx_rx (wx_sub (s_X11_safe_18 hS hd (show cu + 0 ≤ mc by omega) (show su + 0 ≤ ms by omega) k_18 g) (px_s rfl (px_s rfl px_0)))
theorem x_X11_safe_15 {x1 : Int32} {z0 : Int32} {PX : px_PX} {M : px_M} {L : px_L} {R : px_R} {e : Nat} (hS : SR sh R) (hd : 7 ≤ d) (hcu : cu + 1 ≤ mc) (hsu : su + 6 ≤ ms) (h : f_X11_safe_15 M x1 z0 = some (.inr e)) (g : ∀ n', n ≤ n' → PX (px_xn e) sh M L R n') : WX RX11 cX11_safe 2 (some .int) ("safe", []) d mc ms X (px_QX Post PX mc ms) 15 [(0, .ref 0), (1, .int x1)] [.int z0] sh M L R n cu su := by
  unfold f_X11_safe_15 at h
  by_cases c_15 : z0 = 0
  · replace h := it_t h c_15
    obtain rfl := Sum.inr.inj (Option.some.inj h)
    exact wx_needF dX11_safe_15 nl_needState my_X11_needState sv_X11_needState (mF_needState (d := d - 1) (by omega) c_15) (by omega) (by exact Nat.le_of_ble_eq_true rfl) (show cu + 1 ≤ mc by omega) (show su + 6 ≤ ms by omega) g
  replace h := it_f h c_15
  refine wx_needT dX11_safe_15 nl_needState my_X11_needState sv_X11_needState (mT_needState (d := d - 1) c_15) (by omega) (by exact Nat.le_of_ble_eq_true rfl) (show cu + 0 ≤ mc by omega) (show su + 0 ≤ ms by omega) ?_
  obtain ⟨r_18, k_18, h⟩ := bd1_some h
  cases h
noncomputable def f_X11_safe (M : px_M) (p1 : Int32) : Option ((Int32 × px_M) ⊕ Nat) :=
  if (M 1 0) ≤ 0 then
    f_X11_safe_15 M p1 0
  else
    f_X11_safe_15 M p1 1
theorem s_X11_safe {d : Nat} {X : Nat × (Nat → Int32)} {sh : px_Sh} {M : px_M} {L : px_L} {R : px_R} {n : Nat} {p1 : Int32} {e : Int32 × px_M} (hS : SR sh R) (hd : 7 ≤ d) (h : f_X11_safe M p1 = some (.inl e)) : MXT yX11_safe cX11_safe 2 (some .int) d 0 0 X [.ref 0, .int p1] sh M L R n (px_pu (some (.int e.1)) sh e.2 L R n) px_nx := by
  refine MXT.of (by decide +kernel) (by exact Nat.le_of_ble_eq_true rfl) ?_
  have hcu : 0 ≤ 0 := Nat.zero_le _
  have hsu : 0 ≤ 0 := Nat.zero_le _
  have g : px_pu (some (.int e.1)) sh e.2 L R n (some (.int e.1)) sh e.2 L R n := ⟨rfl, rfl, rfl, rfl, rfl, rfl⟩
  unfold f_X11_safe at h
  refine wx_aload_n dX11_safe_0 rfl ?_
  refine wx_getR dX11_safe_1 fl_X11_12 (sc_0 hS) rfl (rr_0_0 hS) ?_
  refine wx_getI dX11_safe_4 fl_X11_77 (sc_1 hS) rfl ?_
  refine wx_if_le (tgt := 14) dX11_safe_7 (by decide) (fun c_7 => ?_) (fun c_7 => ?_)
  · replace h := it_t h c_7
    refine wx_iconst (v := 0) dX11_safe_14 (by decide) ?_
    exact wx_sub (s_X11_safe_15 hS hd (show 0 + 0 ≤ 0 by omega) (show 0 + 0 ≤ 0 by omega) h g) (px_s rfl (px_s rfl px_0))
  · replace h := it_f h c_7
    refine wx_iconst (v := 1) dX11_safe_10 (by decide) ?_
    refine wx_goto (tgt := 15) dX11_safe_11 (by decide) ?_
    exact wx_sub (s_X11_safe_15 hS hd (show 0 + 0 ≤ 0 by omega) (show 0 + 0 ≤ 0 by omega) h g) (px_s rfl (px_s rfl px_0))
theorem x_X11_safe {d : Nat} {X : Nat × (Nat → Int32)} {sh : px_Sh} {M : px_M} {L : px_L} {R : px_R} {n : Nat} {p1 : Int32} {e : Nat} (hS : SR sh R) (hd : 7 ≤ d) (h : f_X11_safe M p1 = some (.inr e)) : MXT yX11_safe cX11_safe 2 (some .int) d 1 6 X [.ref 0, .int p1] sh M L R n px_np (px_px (px_xn e) sh M L R n) := by
  refine MXT.of (by decide +kernel) (by exact Nat.le_of_ble_eq_true rfl) ?_
  have hcu : 0 ≤ 1 := Nat.zero_le _
  have hsu : 0 ≤ 6 := Nat.zero_le _
  have g : ∀ n', n ≤ n' → px_px (px_xn e) sh M L R n (px_xn e) sh M L R n' := fun n' hn => ⟨rfl, rfl, rfl, rfl, rfl, hn⟩
  unfold f_X11_safe at h
  refine wx_aload_n dX11_safe_0 rfl ?_
  refine wx_getR dX11_safe_1 fl_X11_12 (sc_0 hS) rfl (rr_0_0 hS) ?_
  refine wx_getI dX11_safe_4 fl_X11_77 (sc_1 hS) rfl ?_
  refine wx_if_le (tgt := 14) dX11_safe_7 (by decide) (fun c_7 => ?_) (fun c_7 => ?_)
  · replace h := it_t h c_7
    refine wx_iconst (v := 0) dX11_safe_14 (by decide) ?_
    exact wx_sub (x_X11_safe_15 hS hd (show 0 + 1 ≤ 1 by omega) (show 0 + 6 ≤ 6 by omega) h g) (px_s rfl (px_s rfl px_0))
  · replace h := it_f h c_7
    refine wx_iconst (v := 1) dX11_safe_10 (by decide) ?_
    refine wx_goto (tgt := 15) dX11_safe_11 (by decide) ?_
    exact wx_sub (x_X11_safe_15 hS hd (show 0 + 1 ≤ 1 by omega) (show 0 + 6 ≤ 6 by omega) h g) (px_s rfl (px_s rfl px_0))
noncomputable def f_X11_panel_37 (sh : px_Sh) (M : px_M) (L : px_L) (R : px_R) (n : Nat) (x1 : Int32) (x2 : Int32) (x3 : Int32) (x4 : Int32) (x5 : Int32) : Option (Int32 × px_Sh × px_M × px_L × px_R × Nat) :=
  bd1 (f_X8_addPanel sh M L R n x1 x2 x3 x4 x5) fun e_48 =>
  some (e_48.1, e_48.2.1, e_48.2.2.1, e_48.2.2.2.1, e_48.2.2.2.2.1, e_48.2.2.2.2.2)
theorem s_X11_panel_37 {x1 : Int32} {x2 : Int32} {x3 : Int32} {x4 : Int32} {x5 : Int32} {M : px_M} {L : px_L} {R : px_R} {e : (Int32 × px_Sh × px_M × px_L × px_R × Nat)} (hS : SR sh R) (hd : 7 ≤ d) (hcu : cu + 1 ≤ mc) (hsu : su + 11 ≤ ms) (hn : 220 ≤ n) (h : f_X11_panel_37 sh M L R n x1 x2 x3 x4 x5 = some e) (g : SR (e.2.1) (e.2.2.2.2.1) → 220 ≤ (e.2.2.2.2.2) → Post (some (.int (e.1))) (e.2.1) (e.2.2.1) (e.2.2.2.1) (e.2.2.2.2.1) (e.2.2.2.2.2)) : WX RX11 cX11_panel 6 (some .int) ("panel", []) d mc ms X (px_QF Post mc ms) 37 [(0, .ref 0), (1, .int x1), (2, .int x2), (3, .int x3), (4, .int x4), (5, .int x5)] [] sh M L R n cu su := by
  unfold f_X11_panel_37 at h
  refine wx_aload_n dX11_panel_37 rfl ?_
  refine wx_getR dX11_panel_38 fl_X11_19 (sc_0 hS) rfl (rr_0_1 hS) ?_
  refine wx_iload_n dX11_panel_41 rfl ?_
  refine wx_iload_n dX11_panel_42 rfl ?_
  refine wx_iload_n dX11_panel_43 rfl ?_
  refine wx_iload dX11_panel_44 rfl ?_
  refine wx_iload dX11_panel_46 rfl ?_
  obtain ⟨e_48, k_48, h⟩ := bd1_some h
  refine wx_aVi dX11_panel_48 ml_X11_125 my_X8_addPanel iv_X8_addPanel (sc_6 hS) (by decide) (s_X8_addPanel (d := d - 1) hS (by omega) hn k_48) rfl (by omega) (by exact Nat.le_of_ble_eq_true rfl) (show cu + 1 ≤ mc by omega) (show su + 11 ≤ ms by omega) (fun hS hn => ?_)
  refine wx_iret dX11_panel_51 (show cu + 1 ≤ mc by omega) (show su + 11 ≤ ms by omega) ?_
  obtain rfl := Option.some.inj h
  exact g hS hn
noncomputable def f_X11_panel_34 (sh : px_Sh) (M : px_M) (L : px_L) (R : px_R) (n : Nat) (x1 : Int32) (x2 : Int32) (x3 : Int32) (x4 : Int32) (x5 : Int32) (z0 : Int32) : Option ((Int32 × px_Sh × px_M × px_L × px_R × Nat) ⊕ Nat) :=
  if z0 = 0 then some (.inr 0) else
  bd1 (f_X11_panel_37 sh M L R n x1 x2 x3 x4 x5) fun r_37 => some (.inl r_37)
theorem s_X11_panel_34 {x1 : Int32} {x2 : Int32} {x3 : Int32} {x4 : Int32} {x5 : Int32} {z0 : Int32} {PX : px_PX} {M : px_M} {L : px_L} {R : px_R} {e : Int32 × px_Sh × px_M × px_L × px_R × Nat} (hS : SR sh R) (hd : 7 ≤ d) (hcu : cu + 1 ≤ mc) (hsu : su + 11 ≤ ms) (hn : 220 ≤ n) (h : f_X11_panel_34 sh M L R n x1 x2 x3 x4 x5 z0 = some (.inl e)) (g : SR (e.2.1) (e.2.2.2.2.1) → 220 ≤ (e.2.2.2.2.2) → Post (some (.int (e.1))) (e.2.1) (e.2.2.1) (e.2.2.2.1) (e.2.2.2.2.1) (e.2.2.2.2.2)) : WX RX11 cX11_panel 6 (some .int) ("panel", []) d mc ms X (px_QX Post PX mc ms) 34 [(0, .ref 0), (1, .int x1), (2, .int x2), (3, .int x3), (4, .int x4), (5, .int x5)] [.int z0] sh M L R n cu su := by
  unfold f_X11_panel_34 at h
  by_cases c_34 : z0 = 0
  · replace h := it_t h c_34
    cases h
  replace h := it_f h c_34
  refine wx_needT dX11_panel_34 nl_needArgument my_X11_needArgument sv_X11_needArgument (mT_needArgument (d := d - 1) c_34) (by omega) (by exact Nat.le_of_ble_eq_true rfl) (show cu + 0 ≤ mc by omega) (show su + 0 ≤ ms by omega) ?_
  obtain ⟨r_37, k_37, h⟩ := bd1_some h
  cases h
  exact wx_rx (wx_sub (s_X11_panel_37 hS hd (show cu + 1 ≤ mc by omega) (show su + 11 ≤ ms by omega) hn k_37 g) (px_s rfl (px_s rfl (px_s rfl (px_s rfl (px_s rfl (px_s rfl px_0)))))))
theorem x_X11_panel_34 {x1 : Int32} {x2 : Int32} {x3 : Int32} {x4 : Int32} {x5 : Int32} {z0 : Int32} {PX : px_PX} {M : px_M} {L : px_L} {R : px_R} {e : Nat} (hS : SR sh R) (hd : 7 ≤ d) (hcu : cu + 1 ≤ mc) (hsu : su + 6 ≤ ms) (hn : 220 ≤ n) (h : f_X11_panel_34 sh M L R n x1 x2 x3 x4 x5 z0 = some (.inr e)) (g : ∀ n', n ≤ n' → PX (px_xn e) sh M L R n') : WX RX11 cX11_panel 6 (some .int) ("panel", []) d mc ms X (px_QX Post PX mc ms) 34 [(0, .ref 0), (1, .int x1), (2, .int x2), (3, .int x3), (4, .int x4), (5, .int x5)] [.int z0] sh M L R n cu su := by
  unfold f_X11_panel_34 at h
  by_cases c_34 : z0 = 0
  · replace h := it_t h c_34
    obtain rfl := Sum.inr.inj (Option.some.inj h)
    exact wx_needF dX11_panel_34 nl_needArgument my_X11_needArgument sv_X11_needArgument (mF_needArgument (d := d - 1) (by omega) c_34) (by omega) (by exact Nat.le_of_ble_eq_true rfl) (show cu + 1 ≤ mc by omega) (show su + 6 ≤ ms by omega) g
  replace h := it_f h c_34
  refine wx_needT dX11_panel_34 nl_needArgument my_X11_needArgument sv_X11_needArgument (mT_needArgument (d := d - 1) c_34) (by omega) (by exact Nat.le_of_ble_eq_true rfl) (show cu + 0 ≤ mc by omega) (show su + 0 ≤ ms by omega) ?_
  obtain ⟨r_37, k_37, h⟩ := bd1_some h
  cases h
noncomputable def f_X11_panel_33 (sh : px_Sh) (M : px_M) (L : px_L) (R : px_R) (n : Nat) (x1 : Int32) (x2 : Int32) (x3 : Int32) (x4 : Int32) (x5 : Int32) : Option ((Int32 × px_Sh × px_M × px_L × px_R × Nat) ⊕ Nat) :=
  f_X11_panel_34 sh M L R n x1 x2 x3 x4 x5 0
theorem s_X11_panel_33 {x1 : Int32} {x2 : Int32} {x3 : Int32} {x4 : Int32} {x5 : Int32} {PX : px_PX} {M : px_M} {L : px_L} {R : px_R} {e : Int32 × px_Sh × px_M × px_L × px_R × Nat} (hS : SR sh R) (hd : 7 ≤ d) (hcu : cu + 1 ≤ mc) (hsu : su + 11 ≤ ms) (hn : 220 ≤ n) (h : f_X11_panel_33 sh M L R n x1 x2 x3 x4 x5 = some (.inl e)) (g : SR (e.2.1) (e.2.2.2.2.1) → 220 ≤ (e.2.2.2.2.2) → Post (some (.int (e.1))) (e.2.1) (e.2.2.1) (e.2.2.2.1) (e.2.2.2.2.1) (e.2.2.2.2.2)) : WX RX11 cX11_panel 6 (some .int) ("panel", []) d mc ms X (px_QX Post PX mc ms) 33 [(0, .ref 0), (1, .int x1), (2, .int x2), (3, .int x3), (4, .int x4), (5, .int x5)] [] sh M L R n cu su := by
  unfold f_X11_panel_33 at h
  refine wx_iconst (v := 0) dX11_panel_33 (by decide) ?_
  exact wx_sub (s_X11_panel_34 hS hd (show cu + 1 ≤ mc by omega) (show su + 11 ≤ ms by omega) hn h g) (px_s rfl (px_s rfl (px_s rfl (px_s rfl (px_s rfl (px_s rfl px_0))))))
theorem x_X11_panel_33 {x1 : Int32} {x2 : Int32} {x3 : Int32} {x4 : Int32} {x5 : Int32} {PX : px_PX} {M : px_M} {L : px_L} {R : px_R} {e : Nat} (hS : SR sh R) (hd : 7 ≤ d) (hcu : cu + 1 ≤ mc) (hsu : su + 6 ≤ ms) (hn : 220 ≤ n) (h : f_X11_panel_33 sh M L R n x1 x2 x3 x4 x5 = some (.inr e)) (g : ∀ n', n ≤ n' → PX (px_xn e) sh M L R n') : WX RX11 cX11_panel 6 (some .int) ("panel", []) d mc ms X (px_QX Post PX mc ms) 33 [(0, .ref 0), (1, .int x1), (2, .int x2), (3, .int x3), (4, .int x4), (5, .int x5)] [] sh M L R n cu su := by
  unfold f_X11_panel_33 at h
  refine wx_iconst (v := 0) dX11_panel_33 (by decide) ?_
  exact wx_sub (x_X11_panel_34 hS hd (show cu + 1 ≤ mc by omega) (show su + 6 ≤ ms by omega) hn h g) (px_s rfl (px_s rfl (px_s rfl (px_s rfl (px_s rfl (px_s rfl px_0))))))
noncomputable def f_X11_panel (sh : px_Sh) (M : px_M) (L : px_L) (R : px_R) (n : Nat) (p1 : Int32) (p2 : Int32) (p3 : Int32) (p4 : Int32) (p5 : Int32) : Option ((Int32 × px_Sh × px_M × px_L × px_R × Nat) ⊕ Nat) :=
  bd1 (f_X11_isSpot p1 p2) fun e_2 =>
  if e_2 = 0 then
    f_X11_panel_33 sh M L R n p1 p2 p3 p4 p5
  else
    bd1 (f_X11_within p3 1 1000) fun e_13 =>
    if e_13 = 0 then
      f_X11_panel_33 sh M L R n p1 p2 p3 p4 p5
    else
      bd1 (f_X11_isCoat p4 p5) fun e_23 =>
      if e_23 = 0 then
        f_X11_panel_33 sh M L R n p1 p2 p3 p4 p5
      else
        f_X11_panel_34 sh M L R n p1 p2 p3 p4 p5 1
theorem s_X11_panel {d : Nat} {X : Nat × (Nat → Int32)} {sh : px_Sh} {M : px_M} {L : px_L} {R : px_R} {n : Nat} {p1 : Int32} {p2 : Int32} {p3 : Int32} {p4 : Int32} {p5 : Int32} {e : Int32 × px_Sh × px_M × px_L × px_R × Nat} (hS : SR sh R) (hd : 7 ≤ d) (hn : 220 ≤ n) (h : f_X11_panel sh M L R n p1 p2 p3 p4 p5 = some (.inl e)) : MXT yX11_panel cX11_panel 6 (some .int) d 1 11 X [.ref 0, .int p1, .int p2, .int p3, .int p4, .int p5] sh M L R n (px_pa (some (.int e.1)) e.2.1 e.2.2.1 e.2.2.2.1 e.2.2.2.2.1 e.2.2.2.2.2) px_nx := by
  refine MXT.of (by decide +kernel) (by exact Nat.le_of_ble_eq_true rfl) ?_
  have hcu : 0 ≤ 1 := Nat.zero_le _
  have hsu : 0 ≤ 11 := Nat.zero_le _
  have g : SR e.2.1 e.2.2.2.2.1 → 220 ≤ e.2.2.2.2.2 → px_pa (some (.int e.1)) e.2.1 e.2.2.1 e.2.2.2.1 e.2.2.2.2.1 e.2.2.2.2.2 (some (.int e.1)) e.2.1 e.2.2.1 e.2.2.2.1 e.2.2.2.2.1 e.2.2.2.2.2 := fun q q2 => ⟨⟨rfl, rfl, rfl, rfl, rfl, rfl⟩, q, q2⟩
  unfold f_X11_panel at h
  refine wx_iload_n dX11_panel_0 rfl ?_
  refine wx_iload_n dX11_panel_1 rfl ?_
  obtain ⟨e_2, k_2, h⟩ := bd1_some h
  refine wx_cSi dX11_panel_2 ml_X11_119 my_X11_isSpot sv_X11_isSpot (s_X11_isSpot (d := d - 1) hS (by omega) k_2) rfl (by omega) (by exact Nat.le_of_ble_eq_true rfl) (show 0 + 0 ≤ 1 by omega) (show 0 + 0 ≤ 11 by omega) ?_
  refine wx_if_eq (tgt := 33) dX11_panel_5 (by decide) (fun c_5 => ?_) (fun c_5 => ?_)
  · replace h := it_t h c_5
    exact wx_sub (s_X11_panel_33 hS hd (show 0 + 1 ≤ 1 by omega) (show 0 + 11 ≤ 11 by omega) hn h g) (px_s rfl (px_s rfl (px_s rfl (px_s rfl (px_s rfl (px_s rfl px_0))))))
  · replace h := it_f h c_5
    refine wx_iload_n dX11_panel_8 rfl ?_
    refine wx_iconst (v := 1) dX11_panel_9 (by decide) ?_
    refine wx_sipush (v := 1000) dX11_panel_10 (by decide) ?_
    obtain ⟨e_13, k_13, h⟩ := bd1_some h
    refine wx_cSi dX11_panel_13 ml_X11_65 my_X11_within sv_X11_within (s_X11_within (d := d - 1) hS (by omega) k_13) rfl (by omega) (by exact Nat.le_of_ble_eq_true rfl) (show 0 + 0 ≤ 1 by omega) (show 0 + 0 ≤ 11 by omega) ?_
    refine wx_if_eq (tgt := 33) dX11_panel_16 (by decide) (fun c_16 => ?_) (fun c_16 => ?_)
    · replace h := it_t h c_16
      exact wx_sub (s_X11_panel_33 hS hd (show 0 + 1 ≤ 1 by omega) (show 0 + 11 ≤ 11 by omega) hn h g) (px_s rfl (px_s rfl (px_s rfl (px_s rfl (px_s rfl (px_s rfl px_0))))))
    · replace h := it_f h c_16
      refine wx_iload dX11_panel_19 rfl ?_
      refine wx_iload dX11_panel_21 rfl ?_
      obtain ⟨e_23, k_23, h⟩ := bd1_some h
      refine wx_cSi dX11_panel_23 ml_X11_122 my_X11_isCoat sv_X11_isCoat (s_X11_isCoat (d := d - 1) hS (by omega) k_23) rfl (by omega) (by exact Nat.le_of_ble_eq_true rfl) (show 0 + 0 ≤ 1 by omega) (show 0 + 0 ≤ 11 by omega) ?_
      refine wx_if_eq (tgt := 33) dX11_panel_26 (by decide) (fun c_26 => ?_) (fun c_26 => ?_)
      · replace h := it_t h c_26
        exact wx_sub (s_X11_panel_33 hS hd (show 0 + 1 ≤ 1 by omega) (show 0 + 11 ≤ 11 by omega) hn h g) (px_s rfl (px_s rfl (px_s rfl (px_s rfl (px_s rfl (px_s rfl px_0))))))
      · replace h := it_f h c_26
        refine wx_iconst (v := 1) dX11_panel_29 (by decide) ?_
        refine wx_goto (tgt := 34) dX11_panel_30 (by decide) ?_
        exact wx_sub (s_X11_panel_34 hS hd (show 0 + 1 ≤ 1 by omega) (show 0 + 11 ≤ 11 by omega) hn h g) (px_s rfl (px_s rfl (px_s rfl (px_s rfl (px_s rfl (px_s rfl px_0))))))
theorem x_X11_panel {d : Nat} {X : Nat × (Nat → Int32)} {sh : px_Sh} {M : px_M} {L : px_L} {R : px_R} {n : Nat} {p1 : Int32} {p2 : Int32} {p3 : Int32} {p4 : Int32} {p5 : Int32} {e : Nat} (hS : SR sh R) (hd : 7 ≤ d) (hn : 220 ≤ n) (h : f_X11_panel sh M L R n p1 p2 p3 p4 p5 = some (.inr e)) : MXT yX11_panel cX11_panel 6 (some .int) d 1 6 X [.ref 0, .int p1, .int p2, .int p3, .int p4, .int p5] sh M L R n px_np (px_px (px_xn e) sh M L R n) := by
  refine MXT.of (by decide +kernel) (by exact Nat.le_of_ble_eq_true rfl) ?_
  have hcu : 0 ≤ 1 := Nat.zero_le _
  have hsu : 0 ≤ 6 := Nat.zero_le _
  have g : ∀ n', n ≤ n' → px_px (px_xn e) sh M L R n (px_xn e) sh M L R n' := fun n' hn => ⟨rfl, rfl, rfl, rfl, rfl, hn⟩
  unfold f_X11_panel at h
  refine wx_iload_n dX11_panel_0 rfl ?_
  refine wx_iload_n dX11_panel_1 rfl ?_
  obtain ⟨e_2, k_2, h⟩ := bd1_some h
  refine wx_cSi dX11_panel_2 ml_X11_119 my_X11_isSpot sv_X11_isSpot (s_X11_isSpot (d := d - 1) hS (by omega) k_2) rfl (by omega) (by exact Nat.le_of_ble_eq_true rfl) (show 0 + 0 ≤ 1 by omega) (show 0 + 0 ≤ 6 by omega) ?_
  refine wx_if_eq (tgt := 33) dX11_panel_5 (by decide) (fun c_5 => ?_) (fun c_5 => ?_)
  · replace h := it_t h c_5
    exact wx_sub (x_X11_panel_33 hS hd (show 0 + 1 ≤ 1 by omega) (show 0 + 6 ≤ 6 by omega) hn h g) (px_s rfl (px_s rfl (px_s rfl (px_s rfl (px_s rfl (px_s rfl px_0))))))
  · replace h := it_f h c_5
    refine wx_iload_n dX11_panel_8 rfl ?_
    refine wx_iconst (v := 1) dX11_panel_9 (by decide) ?_
    refine wx_sipush (v := 1000) dX11_panel_10 (by decide) ?_
    obtain ⟨e_13, k_13, h⟩ := bd1_some h
    refine wx_cSi dX11_panel_13 ml_X11_65 my_X11_within sv_X11_within (s_X11_within (d := d - 1) hS (by omega) k_13) rfl (by omega) (by exact Nat.le_of_ble_eq_true rfl) (show 0 + 0 ≤ 1 by omega) (show 0 + 0 ≤ 6 by omega) ?_
    refine wx_if_eq (tgt := 33) dX11_panel_16 (by decide) (fun c_16 => ?_) (fun c_16 => ?_)
    · replace h := it_t h c_16
      exact wx_sub (x_X11_panel_33 hS hd (show 0 + 1 ≤ 1 by omega) (show 0 + 6 ≤ 6 by omega) hn h g) (px_s rfl (px_s rfl (px_s rfl (px_s rfl (px_s rfl (px_s rfl px_0))))))
    · replace h := it_f h c_16
      refine wx_iload dX11_panel_19 rfl ?_
      refine wx_iload dX11_panel_21 rfl ?_
      obtain ⟨e_23, k_23, h⟩ := bd1_some h
      refine wx_cSi dX11_panel_23 ml_X11_122 my_X11_isCoat sv_X11_isCoat (s_X11_isCoat (d := d - 1) hS (by omega) k_23) rfl (by omega) (by exact Nat.le_of_ble_eq_true rfl) (show 0 + 0 ≤ 1 by omega) (show 0 + 0 ≤ 6 by omega) ?_
      refine wx_if_eq (tgt := 33) dX11_panel_26 (by decide) (fun c_26 => ?_) (fun c_26 => ?_)
      · replace h := it_t h c_26
        exact wx_sub (x_X11_panel_33 hS hd (show 0 + 1 ≤ 1 by omega) (show 0 + 6 ≤ 6 by omega) hn h g) (px_s rfl (px_s rfl (px_s rfl (px_s rfl (px_s rfl (px_s rfl px_0))))))
      · replace h := it_f h c_26
        refine wx_iconst (v := 1) dX11_panel_29 (by decide) ?_
        refine wx_goto (tgt := 34) dX11_panel_30 (by decide) ?_
        exact wx_sub (x_X11_panel_34 hS hd (show 0 + 1 ≤ 1 by omega) (show 0 + 6 ≤ 6 by omega) hn h g) (px_s rfl (px_s rfl (px_s rfl (px_s rfl (px_s rfl (px_s rfl px_0))))))
noncomputable def f_X11_bend_21 (sh : px_Sh) (M : px_M) (R : px_R) (x1 : Int32) (x2 : Int32) : Option (Int32 × px_M) :=
  ok (ix x1 4) <|
  bd1 (R 8 x1.toNatClampNeg) fun b_29 =>
  ok (hk sh b_29 5) <|
  nm (M b_29 9) fun v_35 =>
  ok (hk sh b_29 5) <|
  if (M b_29 10) = 0 then
    ok (hk sh b_29 5) <|
    nm (px_u M b_29 9 x2) fun M_49 =>
    some (v_35, M_49)
  else
    some ((-3), M)
theorem s_X11_bend_21 {x1 : Int32} {x2 : Int32} {M : px_M} {L : px_L} {R : px_R} {e : (Int32 × px_M)} (hS : SR sh R) (hd : 7 ≤ d) (hcu : cu ≤ mc) (hsu : su ≤ ms) (h : f_X11_bend_21 sh M R x1 x2 = some e) (g : Post (some (.int (e.1))) sh (e.2) L R n) : WX RX11 cX11_bend 5 (some .int) ("bend", []) d mc ms X (px_QF Post mc ms) 21 [(0, .ref 0), (1, .int x1), (2, .int x2)] [] sh M L R n cu su := by
  unfold f_X11_bend_21 at h
  refine wx_aload_n dX11_bend_21 rfl ?_
  refine wx_getR dX11_bend_22 fl_X11_19 (sc_0 hS) rfl (rr_0_1 hS) ?_
  refine wx_getR dX11_bend_25 fl_X11_154 (sc_6 hS) rfl (rr_6_2 hS) ?_
  refine wx_iload_n dX11_bend_28 rfl ?_
  obtain ⟨w_29, h⟩ := ok_some h
  obtain ⟨b_29, wr_29, h⟩ := bd1_some h
  refine wx_aald dX11_bend_29 (sc_8 hS) (by decide) (by decide) (ix_in w_29) wr_29 ?_
  refine wx_astore_n (lv' := [(3, _), (0, _), (1, _), (2, _)]) dX11_bend_30 (by decide) rfl ?_
  refine wx_aload_n dX11_bend_31 rfl ?_
  obtain ⟨ws_32, h⟩ := ok_some h
  obtain ⟨ln_32, wt_32⟩ := hk_some ws_32
  refine wx_getI dX11_bend_32 fl_X11_157 wt_32 rfl ?_
  refine wx_nami (fun v_35 q_35 => ?_)
  replace h := nm_at h q_35
  refine wx_istore (lv' := [(4, _), (3, _), (0, _), (1, _), (2, _)]) dX11_bend_35 (by decide) rfl ?_
  refine wx_aload_n dX11_bend_37 rfl ?_
  obtain ⟨ws_38, h⟩ := ok_some h
  obtain ⟨ln_38, wt_38⟩ := hk_some ws_38
  refine wx_getI dX11_bend_38 fl_X11_160 wt_38 rfl ?_
  refine wx_if_eq (tgt := 47) dX11_bend_41 (by decide) (fun c_41 => ?_) (fun c_41 => ?_)
  · replace h := it_t h c_41
    refine wx_aload_n dX11_bend_47 rfl ?_
    refine wx_iload_n dX11_bend_48 rfl ?_
    obtain ⟨ws_49, h⟩ := ok_some h
    obtain ⟨ln_49, wt_49⟩ := hk_some ws_49
    refine wx_putI dX11_bend_49 fl_X11_157 wt_49 (Or.inl rfl) rfl ⟨rfl, rfl⟩ ?_
    refine wx_namM (fun M_49 q_49 => ?_)
    replace h := nm_at h q_49
    refine wx_iload dX11_bend_52 rfl ?_
    refine wx_iret dX11_bend_54 hcu hsu ?_
    obtain rfl := Option.some.inj h
    exact g
  · replace h := it_f h c_41
    refine wx_bipush (v := (-3)) dX11_bend_44 (by decide) ?_
    refine wx_iret dX11_bend_46 hcu hsu ?_
    obtain rfl := Option.some.inj h
    exact g
noncomputable def f_X11_bend (sh : px_Sh) (M : px_M) (R : px_R) (p1 : Int32) (p2 : Int32) : Option ((Int32 × px_M) ⊕ Nat) :=
  bd1 (f_X8_hasFlap M p1) fun e_5 =>
  if e_5 = 0 then some (.inr 2) else
  bd1 (f_X11_within p2 (-2) 2) fun e_15 =>
  if e_15 = 0 then some (.inr 0) else
  bd1 (f_X11_bend_21 sh M R p1 p2) fun r_21 => some (.inl r_21)
theorem s_X11_bend {d : Nat} {X : Nat × (Nat → Int32)} {sh : px_Sh} {M : px_M} {L : px_L} {R : px_R} {n : Nat} {p1 : Int32} {p2 : Int32} {e : Int32 × px_M} (hS : SR sh R) (hd : 7 ≤ d) (h : f_X11_bend sh M R p1 p2 = some (.inl e)) : MXT yX11_bend cX11_bend 5 (some .int) d 0 0 X [.ref 0, .int p1, .int p2] sh M L R n (px_pu (some (.int e.1)) sh e.2 L R n) px_nx := by
  refine MXT.of (by decide +kernel) (by exact Nat.le_of_ble_eq_true rfl) ?_
  have hcu : 0 ≤ 0 := Nat.zero_le _
  have hsu : 0 ≤ 0 := Nat.zero_le _
  have g : px_pu (some (.int e.1)) sh e.2 L R n (some (.int e.1)) sh e.2 L R n := ⟨rfl, rfl, rfl, rfl, rfl, rfl⟩
  unfold f_X11_bend at h
  refine wx_aload_n dX11_bend_0 rfl ?_
  refine wx_getR dX11_bend_1 fl_X11_19 (sc_0 hS) rfl (rr_0_1 hS) ?_
  refine wx_iload_n dX11_bend_4 rfl ?_
  obtain ⟨e_5, k_5, h⟩ := bd1_some h
  refine wx_cVi dX11_bend_5 ml_X11_151 my_X8_hasFlap iv_X8_hasFlap (sc_6 hS) (by decide) (s_X8_hasFlap (d := d - 1) hS (by omega) k_5) rfl (by omega) (by exact Nat.le_of_ble_eq_true rfl) (show 0 + 0 ≤ 0 by omega) (show 0 + 0 ≤ 0 by omega) ?_
  by_cases c_8 : e_5 = 0
  · replace h := it_t h c_8
    cases h
  replace h := it_f h c_8
  refine wx_needT dX11_bend_8 nl_needIndex my_X11_needIndex sv_X11_needIndex (mT_needIndex (d := d - 1) c_8) (by omega) (by exact Nat.le_of_ble_eq_true rfl) (show 0 + 0 ≤ 0 by omega) (show 0 + 0 ≤ 0 by omega) ?_
  refine wx_iload_n dX11_bend_11 rfl ?_
  refine wx_bipush (v := (-2)) dX11_bend_12 (by decide) ?_
  refine wx_iconst (v := 2) dX11_bend_14 (by decide) ?_
  obtain ⟨e_15, k_15, h⟩ := bd1_some h
  refine wx_cSi dX11_bend_15 ml_X11_65 my_X11_within sv_X11_within (s_X11_within (d := d - 1) hS (by omega) k_15) rfl (by omega) (by exact Nat.le_of_ble_eq_true rfl) (show 0 + 0 ≤ 0 by omega) (show 0 + 0 ≤ 0 by omega) ?_
  by_cases c_18 : e_15 = 0
  · replace h := it_t h c_18
    cases h
  replace h := it_f h c_18
  refine wx_needT dX11_bend_18 nl_needArgument my_X11_needArgument sv_X11_needArgument (mT_needArgument (d := d - 1) c_18) (by omega) (by exact Nat.le_of_ble_eq_true rfl) (show 0 + 0 ≤ 0 by omega) (show 0 + 0 ≤ 0 by omega) ?_
  obtain ⟨r_21, k_21, h⟩ := bd1_some h
  cases h
  exact wx_rx (wx_sub (s_X11_bend_21 hS hd (show 0 + 0 ≤ 0 by omega) (show 0 + 0 ≤ 0 by omega) k_21 g) (px_s rfl (px_s rfl (px_s rfl px_0))))
theorem x_X11_bend {d : Nat} {X : Nat × (Nat → Int32)} {sh : px_Sh} {M : px_M} {L : px_L} {R : px_R} {n : Nat} {p1 : Int32} {p2 : Int32} {e : Nat} (hS : SR sh R) (hd : 7 ≤ d) (h : f_X11_bend sh M R p1 p2 = some (.inr e)) : MXT yX11_bend cX11_bend 5 (some .int) d 1 6 X [.ref 0, .int p1, .int p2] sh M L R n px_np (px_px (px_xn e) sh M L R n) := by
  refine MXT.of (by decide +kernel) (by exact Nat.le_of_ble_eq_true rfl) ?_
  have hcu : 0 ≤ 1 := Nat.zero_le _
  have hsu : 0 ≤ 6 := Nat.zero_le _
  have g : ∀ n', n ≤ n' → px_px (px_xn e) sh M L R n (px_xn e) sh M L R n' := fun n' hn => ⟨rfl, rfl, rfl, rfl, rfl, hn⟩
  unfold f_X11_bend at h
  refine wx_aload_n dX11_bend_0 rfl ?_
  refine wx_getR dX11_bend_1 fl_X11_19 (sc_0 hS) rfl (rr_0_1 hS) ?_
  refine wx_iload_n dX11_bend_4 rfl ?_
  obtain ⟨e_5, k_5, h⟩ := bd1_some h
  refine wx_cVi dX11_bend_5 ml_X11_151 my_X8_hasFlap iv_X8_hasFlap (sc_6 hS) (by decide) (s_X8_hasFlap (d := d - 1) hS (by omega) k_5) rfl (by omega) (by exact Nat.le_of_ble_eq_true rfl) (show 0 + 0 ≤ 1 by omega) (show 0 + 0 ≤ 6 by omega) ?_
  by_cases c_8 : e_5 = 0
  · replace h := it_t h c_8
    obtain rfl := Sum.inr.inj (Option.some.inj h)
    exact wx_needF dX11_bend_8 nl_needIndex my_X11_needIndex sv_X11_needIndex (mF_needIndex (d := d - 1) (by omega) c_8) (by omega) (by exact Nat.le_of_ble_eq_true rfl) (show 0 + 1 ≤ 1 by omega) (show 0 + 6 ≤ 6 by omega) g
  replace h := it_f h c_8
  refine wx_needT dX11_bend_8 nl_needIndex my_X11_needIndex sv_X11_needIndex (mT_needIndex (d := d - 1) c_8) (by omega) (by exact Nat.le_of_ble_eq_true rfl) (show 0 + 0 ≤ 1 by omega) (show 0 + 0 ≤ 6 by omega) ?_
  refine wx_iload_n dX11_bend_11 rfl ?_
  refine wx_bipush (v := (-2)) dX11_bend_12 (by decide) ?_
  refine wx_iconst (v := 2) dX11_bend_14 (by decide) ?_
  obtain ⟨e_15, k_15, h⟩ := bd1_some h
  refine wx_cSi dX11_bend_15 ml_X11_65 my_X11_within sv_X11_within (s_X11_within (d := d - 1) hS (by omega) k_15) rfl (by omega) (by exact Nat.le_of_ble_eq_true rfl) (show 0 + 0 ≤ 1 by omega) (show 0 + 0 ≤ 6 by omega) ?_
  by_cases c_18 : e_15 = 0
  · replace h := it_t h c_18
    obtain rfl := Sum.inr.inj (Option.some.inj h)
    exact wx_needF dX11_bend_18 nl_needArgument my_X11_needArgument sv_X11_needArgument (mF_needArgument (d := d - 1) (by omega) c_18) (by omega) (by exact Nat.le_of_ble_eq_true rfl) (show 0 + 1 ≤ 1 by omega) (show 0 + 6 ≤ 6 by omega) g
  replace h := it_f h c_18
  refine wx_needT dX11_bend_18 nl_needArgument my_X11_needArgument sv_X11_needArgument (mT_needArgument (d := d - 1) c_18) (by omega) (by exact Nat.le_of_ble_eq_true rfl) (show 0 + 0 ≤ 1 by omega) (show 0 + 0 ≤ 6 by omega) ?_
  obtain ⟨r_21, k_21, h⟩ := bd1_some h
  cases h
noncomputable def f_X11_stuck_11 (sh : px_Sh) (M : px_M) (R : px_R) (x1 : Int32) (x2 : Int32) : Option (Int32 × px_M) :=
  ok (ix x1 4) <|
  bd1 (R 8 x1.toNatClampNeg) fun b_19 =>
  ok (hk sh b_19 5) <|
  nm (M b_19 10) fun v_23 =>
  ok (ix x1 4) <|
  bd1 (R 8 x1.toNatClampNeg) fun b_32 =>
  ok (hk sh b_32 5) <|
  ok (zb x2) <|
  nm (px_u M b_32 10 x2) fun M_34 =>
  ok (zb v_23) <|
  some (v_23, M_34)
theorem s_X11_stuck_11 {x1 : Int32} {x2 : Int32} {M : px_M} {L : px_L} {R : px_R} {e : (Int32 × px_M)} (hS : SR sh R) (hd : 7 ≤ d) (hcu : cu ≤ mc) (hsu : su ≤ ms) (h : f_X11_stuck_11 sh M R x1 x2 = some e) (g : Post (some (.int (e.1))) sh (e.2) L R n) : WX RX11 cX11_stuck 4 (some .boolean) ("stuck", []) d mc ms X (px_QF Post mc ms) 11 [(0, .ref 0), (1, .int x1), (2, .int x2)] [] sh M L R n cu su := by
  unfold f_X11_stuck_11 at h
  refine wx_aload_n dX11_stuck_11 rfl ?_
  refine wx_getR dX11_stuck_12 fl_X11_19 (sc_0 hS) rfl (rr_0_1 hS) ?_
  refine wx_getR dX11_stuck_15 fl_X11_154 (sc_6 hS) rfl (rr_6_2 hS) ?_
  refine wx_iload_n dX11_stuck_18 rfl ?_
  obtain ⟨w_19, h⟩ := ok_some h
  obtain ⟨b_19, wr_19, h⟩ := bd1_some h
  refine wx_aald dX11_stuck_19 (sc_8 hS) (by decide) (by decide) (ix_in w_19) wr_19 ?_
  obtain ⟨ws_20, h⟩ := ok_some h
  obtain ⟨ln_20, wt_20⟩ := hk_some ws_20
  refine wx_getI dX11_stuck_20 fl_X11_160 wt_20 rfl ?_
  refine wx_nami (fun v_23 q_23 => ?_)
  replace h := nm_at h q_23
  refine wx_istore_n (lv' := [(3, _), (0, _), (1, _), (2, _)]) dX11_stuck_23 (by decide) rfl ?_
  refine wx_aload_n dX11_stuck_24 rfl ?_
  refine wx_getR dX11_stuck_25 fl_X11_19 (sc_0 hS) rfl (rr_0_1 hS) ?_
  refine wx_getR dX11_stuck_28 fl_X11_154 (sc_6 hS) rfl (rr_6_2 hS) ?_
  refine wx_iload_n dX11_stuck_31 rfl ?_
  obtain ⟨w_32, h⟩ := ok_some h
  obtain ⟨b_32, wr_32, h⟩ := bd1_some h
  refine wx_aald dX11_stuck_32 (sc_8 hS) (by decide) (by decide) (ix_in w_32) wr_32 ?_
  refine wx_iload_n dX11_stuck_33 rfl ?_
  obtain ⟨ws_34, h⟩ := ok_some h
  obtain ⟨ln_34, wt_34⟩ := hk_some ws_34
  obtain ⟨wz_34, h⟩ := ok_some h
  refine wx_putI dX11_stuck_34 fl_X11_160 wt_34 (Or.inl rfl) rfl (zb_f wz_34) ?_
  refine wx_namM (fun M_34 q_34 => ?_)
  replace h := nm_at h q_34
  refine wx_iload_n dX11_stuck_37 rfl ?_
  obtain ⟨w_38, h⟩ := ok_some h
  refine wx_zret dX11_stuck_38 (zb_n w_38) hcu hsu ?_
  obtain rfl := Option.some.inj h
  exact g
noncomputable def f_X11_stuck (sh : px_Sh) (M : px_M) (R : px_R) (p1 : Int32) (p2 : Int32) : Option ((Int32 × px_M) ⊕ Nat) :=
  bd1 (f_X8_hasFlap M p1) fun e_5 =>
  if e_5 = 0 then some (.inr 2) else
  bd1 (f_X11_stuck_11 sh M R p1 p2) fun r_11 => some (.inl r_11)
theorem s_X11_stuck {d : Nat} {X : Nat × (Nat → Int32)} {sh : px_Sh} {M : px_M} {L : px_L} {R : px_R} {n : Nat} {p1 : Int32} {p2 : Int32} {e : Int32 × px_M} (hS : SR sh R) (hd : 7 ≤ d) (h : f_X11_stuck sh M R p1 p2 = some (.inl e)) : MXT yX11_stuck cX11_stuck 4 (some .boolean) d 0 0 X [.ref 0, .int p1, .int p2] sh M L R n (px_pu (some (.int e.1)) sh e.2 L R n) px_nx := by
  refine MXT.of (by decide +kernel) (by exact Nat.le_of_ble_eq_true rfl) ?_
  have hcu : 0 ≤ 0 := Nat.zero_le _
  have hsu : 0 ≤ 0 := Nat.zero_le _
  have g : px_pu (some (.int e.1)) sh e.2 L R n (some (.int e.1)) sh e.2 L R n := ⟨rfl, rfl, rfl, rfl, rfl, rfl⟩
  unfold f_X11_stuck at h
  refine wx_aload_n dX11_stuck_0 rfl ?_
  refine wx_getR dX11_stuck_1 fl_X11_19 (sc_0 hS) rfl (rr_0_1 hS) ?_
  refine wx_iload_n dX11_stuck_4 rfl ?_
  obtain ⟨e_5, k_5, h⟩ := bd1_some h
  refine wx_cVi dX11_stuck_5 ml_X11_151 my_X8_hasFlap iv_X8_hasFlap (sc_6 hS) (by decide) (s_X8_hasFlap (d := d - 1) hS (by omega) k_5) rfl (by omega) (by exact Nat.le_of_ble_eq_true rfl) (show 0 + 0 ≤ 0 by omega) (show 0 + 0 ≤ 0 by omega) ?_
  by_cases c_8 : e_5 = 0
  · replace h := it_t h c_8
    cases h
  replace h := it_f h c_8
  refine wx_needT dX11_stuck_8 nl_needIndex my_X11_needIndex sv_X11_needIndex (mT_needIndex (d := d - 1) c_8) (by omega) (by exact Nat.le_of_ble_eq_true rfl) (show 0 + 0 ≤ 0 by omega) (show 0 + 0 ≤ 0 by omega) ?_
  obtain ⟨r_11, k_11, h⟩ := bd1_some h
  cases h
  exact wx_rx (wx_sub (s_X11_stuck_11 hS hd (show 0 + 0 ≤ 0 by omega) (show 0 + 0 ≤ 0 by omega) k_11 g) (px_s rfl (px_s rfl (px_s rfl px_0))))
theorem x_X11_stuck {d : Nat} {X : Nat × (Nat → Int32)} {sh : px_Sh} {M : px_M} {L : px_L} {R : px_R} {n : Nat} {p1 : Int32} {p2 : Int32} {e : Nat} (hS : SR sh R) (hd : 7 ≤ d) (h : f_X11_stuck sh M R p1 p2 = some (.inr e)) : MXT yX11_stuck cX11_stuck 4 (some .boolean) d 1 6 X [.ref 0, .int p1, .int p2] sh M L R n px_np (px_px (px_xn e) sh M L R n) := by
  refine MXT.of (by decide +kernel) (by exact Nat.le_of_ble_eq_true rfl) ?_
  have hcu : 0 ≤ 1 := Nat.zero_le _
  have hsu : 0 ≤ 6 := Nat.zero_le _
  have g : ∀ n', n ≤ n' → px_px (px_xn e) sh M L R n (px_xn e) sh M L R n' := fun n' hn => ⟨rfl, rfl, rfl, rfl, rfl, hn⟩
  unfold f_X11_stuck at h
  refine wx_aload_n dX11_stuck_0 rfl ?_
  refine wx_getR dX11_stuck_1 fl_X11_19 (sc_0 hS) rfl (rr_0_1 hS) ?_
  refine wx_iload_n dX11_stuck_4 rfl ?_
  obtain ⟨e_5, k_5, h⟩ := bd1_some h
  refine wx_cVi dX11_stuck_5 ml_X11_151 my_X8_hasFlap iv_X8_hasFlap (sc_6 hS) (by decide) (s_X8_hasFlap (d := d - 1) hS (by omega) k_5) rfl (by omega) (by exact Nat.le_of_ble_eq_true rfl) (show 0 + 0 ≤ 1 by omega) (show 0 + 0 ≤ 6 by omega) ?_
  by_cases c_8 : e_5 = 0
  · replace h := it_t h c_8
    obtain rfl := Sum.inr.inj (Option.some.inj h)
    exact wx_needF dX11_stuck_8 nl_needIndex my_X11_needIndex sv_X11_needIndex (mF_needIndex (d := d - 1) (by omega) c_8) (by omega) (by exact Nat.le_of_ble_eq_true rfl) (show 0 + 1 ≤ 1 by omega) (show 0 + 6 ≤ 6 by omega) g
  replace h := it_f h c_8
  refine wx_needT dX11_stuck_8 nl_needIndex my_X11_needIndex sv_X11_needIndex (mT_needIndex (d := d - 1) c_8) (by omega) (by exact Nat.le_of_ble_eq_true rfl) (show 0 + 0 ≤ 1 by omega) (show 0 + 0 ≤ 6 by omega) ?_
  obtain ⟨r_11, k_11, h⟩ := bd1_some h
  cases h
noncomputable def f_X11_weights_8 (M : px_M) (x1 : Int32) (x2 : Int32) : Option (px_M) :=
  nm (px_u M 6 4 x1) fun M_13 =>
  nm (px_u M_13 6 5 x2) fun M_21 =>
  some M_21
theorem s_X11_weights_8 {x1 : Int32} {x2 : Int32} {M : px_M} {L : px_L} {R : px_R} {e : (px_M)} (hS : SR sh R) (hd : 7 ≤ d) (hcu : cu ≤ mc) (hsu : su ≤ ms) (h : f_X11_weights_8 M x1 x2 = some e) (g : Post none sh e L R n) : WX RX11 cX11_weights 3 none ("weights", []) d mc ms X (px_QF Post mc ms) 8 [(0, .ref 0), (1, .int x1), (2, .int x2)] [] sh M L R n cu su := by
  unfold f_X11_weights_8 at h
  refine wx_aload_n dX11_weights_8 rfl ?_
  refine wx_getR dX11_weights_9 fl_X11_19 (sc_0 hS) rfl (rr_0_1 hS) ?_
  refine wx_iload_n dX11_weights_12 rfl ?_
  refine wx_putI dX11_weights_13 fl_X11_163 (sc_6 hS) (Or.inl rfl) rfl ⟨rfl, rfl⟩ ?_
  refine wx_namM (fun M_13 q_13 => ?_)
  replace h := nm_at h q_13
  refine wx_aload_n dX11_weights_16 rfl ?_
  refine wx_getR dX11_weights_17 fl_X11_19 (sc_0 hS) rfl (rr_0_1 hS) ?_
  refine wx_iload_n dX11_weights_20 rfl ?_
  refine wx_putI dX11_weights_21 fl_X11_166 (sc_6 hS) (Or.inl rfl) rfl ⟨rfl, rfl⟩ ?_
  refine wx_namM (fun M_21 q_21 => ?_)
  replace h := nm_at h q_21
  refine wx_vret dX11_weights_24 hcu hsu ?_
  obtain rfl := Option.some.inj h
  exact g
noncomputable def f_X11_weights (M : px_M) (p1 : Int32) (p2 : Int32) : Option ((px_M) ⊕ Nat) :=
  bd1 (f_X11_isSpot p1 p2) fun e_2 =>
  if e_2 = 0 then some (.inr 0) else
  bd1 (f_X11_weights_8 M p1 p2) fun r_8 => some (.inl r_8)
theorem s_X11_weights {d : Nat} {X : Nat × (Nat → Int32)} {sh : px_Sh} {M : px_M} {L : px_L} {R : px_R} {n : Nat} {p1 : Int32} {p2 : Int32} {e : px_M} (hS : SR sh R) (hd : 7 ≤ d) (h : f_X11_weights M p1 p2 = some (.inl e)) : MXT yX11_weights cX11_weights 3 none d 0 0 X [.ref 0, .int p1, .int p2] sh M L R n (px_pu none sh e L R n) px_nx := by
  refine MXT.of (by decide +kernel) (by exact Nat.le_of_ble_eq_true rfl) ?_
  have hcu : 0 ≤ 0 := Nat.zero_le _
  have hsu : 0 ≤ 0 := Nat.zero_le _
  have g : px_pu none sh e L R n none sh e L R n := ⟨rfl, rfl, rfl, rfl, rfl, rfl⟩
  unfold f_X11_weights at h
  refine wx_iload_n dX11_weights_0 rfl ?_
  refine wx_iload_n dX11_weights_1 rfl ?_
  obtain ⟨e_2, k_2, h⟩ := bd1_some h
  refine wx_cSi dX11_weights_2 ml_X11_119 my_X11_isSpot sv_X11_isSpot (s_X11_isSpot (d := d - 1) hS (by omega) k_2) rfl (by omega) (by exact Nat.le_of_ble_eq_true rfl) (show 0 + 0 ≤ 0 by omega) (show 0 + 0 ≤ 0 by omega) ?_
  by_cases c_5 : e_2 = 0
  · replace h := it_t h c_5
    cases h
  replace h := it_f h c_5
  refine wx_needT dX11_weights_5 nl_needArgument my_X11_needArgument sv_X11_needArgument (mT_needArgument (d := d - 1) c_5) (by omega) (by exact Nat.le_of_ble_eq_true rfl) (show 0 + 0 ≤ 0 by omega) (show 0 + 0 ≤ 0 by omega) ?_
  obtain ⟨r_8, k_8, h⟩ := bd1_some h
  cases h
  exact wx_rx (wx_sub (s_X11_weights_8 hS hd (show 0 + 0 ≤ 0 by omega) (show 0 + 0 ≤ 0 by omega) k_8 g) (px_s rfl (px_s rfl (px_s rfl px_0))))
theorem x_X11_weights {d : Nat} {X : Nat × (Nat → Int32)} {sh : px_Sh} {M : px_M} {L : px_L} {R : px_R} {n : Nat} {p1 : Int32} {p2 : Int32} {e : Nat} (hS : SR sh R) (hd : 7 ≤ d) (h : f_X11_weights M p1 p2 = some (.inr e)) : MXT yX11_weights cX11_weights 3 none d 1 6 X [.ref 0, .int p1, .int p2] sh M L R n px_np (px_px (px_xn e) sh M L R n) := by
  refine MXT.of (by decide +kernel) (by exact Nat.le_of_ble_eq_true rfl) ?_
  have hcu : 0 ≤ 1 := Nat.zero_le _
  have hsu : 0 ≤ 6 := Nat.zero_le _
  have g : ∀ n', n ≤ n' → px_px (px_xn e) sh M L R n (px_xn e) sh M L R n' := fun n' hn => ⟨rfl, rfl, rfl, rfl, rfl, hn⟩
  unfold f_X11_weights at h
  refine wx_iload_n dX11_weights_0 rfl ?_
  refine wx_iload_n dX11_weights_1 rfl ?_
  obtain ⟨e_2, k_2, h⟩ := bd1_some h
  refine wx_cSi dX11_weights_2 ml_X11_119 my_X11_isSpot sv_X11_isSpot (s_X11_isSpot (d := d - 1) hS (by omega) k_2) rfl (by omega) (by exact Nat.le_of_ble_eq_true rfl) (show 0 + 0 ≤ 1 by omega) (show 0 + 0 ≤ 6 by omega) ?_
  by_cases c_5 : e_2 = 0
  · replace h := it_t h c_5
    obtain rfl := Sum.inr.inj (Option.some.inj h)
    exact wx_needF dX11_weights_5 nl_needArgument my_X11_needArgument sv_X11_needArgument (mF_needArgument (d := d - 1) (by omega) c_5) (by omega) (by exact Nat.le_of_ble_eq_true rfl) (show 0 + 1 ≤ 1 by omega) (show 0 + 6 ≤ 6 by omega) g
  replace h := it_f h c_5
  refine wx_needT dX11_weights_5 nl_needArgument my_X11_needArgument sv_X11_needArgument (mT_needArgument (d := d - 1) c_5) (by omega) (by exact Nat.le_of_ble_eq_true rfl) (show 0 + 0 ≤ 1 by omega) (show 0 + 0 ≤ 6 by omega) ?_
  obtain ⟨r_8, k_8, h⟩ := bd1_some h
  cases h
noncomputable def f_X11_push_47 (sh : px_Sh) (M : px_M) (R : px_R) (z0 : Int32) : Option (Int32) :=
  some z0
theorem s_X11_push_47 {z0 : Int32} {M : px_M} {L : px_L} {R : px_R} {e : (Int32)} (hS : SR sh R) (hd : 7 ≤ d) (hcu : cu ≤ mc) (hsu : su ≤ ms) (h : f_X11_push_47 sh M R z0 = some e) (g : Post (some (.int e)) sh M L R n) : WX RX11 cX11_push 3 (some .int) ("push", []) d mc ms X (px_QF Post mc ms) 47 [] [.int z0] sh M L R n cu su := by
  unfold f_X11_push_47 at h
  refine wx_iret dX11_push_47 hcu hsu ?_
  obtain rfl := Option.some.inj h
  exact g
noncomputable def f_X11_push_24 (sh : px_Sh) (M : px_M) (R : px_R) (x1 : Int32) (x2 : Int32) : Option (Int32) :=
  if x2 = 0 then
    bd1 (f_X8_pushX sh M R x1) fun e_33 =>
    f_X11_push_47 sh M R e_33
  else
    bd1 (f_X8_pushY sh M R x1) fun e_44 =>
    f_X11_push_47 sh M R e_44
theorem s_X11_push_24 {x1 : Int32} {x2 : Int32} {M : px_M} {L : px_L} {R : px_R} {e : (Int32)} (hS : SR sh R) (hd : 7 ≤ d) (hcu : cu ≤ mc) (hsu : su ≤ ms) (h : f_X11_push_24 sh M R x1 x2 = some e) (g : Post (some (.int e)) sh M L R n) : WX RX11 cX11_push 3 (some .int) ("push", []) d mc ms X (px_QF Post mc ms) 24 [(0, .ref 0), (1, .int x1), (2, .int x2)] [] sh M L R n cu su := by
  unfold f_X11_push_24 at h
  refine wx_iload_n dX11_push_24 rfl ?_
  refine wx_if_ne (tgt := 39) dX11_push_25 (by decide) (fun c_25 => ?_) (fun c_25 => ?_)
  · replace h := it_f h c_25
    refine wx_aload_n dX11_push_39 rfl ?_
    refine wx_getR dX11_push_40 fl_X11_19 (sc_0 hS) rfl (rr_0_1 hS) ?_
    refine wx_iload_n dX11_push_43 rfl ?_
    obtain ⟨e_44, k_44, h⟩ := bd1_some h
    refine wx_cVi dX11_push_44 ml_X11_175 my_X8_pushY iv_X8_pushY (sc_6 hS) (by decide) (s_X8_pushY (d := d - 1) hS (by omega) k_44) rfl (by omega) (by exact Nat.le_of_ble_eq_true rfl) hcu hsu ?_
    exact wx_sub (s_X11_push_47 hS hd hcu hsu h g) px_0
  · replace h := it_t h c_25
    refine wx_aload_n dX11_push_28 rfl ?_
    refine wx_getR dX11_push_29 fl_X11_19 (sc_0 hS) rfl (rr_0_1 hS) ?_
    refine wx_iload_n dX11_push_32 rfl ?_
    obtain ⟨e_33, k_33, h⟩ := bd1_some h
    refine wx_cVi dX11_push_33 ml_X11_172 my_X8_pushX iv_X8_pushX (sc_6 hS) (by decide) (s_X8_pushX (d := d - 1) hS (by omega) k_33) rfl (by omega) (by exact Nat.le_of_ble_eq_true rfl) hcu hsu ?_
    refine wx_goto (tgt := 47) dX11_push_36 (by decide) ?_
    exact wx_sub (s_X11_push_47 hS hd hcu hsu h g) px_0
noncomputable def f_X11_push_21 (sh : px_Sh) (M : px_M) (R : px_R) (x1 : Int32) (x2 : Int32) (z0 : Int32) : Option ((Int32) ⊕ Nat) :=
  if z0 = 0 then some (.inr 0) else
  bd1 (f_X11_push_24 sh M R x1 x2) fun r_24 => some (.inl r_24)
theorem s_X11_push_21 {x1 : Int32} {x2 : Int32} {z0 : Int32} {PX : px_PX} {M : px_M} {L : px_L} {R : px_R} {e : Int32} (hS : SR sh R) (hd : 7 ≤ d) (hcu : cu ≤ mc) (hsu : su ≤ ms) (h : f_X11_push_21 sh M R x1 x2 z0 = some (.inl e)) (g : Post (some (.int e)) sh M L R n) : WX RX11 cX11_push 3 (some .int) ("push", []) d mc ms X (px_QX Post PX mc ms) 21 [(0, .ref 0), (1, .int x1), (2, .int x2)] [.int z0] sh M L R n cu su := by
  unfold f_X11_push_21 at h
  by_cases c_21 : z0 = 0
  · replace h := it_t h c_21
    cases h
  replace h := it_f h c_21
  refine wx_needT dX11_push_21 nl_needArgument my_X11_needArgument sv_X11_needArgument (mT_needArgument (d := d - 1) c_21) (by omega) (by exact Nat.le_of_ble_eq_true rfl) (show cu + 0 ≤ mc by omega) (show su + 0 ≤ ms by omega) ?_
  obtain ⟨r_24, k_24, h⟩ := bd1_some h
  cases h
  exact wx_rx (wx_sub (s_X11_push_24 hS hd (show cu + 0 ≤ mc by omega) (show su + 0 ≤ ms by omega) k_24 g) (px_s rfl (px_s rfl (px_s rfl px_0))))
theorem x_X11_push_21 {x1 : Int32} {x2 : Int32} {z0 : Int32} {PX : px_PX} {M : px_M} {L : px_L} {R : px_R} {e : Nat} (hS : SR sh R) (hd : 7 ≤ d) (hcu : cu + 1 ≤ mc) (hsu : su + 6 ≤ ms) (h : f_X11_push_21 sh M R x1 x2 z0 = some (.inr e)) (g : ∀ n', n ≤ n' → PX (px_xn e) sh M L R n') : WX RX11 cX11_push 3 (some .int) ("push", []) d mc ms X (px_QX Post PX mc ms) 21 [(0, .ref 0), (1, .int x1), (2, .int x2)] [.int z0] sh M L R n cu su := by
  unfold f_X11_push_21 at h
  by_cases c_21 : z0 = 0
  · replace h := it_t h c_21
    obtain rfl := Sum.inr.inj (Option.some.inj h)
    exact wx_needF dX11_push_21 nl_needArgument my_X11_needArgument sv_X11_needArgument (mF_needArgument (d := d - 1) (by omega) c_21) (by omega) (by exact Nat.le_of_ble_eq_true rfl) (show cu + 1 ≤ mc by omega) (show su + 6 ≤ ms by omega) g
  replace h := it_f h c_21
  refine wx_needT dX11_push_21 nl_needArgument my_X11_needArgument sv_X11_needArgument (mT_needArgument (d := d - 1) c_21) (by omega) (by exact Nat.le_of_ble_eq_true rfl) (show cu + 0 ≤ mc by omega) (show su + 0 ≤ ms by omega) ?_
  obtain ⟨r_24, k_24, h⟩ := bd1_some h
  cases h
noncomputable def f_X11_push_20 (sh : px_Sh) (M : px_M) (R : px_R) (x1 : Int32) (x2 : Int32) : Option ((Int32) ⊕ Nat) :=
  f_X11_push_21 sh M R x1 x2 0
theorem s_X11_push_20 {x1 : Int32} {x2 : Int32} {PX : px_PX} {M : px_M} {L : px_L} {R : px_R} {e : Int32} (hS : SR sh R) (hd : 7 ≤ d) (hcu : cu ≤ mc) (hsu : su ≤ ms) (h : f_X11_push_20 sh M R x1 x2 = some (.inl e)) (g : Post (some (.int e)) sh M L R n) : WX RX11 cX11_push 3 (some .int) ("push", []) d mc ms X (px_QX Post PX mc ms) 20 [(0, .ref 0), (1, .int x1), (2, .int x2)] [] sh M L R n cu su := by
  unfold f_X11_push_20 at h
  refine wx_iconst (v := 0) dX11_push_20 (by decide) ?_
  exact wx_sub (s_X11_push_21 hS hd (show cu + 0 ≤ mc by omega) (show su + 0 ≤ ms by omega) h g) (px_s rfl (px_s rfl (px_s rfl px_0)))
theorem x_X11_push_20 {x1 : Int32} {x2 : Int32} {PX : px_PX} {M : px_M} {L : px_L} {R : px_R} {e : Nat} (hS : SR sh R) (hd : 7 ≤ d) (hcu : cu + 1 ≤ mc) (hsu : su + 6 ≤ ms) (h : f_X11_push_20 sh M R x1 x2 = some (.inr e)) (g : ∀ n', n ≤ n' → PX (px_xn e) sh M L R n') : WX RX11 cX11_push 3 (some .int) ("push", []) d mc ms X (px_QX Post PX mc ms) 20 [(0, .ref 0), (1, .int x1), (2, .int x2)] [] sh M L R n cu su := by
  unfold f_X11_push_20 at h
  refine wx_iconst (v := 0) dX11_push_20 (by decide) ?_
  exact wx_sub (x_X11_push_21 hS hd (show cu + 1 ≤ mc by omega) (show su + 6 ≤ ms by omega) h g) (px_s rfl (px_s rfl (px_s rfl px_0)))
noncomputable def f_X11_push (sh : px_Sh) (M : px_M) (R : px_R) (p1 : Int32) (p2 : Int32) : Option ((Int32) ⊕ Nat) :=
  bd1 (f_X11_isSlant p1) fun e_1 =>
  if e_1 = 0 then
    f_X11_push_20 sh M R p1 p2
  else
    bd1 (f_X11_within p2 0 1) fun e_10 =>
    if e_10 = 0 then
      f_X11_push_20 sh M R p1 p2
    else
      f_X11_push_21 sh M R p1 p2 1
theorem s_X11_push {d : Nat} {X : Nat × (Nat → Int32)} {sh : px_Sh} {M : px_M} {L : px_L} {R : px_R} {n : Nat} {p1 : Int32} {p2 : Int32} {e : Int32} (hS : SR sh R) (hd : 7 ≤ d) (h : f_X11_push sh M R p1 p2 = some (.inl e)) : MXT yX11_push cX11_push 3 (some .int) d 0 0 X [.ref 0, .int p1, .int p2] sh M L R n (px_pu (some (.int e)) sh M L R n) px_nx := by
  refine MXT.of (by decide +kernel) (by exact Nat.le_of_ble_eq_true rfl) ?_
  have hcu : 0 ≤ 0 := Nat.zero_le _
  have hsu : 0 ≤ 0 := Nat.zero_le _
  have g : px_pu (some (.int e)) sh M L R n (some (.int e)) sh M L R n := ⟨rfl, rfl, rfl, rfl, rfl, rfl⟩
  unfold f_X11_push at h
  refine wx_iload_n dX11_push_0 rfl ?_
  obtain ⟨e_1, k_1, h⟩ := bd1_some h
  refine wx_cSi dX11_push_1 ml_X11_169 my_X11_isSlant sv_X11_isSlant (s_X11_isSlant (d := d - 1) hS (by omega) k_1) rfl (by omega) (by exact Nat.le_of_ble_eq_true rfl) (show 0 + 0 ≤ 0 by omega) (show 0 + 0 ≤ 0 by omega) ?_
  refine wx_if_eq (tgt := 20) dX11_push_4 (by decide) (fun c_4 => ?_) (fun c_4 => ?_)
  · replace h := it_t h c_4
    exact wx_sub (s_X11_push_20 hS hd (show 0 + 0 ≤ 0 by omega) (show 0 + 0 ≤ 0 by omega) h g) (px_s rfl (px_s rfl (px_s rfl px_0)))
  · replace h := it_f h c_4
    refine wx_iload_n dX11_push_7 rfl ?_
    refine wx_iconst (v := 0) dX11_push_8 (by decide) ?_
    refine wx_iconst (v := 1) dX11_push_9 (by decide) ?_
    obtain ⟨e_10, k_10, h⟩ := bd1_some h
    refine wx_cSi dX11_push_10 ml_X11_65 my_X11_within sv_X11_within (s_X11_within (d := d - 1) hS (by omega) k_10) rfl (by omega) (by exact Nat.le_of_ble_eq_true rfl) (show 0 + 0 ≤ 0 by omega) (show 0 + 0 ≤ 0 by omega) ?_
    refine wx_if_eq (tgt := 20) dX11_push_13 (by decide) (fun c_13 => ?_) (fun c_13 => ?_)
    · replace h := it_t h c_13
      exact wx_sub (s_X11_push_20 hS hd (show 0 + 0 ≤ 0 by omega) (show 0 + 0 ≤ 0 by omega) h g) (px_s rfl (px_s rfl (px_s rfl px_0)))
    · replace h := it_f h c_13
      refine wx_iconst (v := 1) dX11_push_16 (by decide) ?_
      refine wx_goto (tgt := 21) dX11_push_17 (by decide) ?_
      exact wx_sub (s_X11_push_21 hS hd (show 0 + 0 ≤ 0 by omega) (show 0 + 0 ≤ 0 by omega) h g) (px_s rfl (px_s rfl (px_s rfl px_0)))
theorem x_X11_push {d : Nat} {X : Nat × (Nat → Int32)} {sh : px_Sh} {M : px_M} {L : px_L} {R : px_R} {n : Nat} {p1 : Int32} {p2 : Int32} {e : Nat} (hS : SR sh R) (hd : 7 ≤ d) (h : f_X11_push sh M R p1 p2 = some (.inr e)) : MXT yX11_push cX11_push 3 (some .int) d 1 6 X [.ref 0, .int p1, .int p2] sh M L R n px_np (px_px (px_xn e) sh M L R n) := by
  refine MXT.of (by decide +kernel) (by exact Nat.le_of_ble_eq_true rfl) ?_
  have hcu : 0 ≤ 1 := Nat.zero_le _
  have hsu : 0 ≤ 6 := Nat.zero_le _
  have g : ∀ n', n ≤ n' → px_px (px_xn e) sh M L R n (px_xn e) sh M L R n' := fun n' hn => ⟨rfl, rfl, rfl, rfl, rfl, hn⟩
  unfold f_X11_push at h
  refine wx_iload_n dX11_push_0 rfl ?_
  obtain ⟨e_1, k_1, h⟩ := bd1_some h
  refine wx_cSi dX11_push_1 ml_X11_169 my_X11_isSlant sv_X11_isSlant (s_X11_isSlant (d := d - 1) hS (by omega) k_1) rfl (by omega) (by exact Nat.le_of_ble_eq_true rfl) (show 0 + 0 ≤ 1 by omega) (show 0 + 0 ≤ 6 by omega) ?_
  refine wx_if_eq (tgt := 20) dX11_push_4 (by decide) (fun c_4 => ?_) (fun c_4 => ?_)
  · replace h := it_t h c_4
    exact wx_sub (x_X11_push_20 hS hd (show 0 + 1 ≤ 1 by omega) (show 0 + 6 ≤ 6 by omega) h g) (px_s rfl (px_s rfl (px_s rfl px_0)))
  · replace h := it_f h c_4
    refine wx_iload_n dX11_push_7 rfl ?_
    refine wx_iconst (v := 0) dX11_push_8 (by decide) ?_
    refine wx_iconst (v := 1) dX11_push_9 (by decide) ?_
    obtain ⟨e_10, k_10, h⟩ := bd1_some h
    refine wx_cSi dX11_push_10 ml_X11_65 my_X11_within sv_X11_within (s_X11_within (d := d - 1) hS (by omega) k_10) rfl (by omega) (by exact Nat.le_of_ble_eq_true rfl) (show 0 + 0 ≤ 1 by omega) (show 0 + 0 ≤ 6 by omega) ?_
    refine wx_if_eq (tgt := 20) dX11_push_13 (by decide) (fun c_13 => ?_) (fun c_13 => ?_)
    · replace h := it_t h c_13
      exact wx_sub (x_X11_push_20 hS hd (show 0 + 1 ≤ 1 by omega) (show 0 + 6 ≤ 6 by omega) h g) (px_s rfl (px_s rfl (px_s rfl px_0)))
    · replace h := it_f h c_13
      refine wx_iconst (v := 1) dX11_push_16 (by decide) ?_
      refine wx_goto (tgt := 21) dX11_push_17 (by decide) ?_
      exact wx_sub (x_X11_push_21 hS hd (show 0 + 1 ≤ 1 by omega) (show 0 + 6 ≤ 6 by omega) h g) (px_s rfl (px_s rfl (px_s rfl px_0)))
noncomputable def f_X11_turn_24 (sh : px_Sh) (M : px_M) (R : px_R) (x1 : Int32) (x2 : Int32) : Option (Int32) :=
  bd1 (f_X8_turnBy sh M R x1 x2) fun e_30 =>
  some e_30
theorem s_X11_turn_24 {x1 : Int32} {x2 : Int32} {M : px_M} {L : px_L} {R : px_R} {e : (Int32)} (hS : SR sh R) (hd : 7 ≤ d) (hcu : cu ≤ mc) (hsu : su ≤ ms) (h : f_X11_turn_24 sh M R x1 x2 = some e) (g : Post (some (.int e)) sh M L R n) : WX RX11 cX11_turn 3 (some .int) ("turn", []) d mc ms X (px_QF Post mc ms) 24 [(0, .ref 0), (1, .int x1), (2, .int x2)] [] sh M L R n cu su := by
  unfold f_X11_turn_24 at h
  refine wx_aload_n dX11_turn_24 rfl ?_
  refine wx_getR dX11_turn_25 fl_X11_19 (sc_0 hS) rfl (rr_0_1 hS) ?_
  refine wx_iload_n dX11_turn_28 rfl ?_
  refine wx_iload_n dX11_turn_29 rfl ?_
  obtain ⟨e_30, k_30, h⟩ := bd1_some h
  refine wx_cVi dX11_turn_30 ml_X11_178 my_X8_turnBy iv_X8_turnBy (sc_6 hS) (by decide) (s_X8_turnBy (d := d - 1) hS (by omega) k_30) rfl (by omega) (by exact Nat.le_of_ble_eq_true rfl) hcu hsu ?_
  refine wx_iret dX11_turn_33 hcu hsu ?_
  obtain rfl := Option.some.inj h
  exact g
noncomputable def f_X11_turn_21 (sh : px_Sh) (M : px_M) (R : px_R) (x1 : Int32) (x2 : Int32) (z0 : Int32) : Option ((Int32) ⊕ Nat) :=
  if z0 = 0 then some (.inr 0) else
  bd1 (f_X11_turn_24 sh M R x1 x2) fun r_24 => some (.inl r_24)
theorem s_X11_turn_21 {x1 : Int32} {x2 : Int32} {z0 : Int32} {PX : px_PX} {M : px_M} {L : px_L} {R : px_R} {e : Int32} (hS : SR sh R) (hd : 7 ≤ d) (hcu : cu ≤ mc) (hsu : su ≤ ms) (h : f_X11_turn_21 sh M R x1 x2 z0 = some (.inl e)) (g : Post (some (.int e)) sh M L R n) : WX RX11 cX11_turn 3 (some .int) ("turn", []) d mc ms X (px_QX Post PX mc ms) 21 [(0, .ref 0), (1, .int x1), (2, .int x2)] [.int z0] sh M L R n cu su := by
  unfold f_X11_turn_21 at h
  by_cases c_21 : z0 = 0
  · replace h := it_t h c_21
    cases h
  replace h := it_f h c_21
  refine wx_needT dX11_turn_21 nl_needArgument my_X11_needArgument sv_X11_needArgument (mT_needArgument (d := d - 1) c_21) (by omega) (by exact Nat.le_of_ble_eq_true rfl) (show cu + 0 ≤ mc by omega) (show su + 0 ≤ ms by omega) ?_
  obtain ⟨r_24, k_24, h⟩ := bd1_some h
  cases h
  exact wx_rx (wx_sub (s_X11_turn_24 hS hd (show cu + 0 ≤ mc by omega) (show su + 0 ≤ ms by omega) k_24 g) (px_s rfl (px_s rfl (px_s rfl px_0))))
theorem x_X11_turn_21 {x1 : Int32} {x2 : Int32} {z0 : Int32} {PX : px_PX} {M : px_M} {L : px_L} {R : px_R} {e : Nat} (hS : SR sh R) (hd : 7 ≤ d) (hcu : cu + 1 ≤ mc) (hsu : su + 6 ≤ ms) (h : f_X11_turn_21 sh M R x1 x2 z0 = some (.inr e)) (g : ∀ n', n ≤ n' → PX (px_xn e) sh M L R n') : WX RX11 cX11_turn 3 (some .int) ("turn", []) d mc ms X (px_QX Post PX mc ms) 21 [(0, .ref 0), (1, .int x1), (2, .int x2)] [.int z0] sh M L R n cu su := by
  unfold f_X11_turn_21 at h
  by_cases c_21 : z0 = 0
  · replace h := it_t h c_21
    obtain rfl := Sum.inr.inj (Option.some.inj h)
    exact wx_needF dX11_turn_21 nl_needArgument my_X11_needArgument sv_X11_needArgument (mF_needArgument (d := d - 1) (by omega) c_21) (by omega) (by exact Nat.le_of_ble_eq_true rfl) (show cu + 1 ≤ mc by omega) (show su + 6 ≤ ms by omega) g
  replace h := it_f h c_21
  refine wx_needT dX11_turn_21 nl_needArgument my_X11_needArgument sv_X11_needArgument (mT_needArgument (d := d - 1) c_21) (by omega) (by exact Nat.le_of_ble_eq_true rfl) (show cu + 0 ≤ mc by omega) (show su + 0 ≤ ms by omega) ?_
  obtain ⟨r_24, k_24, h⟩ := bd1_some h
  cases h
noncomputable def f_X11_turn_20 (sh : px_Sh) (M : px_M) (R : px_R) (x1 : Int32) (x2 : Int32) : Option ((Int32) ⊕ Nat) :=
  f_X11_turn_21 sh M R x1 x2 0
theorem s_X11_turn_20 {x1 : Int32} {x2 : Int32} {PX : px_PX} {M : px_M} {L : px_L} {R : px_R} {e : Int32} (hS : SR sh R) (hd : 7 ≤ d) (hcu : cu ≤ mc) (hsu : su ≤ ms) (h : f_X11_turn_20 sh M R x1 x2 = some (.inl e)) (g : Post (some (.int e)) sh M L R n) : WX RX11 cX11_turn 3 (some .int) ("turn", []) d mc ms X (px_QX Post PX mc ms) 20 [(0, .ref 0), (1, .int x1), (2, .int x2)] [] sh M L R n cu su := by
  unfold f_X11_turn_20 at h
  refine wx_iconst (v := 0) dX11_turn_20 (by decide) ?_
  exact wx_sub (s_X11_turn_21 hS hd (show cu + 0 ≤ mc by omega) (show su + 0 ≤ ms by omega) h g) (px_s rfl (px_s rfl (px_s rfl px_0)))
theorem x_X11_turn_20 {x1 : Int32} {x2 : Int32} {PX : px_PX} {M : px_M} {L : px_L} {R : px_R} {e : Nat} (hS : SR sh R) (hd : 7 ≤ d) (hcu : cu + 1 ≤ mc) (hsu : su + 6 ≤ ms) (h : f_X11_turn_20 sh M R x1 x2 = some (.inr e)) (g : ∀ n', n ≤ n' → PX (px_xn e) sh M L R n') : WX RX11 cX11_turn 3 (some .int) ("turn", []) d mc ms X (px_QX Post PX mc ms) 20 [(0, .ref 0), (1, .int x1), (2, .int x2)] [] sh M L R n cu su := by
  unfold f_X11_turn_20 at h
  refine wx_iconst (v := 0) dX11_turn_20 (by decide) ?_
  exact wx_sub (x_X11_turn_21 hS hd (show cu + 1 ≤ mc by omega) (show su + 6 ≤ ms by omega) h g) (px_s rfl (px_s rfl (px_s rfl px_0)))
noncomputable def f_X11_turn (sh : px_Sh) (M : px_M) (R : px_R) (p1 : Int32) (p2 : Int32) : Option ((Int32) ⊕ Nat) :=
  bd1 (f_X11_isSlant p1) fun e_1 =>
  if e_1 = 0 then
    f_X11_turn_20 sh M R p1 p2
  else
    bd1 (f_X11_within p2 0 1) fun e_10 =>
    if e_10 = 0 then
      f_X11_turn_20 sh M R p1 p2
    else
      f_X11_turn_21 sh M R p1 p2 1
theorem s_X11_turn {d : Nat} {X : Nat × (Nat → Int32)} {sh : px_Sh} {M : px_M} {L : px_L} {R : px_R} {n : Nat} {p1 : Int32} {p2 : Int32} {e : Int32} (hS : SR sh R) (hd : 7 ≤ d) (h : f_X11_turn sh M R p1 p2 = some (.inl e)) : MXT yX11_turn cX11_turn 3 (some .int) d 0 0 X [.ref 0, .int p1, .int p2] sh M L R n (px_pu (some (.int e)) sh M L R n) px_nx := by
  refine MXT.of (by decide +kernel) (by exact Nat.le_of_ble_eq_true rfl) ?_
  have hcu : 0 ≤ 0 := Nat.zero_le _
  have hsu : 0 ≤ 0 := Nat.zero_le _
  have g : px_pu (some (.int e)) sh M L R n (some (.int e)) sh M L R n := ⟨rfl, rfl, rfl, rfl, rfl, rfl⟩
  unfold f_X11_turn at h
  refine wx_iload_n dX11_turn_0 rfl ?_
  obtain ⟨e_1, k_1, h⟩ := bd1_some h
  refine wx_cSi dX11_turn_1 ml_X11_169 my_X11_isSlant sv_X11_isSlant (s_X11_isSlant (d := d - 1) hS (by omega) k_1) rfl (by omega) (by exact Nat.le_of_ble_eq_true rfl) (show 0 + 0 ≤ 0 by omega) (show 0 + 0 ≤ 0 by omega) ?_
  refine wx_if_eq (tgt := 20) dX11_turn_4 (by decide) (fun c_4 => ?_) (fun c_4 => ?_)
  · replace h := it_t h c_4
    exact wx_sub (s_X11_turn_20 hS hd (show 0 + 0 ≤ 0 by omega) (show 0 + 0 ≤ 0 by omega) h g) (px_s rfl (px_s rfl (px_s rfl px_0)))
  · replace h := it_f h c_4
    refine wx_iload_n dX11_turn_7 rfl ?_
    refine wx_iconst (v := 0) dX11_turn_8 (by decide) ?_
    refine wx_iconst (v := 1) dX11_turn_9 (by decide) ?_
    obtain ⟨e_10, k_10, h⟩ := bd1_some h
    refine wx_cSi dX11_turn_10 ml_X11_65 my_X11_within sv_X11_within (s_X11_within (d := d - 1) hS (by omega) k_10) rfl (by omega) (by exact Nat.le_of_ble_eq_true rfl) (show 0 + 0 ≤ 0 by omega) (show 0 + 0 ≤ 0 by omega) ?_
    refine wx_if_eq (tgt := 20) dX11_turn_13 (by decide) (fun c_13 => ?_) (fun c_13 => ?_)
    · replace h := it_t h c_13
      exact wx_sub (s_X11_turn_20 hS hd (show 0 + 0 ≤ 0 by omega) (show 0 + 0 ≤ 0 by omega) h g) (px_s rfl (px_s rfl (px_s rfl px_0)))
    · replace h := it_f h c_13
      refine wx_iconst (v := 1) dX11_turn_16 (by decide) ?_
      refine wx_goto (tgt := 21) dX11_turn_17 (by decide) ?_
      exact wx_sub (s_X11_turn_21 hS hd (show 0 + 0 ≤ 0 by omega) (show 0 + 0 ≤ 0 by omega) h g) (px_s rfl (px_s rfl (px_s rfl px_0)))
theorem x_X11_turn {d : Nat} {X : Nat × (Nat → Int32)} {sh : px_Sh} {M : px_M} {L : px_L} {R : px_R} {n : Nat} {p1 : Int32} {p2 : Int32} {e : Nat} (hS : SR sh R) (hd : 7 ≤ d) (h : f_X11_turn sh M R p1 p2 = some (.inr e)) : MXT yX11_turn cX11_turn 3 (some .int) d 1 6 X [.ref 0, .int p1, .int p2] sh M L R n px_np (px_px (px_xn e) sh M L R n) := by
  refine MXT.of (by decide +kernel) (by exact Nat.le_of_ble_eq_true rfl) ?_
  have hcu : 0 ≤ 1 := Nat.zero_le _
  have hsu : 0 ≤ 6 := Nat.zero_le _
  have g : ∀ n', n ≤ n' → px_px (px_xn e) sh M L R n (px_xn e) sh M L R n' := fun n' hn => ⟨rfl, rfl, rfl, rfl, rfl, hn⟩
  unfold f_X11_turn at h
  refine wx_iload_n dX11_turn_0 rfl ?_
  obtain ⟨e_1, k_1, h⟩ := bd1_some h
  refine wx_cSi dX11_turn_1 ml_X11_169 my_X11_isSlant sv_X11_isSlant (s_X11_isSlant (d := d - 1) hS (by omega) k_1) rfl (by omega) (by exact Nat.le_of_ble_eq_true rfl) (show 0 + 0 ≤ 1 by omega) (show 0 + 0 ≤ 6 by omega) ?_
  refine wx_if_eq (tgt := 20) dX11_turn_4 (by decide) (fun c_4 => ?_) (fun c_4 => ?_)
  · replace h := it_t h c_4
    exact wx_sub (x_X11_turn_20 hS hd (show 0 + 1 ≤ 1 by omega) (show 0 + 6 ≤ 6 by omega) h g) (px_s rfl (px_s rfl (px_s rfl px_0)))
  · replace h := it_f h c_4
    refine wx_iload_n dX11_turn_7 rfl ?_
    refine wx_iconst (v := 0) dX11_turn_8 (by decide) ?_
    refine wx_iconst (v := 1) dX11_turn_9 (by decide) ?_
    obtain ⟨e_10, k_10, h⟩ := bd1_some h
    refine wx_cSi dX11_turn_10 ml_X11_65 my_X11_within sv_X11_within (s_X11_within (d := d - 1) hS (by omega) k_10) rfl (by omega) (by exact Nat.le_of_ble_eq_true rfl) (show 0 + 0 ≤ 1 by omega) (show 0 + 0 ≤ 6 by omega) ?_
    refine wx_if_eq (tgt := 20) dX11_turn_13 (by decide) (fun c_13 => ?_) (fun c_13 => ?_)
    · replace h := it_t h c_13
      exact wx_sub (x_X11_turn_20 hS hd (show 0 + 1 ≤ 1 by omega) (show 0 + 6 ≤ 6 by omega) h g) (px_s rfl (px_s rfl (px_s rfl px_0)))
    · replace h := it_f h c_13
      refine wx_iconst (v := 1) dX11_turn_16 (by decide) ?_
      refine wx_goto (tgt := 21) dX11_turn_17 (by decide) ?_
      exact wx_sub (x_X11_turn_21 hS hd (show 0 + 1 ≤ 1 by omega) (show 0 + 6 ≤ 6 by omega) h g) (px_s rfl (px_s rfl (px_s rfl px_0)))
noncomputable def f_X11_trim_64 (sh : px_Sh) (M : px_M) (R : px_R) (z0 : Int32) : Option (Int32 × px_M) :=
  some (z0, M)
theorem s_X11_trim_64 {z0 : Int32} {M : px_M} {L : px_L} {R : px_R} {e : (Int32 × px_M)} (hS : SR sh R) (hd : 7 ≤ d) (hcu : cu ≤ mc) (hsu : su ≤ ms) (h : f_X11_trim_64 sh M R z0 = some e) (g : Post (some (.int (e.1))) sh (e.2) L R n) : WX RX11 cX11_trim 4 (some .int) ("trim", []) d mc ms X (px_QF Post mc ms) 64 [] [.int z0] sh M L R n cu su := by
  unfold f_X11_trim_64 at h
  refine wx_iret dX11_trim_64 hcu hsu ?_
  obtain rfl := Option.some.inj h
  exact g
noncomputable def f_X11_trim_24 (sh : px_Sh) (M : px_M) (R : px_R) (x1 : Int32) (x2 : Int32) : Option (Int32 × px_M) :=
  if x2 < (M 6 3) then
    bd1 (f_X8_findTrim sh M R x1) fun e_43 =>
    if 0 ≤ x2 then
      ok (ix x2 4) <|
      f_X11_trim_64 sh e_43.2 R (e_43.2 9 x2.toNatClampNeg)
    else
      f_X11_trim_64 sh e_43.2 R e_43.1
  else
    some ((-3), M)
theorem s_X11_trim_24 {x1 : Int32} {x2 : Int32} {M : px_M} {L : px_L} {R : px_R} {e : (Int32 × px_M)} (hS : SR sh R) (hd : 7 ≤ d) (hcu : cu ≤ mc) (hsu : su ≤ ms) (h : f_X11_trim_24 sh M R x1 x2 = some e) (g : Post (some (.int (e.1))) sh (e.2) L R n) : WX RX11 cX11_trim 4 (some .int) ("trim", []) d mc ms X (px_QF Post mc ms) 24 [(0, .ref 0), (1, .int x1), (2, .int x2)] [] sh M L R n cu su := by
  unfold f_X11_trim_24 at h
  refine wx_iload_n dX11_trim_24 rfl ?_
  refine wx_aload_n dX11_trim_25 rfl ?_
  refine wx_getR dX11_trim_26 fl_X11_19 (sc_0 hS) rfl (rr_0_1 hS) ?_
  refine wx_getI dX11_trim_29 fl_X11_181 (sc_6 hS) rfl ?_
  refine wx_icmp_lt (tgt := 38) dX11_trim_32 (by decide) (fun c_32 => ?_) (fun c_32 => ?_)
  · replace h := it_t h c_32
    refine wx_aload_n dX11_trim_38 rfl ?_
    refine wx_getR dX11_trim_39 fl_X11_19 (sc_0 hS) rfl (rr_0_1 hS) ?_
    refine wx_iload_n dX11_trim_42 rfl ?_
    obtain ⟨e_43, k_43, h⟩ := bd1_some h
    refine wx_cVi dX11_trim_43 ml_X11_184 my_X8_findTrim iv_X8_findTrim (sc_6 hS) (by decide) (s_X8_findTrim (d := d - 1) hS (by omega) k_43) rfl (by omega) (by exact Nat.le_of_ble_eq_true rfl) hcu hsu ?_
    refine wx_istore_n (lv' := [(3, _), (0, _), (1, _), (2, _)]) dX11_trim_46 (by decide) rfl ?_
    refine wx_iload_n dX11_trim_47 rfl ?_
    refine wx_if_ge (tgt := 55) dX11_trim_48 (by decide) (fun c_48 => ?_) (fun c_48 => ?_)
    · replace h := it_t h c_48
      refine wx_aload_n dX11_trim_55 rfl ?_
      refine wx_getR dX11_trim_56 fl_X11_19 (sc_0 hS) rfl (rr_0_1 hS) ?_
      refine wx_getR dX11_trim_59 fl_X11_187 (sc_6 hS) rfl (rr_6_6 hS) ?_
      refine wx_iload_n dX11_trim_62 rfl ?_
      obtain ⟨w_63, h⟩ := ok_some h
      refine wx_iald dX11_trim_63 (sc_9 hS) (ix_in w_63) ?_
      exact wx_sub (s_X11_trim_64 hS hd hcu hsu h g) px_0
    · replace h := it_f h c_48
      refine wx_iload_n dX11_trim_51 rfl ?_
      refine wx_goto (tgt := 64) dX11_trim_52 (by decide) ?_
      exact wx_sub (s_X11_trim_64 hS hd hcu hsu h g) px_0
  · replace h := it_f h c_32
    refine wx_bipush (v := (-3)) dX11_trim_35 (by decide) ?_
    refine wx_iret dX11_trim_37 hcu hsu ?_
    obtain rfl := Option.some.inj h
    exact g
noncomputable def f_X11_trim_21 (sh : px_Sh) (M : px_M) (R : px_R) (x1 : Int32) (x2 : Int32) (z0 : Int32) : Option ((Int32 × px_M) ⊕ Nat) :=
  if z0 = 0 then some (.inr 0) else
  bd1 (f_X11_trim_24 sh M R x1 x2) fun r_24 => some (.inl r_24)
theorem s_X11_trim_21 {x1 : Int32} {x2 : Int32} {z0 : Int32} {PX : px_PX} {M : px_M} {L : px_L} {R : px_R} {e : Int32 × px_M} (hS : SR sh R) (hd : 7 ≤ d) (hcu : cu ≤ mc) (hsu : su ≤ ms) (h : f_X11_trim_21 sh M R x1 x2 z0 = some (.inl e)) (g : Post (some (.int (e.1))) sh (e.2) L R n) : WX RX11 cX11_trim 4 (some .int) ("trim", []) d mc ms X (px_QX Post PX mc ms) 21 [(0, .ref 0), (1, .int x1), (2, .int x2)] [.int z0] sh M L R n cu su := by
  unfold f_X11_trim_21 at h
  by_cases c_21 : z0 = 0
  · replace h := it_t h c_21
    cases h
  replace h := it_f h c_21
  refine wx_needT dX11_trim_21 nl_needArgument my_X11_needArgument sv_X11_needArgument (mT_needArgument (d := d - 1) c_21) (by omega) (by exact Nat.le_of_ble_eq_true rfl) (show cu + 0 ≤ mc by omega) (show su + 0 ≤ ms by omega) ?_
  obtain ⟨r_24, k_24, h⟩ := bd1_some h
  cases h
  exact wx_rx (wx_sub (s_X11_trim_24 hS hd (show cu + 0 ≤ mc by omega) (show su + 0 ≤ ms by omega) k_24 g) (px_s rfl (px_s rfl (px_s rfl px_0))))
theorem x_X11_trim_21 {x1 : Int32} {x2 : Int32} {z0 : Int32} {PX : px_PX} {M : px_M} {L : px_L} {R : px_R} {e : Nat} (hS : SR sh R) (hd : 7 ≤ d) (hcu : cu + 1 ≤ mc) (hsu : su + 6 ≤ ms) (h : f_X11_trim_21 sh M R x1 x2 z0 = some (.inr e)) (g : ∀ n', n ≤ n' → PX (px_xn e) sh M L R n') : WX RX11 cX11_trim 4 (some .int) ("trim", []) d mc ms X (px_QX Post PX mc ms) 21 [(0, .ref 0), (1, .int x1), (2, .int x2)] [.int z0] sh M L R n cu su := by
  unfold f_X11_trim_21 at h
  by_cases c_21 : z0 = 0
  · replace h := it_t h c_21
    obtain rfl := Sum.inr.inj (Option.some.inj h)
    exact wx_needF dX11_trim_21 nl_needArgument my_X11_needArgument sv_X11_needArgument (mF_needArgument (d := d - 1) (by omega) c_21) (by omega) (by exact Nat.le_of_ble_eq_true rfl) (show cu + 1 ≤ mc by omega) (show su + 6 ≤ ms by omega) g
  replace h := it_f h c_21
  refine wx_needT dX11_trim_21 nl_needArgument my_X11_needArgument sv_X11_needArgument (mT_needArgument (d := d - 1) c_21) (by omega) (by exact Nat.le_of_ble_eq_true rfl) (show cu + 0 ≤ mc by omega) (show su + 0 ≤ ms by omega) ?_
  obtain ⟨r_24, k_24, h⟩ := bd1_some h
  cases h
noncomputable def f_X11_trim_20 (sh : px_Sh) (M : px_M) (R : px_R) (x1 : Int32) (x2 : Int32) : Option ((Int32 × px_M) ⊕ Nat) :=
  f_X11_trim_21 sh M R x1 x2 0
theorem s_X11_trim_20 {x1 : Int32} {x2 : Int32} {PX : px_PX} {M : px_M} {L : px_L} {R : px_R} {e : Int32 × px_M} (hS : SR sh R) (hd : 7 ≤ d) (hcu : cu ≤ mc) (hsu : su ≤ ms) (h : f_X11_trim_20 sh M R x1 x2 = some (.inl e)) (g : Post (some (.int (e.1))) sh (e.2) L R n) : WX RX11 cX11_trim 4 (some .int) ("trim", []) d mc ms X (px_QX Post PX mc ms) 20 [(0, .ref 0), (1, .int x1), (2, .int x2)] [] sh M L R n cu su := by
  unfold f_X11_trim_20 at h
  refine wx_iconst (v := 0) dX11_trim_20 (by decide) ?_
  exact wx_sub (s_X11_trim_21 hS hd (show cu + 0 ≤ mc by omega) (show su + 0 ≤ ms by omega) h g) (px_s rfl (px_s rfl (px_s rfl px_0)))
theorem x_X11_trim_20 {x1 : Int32} {x2 : Int32} {PX : px_PX} {M : px_M} {L : px_L} {R : px_R} {e : Nat} (hS : SR sh R) (hd : 7 ≤ d) (hcu : cu + 1 ≤ mc) (hsu : su + 6 ≤ ms) (h : f_X11_trim_20 sh M R x1 x2 = some (.inr e)) (g : ∀ n', n ≤ n' → PX (px_xn e) sh M L R n') : WX RX11 cX11_trim 4 (some .int) ("trim", []) d mc ms X (px_QX Post PX mc ms) 20 [(0, .ref 0), (1, .int x1), (2, .int x2)] [] sh M L R n cu su := by
  unfold f_X11_trim_20 at h
  refine wx_iconst (v := 0) dX11_trim_20 (by decide) ?_
  exact wx_sub (x_X11_trim_21 hS hd (show cu + 1 ≤ mc by omega) (show su + 6 ≤ ms by omega) h g) (px_s rfl (px_s rfl (px_s rfl px_0)))
noncomputable def f_X11_trim (sh : px_Sh) (M : px_M) (R : px_R) (p1 : Int32) (p2 : Int32) : Option ((Int32 × px_M) ⊕ Nat) :=
  bd1 (f_X11_isSlant p1) fun e_1 =>
  if e_1 = 0 then
    f_X11_trim_20 sh M R p1 p2
  else
    bd1 (f_X11_within p2 (-1) 3) fun e_10 =>
    if e_10 = 0 then
      f_X11_trim_20 sh M R p1 p2
    else
      f_X11_trim_21 sh M R p1 p2 1
theorem s_X11_trim {d : Nat} {X : Nat × (Nat → Int32)} {sh : px_Sh} {M : px_M} {L : px_L} {R : px_R} {n : Nat} {p1 : Int32} {p2 : Int32} {e : Int32 × px_M} (hS : SR sh R) (hd : 7 ≤ d) (h : f_X11_trim sh M R p1 p2 = some (.inl e)) : MXT yX11_trim cX11_trim 4 (some .int) d 0 0 X [.ref 0, .int p1, .int p2] sh M L R n (px_pu (some (.int e.1)) sh e.2 L R n) px_nx := by
  refine MXT.of (by decide +kernel) (by exact Nat.le_of_ble_eq_true rfl) ?_
  have hcu : 0 ≤ 0 := Nat.zero_le _
  have hsu : 0 ≤ 0 := Nat.zero_le _
  have g : px_pu (some (.int e.1)) sh e.2 L R n (some (.int e.1)) sh e.2 L R n := ⟨rfl, rfl, rfl, rfl, rfl, rfl⟩
  unfold f_X11_trim at h
  refine wx_iload_n dX11_trim_0 rfl ?_
  obtain ⟨e_1, k_1, h⟩ := bd1_some h
  refine wx_cSi dX11_trim_1 ml_X11_169 my_X11_isSlant sv_X11_isSlant (s_X11_isSlant (d := d - 1) hS (by omega) k_1) rfl (by omega) (by exact Nat.le_of_ble_eq_true rfl) (show 0 + 0 ≤ 0 by omega) (show 0 + 0 ≤ 0 by omega) ?_
  refine wx_if_eq (tgt := 20) dX11_trim_4 (by decide) (fun c_4 => ?_) (fun c_4 => ?_)
  · replace h := it_t h c_4
    exact wx_sub (s_X11_trim_20 hS hd (show 0 + 0 ≤ 0 by omega) (show 0 + 0 ≤ 0 by omega) h g) (px_s rfl (px_s rfl (px_s rfl px_0)))
  · replace h := it_f h c_4
    refine wx_iload_n dX11_trim_7 rfl ?_
    refine wx_iconst (v := (-1)) dX11_trim_8 (by decide) ?_
    refine wx_iconst (v := 3) dX11_trim_9 (by decide) ?_
    obtain ⟨e_10, k_10, h⟩ := bd1_some h
    refine wx_cSi dX11_trim_10 ml_X11_65 my_X11_within sv_X11_within (s_X11_within (d := d - 1) hS (by omega) k_10) rfl (by omega) (by exact Nat.le_of_ble_eq_true rfl) (show 0 + 0 ≤ 0 by omega) (show 0 + 0 ≤ 0 by omega) ?_
    refine wx_if_eq (tgt := 20) dX11_trim_13 (by decide) (fun c_13 => ?_) (fun c_13 => ?_)
    · replace h := it_t h c_13
      exact wx_sub (s_X11_trim_20 hS hd (show 0 + 0 ≤ 0 by omega) (show 0 + 0 ≤ 0 by omega) h g) (px_s rfl (px_s rfl (px_s rfl px_0)))
    · replace h := it_f h c_13
      refine wx_iconst (v := 1) dX11_trim_16 (by decide) ?_
      refine wx_goto (tgt := 21) dX11_trim_17 (by decide) ?_
      exact wx_sub (s_X11_trim_21 hS hd (show 0 + 0 ≤ 0 by omega) (show 0 + 0 ≤ 0 by omega) h g) (px_s rfl (px_s rfl (px_s rfl px_0)))
theorem x_X11_trim {d : Nat} {X : Nat × (Nat → Int32)} {sh : px_Sh} {M : px_M} {L : px_L} {R : px_R} {n : Nat} {p1 : Int32} {p2 : Int32} {e : Nat} (hS : SR sh R) (hd : 7 ≤ d) (h : f_X11_trim sh M R p1 p2 = some (.inr e)) : MXT yX11_trim cX11_trim 4 (some .int) d 1 6 X [.ref 0, .int p1, .int p2] sh M L R n px_np (px_px (px_xn e) sh M L R n) := by
  refine MXT.of (by decide +kernel) (by exact Nat.le_of_ble_eq_true rfl) ?_
  have hcu : 0 ≤ 1 := Nat.zero_le _
  have hsu : 0 ≤ 6 := Nat.zero_le _
  have g : ∀ n', n ≤ n' → px_px (px_xn e) sh M L R n (px_xn e) sh M L R n' := fun n' hn => ⟨rfl, rfl, rfl, rfl, rfl, hn⟩
  unfold f_X11_trim at h
  refine wx_iload_n dX11_trim_0 rfl ?_
  obtain ⟨e_1, k_1, h⟩ := bd1_some h
  refine wx_cSi dX11_trim_1 ml_X11_169 my_X11_isSlant sv_X11_isSlant (s_X11_isSlant (d := d - 1) hS (by omega) k_1) rfl (by omega) (by exact Nat.le_of_ble_eq_true rfl) (show 0 + 0 ≤ 1 by omega) (show 0 + 0 ≤ 6 by omega) ?_
  refine wx_if_eq (tgt := 20) dX11_trim_4 (by decide) (fun c_4 => ?_) (fun c_4 => ?_)
  · replace h := it_t h c_4
    exact wx_sub (x_X11_trim_20 hS hd (show 0 + 1 ≤ 1 by omega) (show 0 + 6 ≤ 6 by omega) h g) (px_s rfl (px_s rfl (px_s rfl px_0)))
  · replace h := it_f h c_4
    refine wx_iload_n dX11_trim_7 rfl ?_
    refine wx_iconst (v := (-1)) dX11_trim_8 (by decide) ?_
    refine wx_iconst (v := 3) dX11_trim_9 (by decide) ?_
    obtain ⟨e_10, k_10, h⟩ := bd1_some h
    refine wx_cSi dX11_trim_10 ml_X11_65 my_X11_within sv_X11_within (s_X11_within (d := d - 1) hS (by omega) k_10) rfl (by omega) (by exact Nat.le_of_ble_eq_true rfl) (show 0 + 0 ≤ 1 by omega) (show 0 + 0 ≤ 6 by omega) ?_
    refine wx_if_eq (tgt := 20) dX11_trim_13 (by decide) (fun c_13 => ?_) (fun c_13 => ?_)
    · replace h := it_t h c_13
      exact wx_sub (x_X11_trim_20 hS hd (show 0 + 1 ≤ 1 by omega) (show 0 + 6 ≤ 6 by omega) h g) (px_s rfl (px_s rfl (px_s rfl px_0)))
    · replace h := it_f h c_13
      refine wx_iconst (v := 1) dX11_trim_16 (by decide) ?_
      refine wx_goto (tgt := 21) dX11_trim_17 (by decide) ?_
      exact wx_sub (x_X11_trim_21 hS hd (show 0 + 1 ≤ 1 by omega) (show 0 + 6 ≤ 6 by omega) h g) (px_s rfl (px_s rfl (px_s rfl px_0)))
noncomputable def f_X11_world_39 (sh : px_Sh) (M : px_M) (L : px_L) (R : px_R) (n : Nat) (x1 : Int32) (x2 : Int32) (x3 : Int32) : Option (Int32 × px_Sh × px_M × px_L × px_R × Nat) :=
  bd1 (f_X9_addWorld sh M L R n x1 x2 x3) fun e_46 =>
  some (e_46.1, e_46.2.1, e_46.2.2.1, e_46.2.2.2.1, e_46.2.2.2.2.1, e_46.2.2.2.2.2)
theorem s_X11_world_39 {x1 : Int32} {x2 : Int32} {x3 : Int32} {M : px_M} {L : px_L} {R : px_R} {e : (Int32 × px_Sh × px_M × px_L × px_R × Nat)} (hS : SR sh R) (hd : 7 ≤ d) (hcu : cu + 1 ≤ mc) (hsu : su + 4 ≤ ms) (hn : 220 ≤ n) (h : f_X11_world_39 sh M L R n x1 x2 x3 = some e) (g : SR (e.2.1) (e.2.2.2.2.1) → 220 ≤ (e.2.2.2.2.2) → Post (some (.int (e.1))) (e.2.1) (e.2.2.1) (e.2.2.2.1) (e.2.2.2.2.1) (e.2.2.2.2.2)) : WX RX11 cX11_world 4 (some .int) ("world", []) d mc ms X (px_QF Post mc ms) 39 [(0, .ref 0), (1, .int x1), (2, .int x2), (3, .int x3)] [] sh M L R n cu su := by
  unfold f_X11_world_39 at h
  refine wx_aload_n dX11_world_39 rfl ?_
  refine wx_getR dX11_world_40 fl_X11_26 (sc_0 hS) rfl (rr_0_2 hS) ?_
  refine wx_iload_n dX11_world_43 rfl ?_
  refine wx_iload_n dX11_world_44 rfl ?_
  refine wx_iload_n dX11_world_45 rfl ?_
  obtain ⟨e_46, k_46, h⟩ := bd1_some h
  refine wx_aVi dX11_world_46 ml_X11_190 my_X9_addWorld iv_X9_addWorld (sc_14 hS) (by decide) (s_X9_addWorld (d := d - 1) hS (by omega) hn k_46) rfl (by omega) (by exact Nat.le_of_ble_eq_true rfl) (show cu + 1 ≤ mc by omega) (show su + 4 ≤ ms by omega) (fun hS hn => ?_)
  refine wx_iret dX11_world_49 (show cu + 1 ≤ mc by omega) (show su + 4 ≤ ms by omega) ?_
  obtain rfl := Option.some.inj h
  exact g hS hn
noncomputable def f_X11_world_36 (sh : px_Sh) (M : px_M) (L : px_L) (R : px_R) (n : Nat) (x1 : Int32) (x2 : Int32) (x3 : Int32) (z0 : Int32) : Option ((Int32 × px_Sh × px_M × px_L × px_R × Nat) ⊕ Nat) :=
  if z0 = 0 then some (.inr 0) else
  bd1 (f_X11_world_39 sh M L R n x1 x2 x3) fun r_39 => some (.inl r_39)
theorem s_X11_world_36 {x1 : Int32} {x2 : Int32} {x3 : Int32} {z0 : Int32} {PX : px_PX} {M : px_M} {L : px_L} {R : px_R} {e : Int32 × px_Sh × px_M × px_L × px_R × Nat} (hS : SR sh R) (hd : 7 ≤ d) (hcu : cu + 1 ≤ mc) (hsu : su + 4 ≤ ms) (hn : 220 ≤ n) (h : f_X11_world_36 sh M L R n x1 x2 x3 z0 = some (.inl e)) (g : SR (e.2.1) (e.2.2.2.2.1) → 220 ≤ (e.2.2.2.2.2) → Post (some (.int (e.1))) (e.2.1) (e.2.2.1) (e.2.2.2.1) (e.2.2.2.2.1) (e.2.2.2.2.2)) : WX RX11 cX11_world 4 (some .int) ("world", []) d mc ms X (px_QX Post PX mc ms) 36 [(0, .ref 0), (1, .int x1), (2, .int x2), (3, .int x3)] [.int z0] sh M L R n cu su := by
  unfold f_X11_world_36 at h
  by_cases c_36 : z0 = 0
  · replace h := it_t h c_36
    cases h
  replace h := it_f h c_36
  refine wx_needT dX11_world_36 nl_needArgument my_X11_needArgument sv_X11_needArgument (mT_needArgument (d := d - 1) c_36) (by omega) (by exact Nat.le_of_ble_eq_true rfl) (show cu + 0 ≤ mc by omega) (show su + 0 ≤ ms by omega) ?_
  obtain ⟨r_39, k_39, h⟩ := bd1_some h
  cases h
  exact wx_rx (wx_sub (s_X11_world_39 hS hd (show cu + 1 ≤ mc by omega) (show su + 4 ≤ ms by omega) hn k_39 g) (px_s rfl (px_s rfl (px_s rfl (px_s rfl px_0)))))
theorem x_X11_world_36 {x1 : Int32} {x2 : Int32} {x3 : Int32} {z0 : Int32} {PX : px_PX} {M : px_M} {L : px_L} {R : px_R} {e : Nat} (hS : SR sh R) (hd : 7 ≤ d) (hcu : cu + 1 ≤ mc) (hsu : su + 6 ≤ ms) (hn : 220 ≤ n) (h : f_X11_world_36 sh M L R n x1 x2 x3 z0 = some (.inr e)) (g : ∀ n', n ≤ n' → PX (px_xn e) sh M L R n') : WX RX11 cX11_world 4 (some .int) ("world", []) d mc ms X (px_QX Post PX mc ms) 36 [(0, .ref 0), (1, .int x1), (2, .int x2), (3, .int x3)] [.int z0] sh M L R n cu su := by
  unfold f_X11_world_36 at h
  by_cases c_36 : z0 = 0
  · replace h := it_t h c_36
    obtain rfl := Sum.inr.inj (Option.some.inj h)
    exact wx_needF dX11_world_36 nl_needArgument my_X11_needArgument sv_X11_needArgument (mF_needArgument (d := d - 1) (by omega) c_36) (by omega) (by exact Nat.le_of_ble_eq_true rfl) (show cu + 1 ≤ mc by omega) (show su + 6 ≤ ms by omega) g
  replace h := it_f h c_36
  refine wx_needT dX11_world_36 nl_needArgument my_X11_needArgument sv_X11_needArgument (mT_needArgument (d := d - 1) c_36) (by omega) (by exact Nat.le_of_ble_eq_true rfl) (show cu + 0 ≤ mc by omega) (show su + 0 ≤ ms by omega) ?_
  obtain ⟨r_39, k_39, h⟩ := bd1_some h
  cases h
noncomputable def f_X11_world_35 (sh : px_Sh) (M : px_M) (L : px_L) (R : px_R) (n : Nat) (x1 : Int32) (x2 : Int32) (x3 : Int32) : Option ((Int32 × px_Sh × px_M × px_L × px_R × Nat) ⊕ Nat) :=
  f_X11_world_36 sh M L R n x1 x2 x3 0
theorem s_X11_world_35 {x1 : Int32} {x2 : Int32} {x3 : Int32} {PX : px_PX} {M : px_M} {L : px_L} {R : px_R} {e : Int32 × px_Sh × px_M × px_L × px_R × Nat} (hS : SR sh R) (hd : 7 ≤ d) (hcu : cu + 1 ≤ mc) (hsu : su + 4 ≤ ms) (hn : 220 ≤ n) (h : f_X11_world_35 sh M L R n x1 x2 x3 = some (.inl e)) (g : SR (e.2.1) (e.2.2.2.2.1) → 220 ≤ (e.2.2.2.2.2) → Post (some (.int (e.1))) (e.2.1) (e.2.2.1) (e.2.2.2.1) (e.2.2.2.2.1) (e.2.2.2.2.2)) : WX RX11 cX11_world 4 (some .int) ("world", []) d mc ms X (px_QX Post PX mc ms) 35 [(0, .ref 0), (1, .int x1), (2, .int x2), (3, .int x3)] [] sh M L R n cu su := by
  unfold f_X11_world_35 at h
  refine wx_iconst (v := 0) dX11_world_35 (by decide) ?_
  exact wx_sub (s_X11_world_36 hS hd (show cu + 1 ≤ mc by omega) (show su + 4 ≤ ms by omega) hn h g) (px_s rfl (px_s rfl (px_s rfl (px_s rfl px_0))))
theorem x_X11_world_35 {x1 : Int32} {x2 : Int32} {x3 : Int32} {PX : px_PX} {M : px_M} {L : px_L} {R : px_R} {e : Nat} (hS : SR sh R) (hd : 7 ≤ d) (hcu : cu + 1 ≤ mc) (hsu : su + 6 ≤ ms) (hn : 220 ≤ n) (h : f_X11_world_35 sh M L R n x1 x2 x3 = some (.inr e)) (g : ∀ n', n ≤ n' → PX (px_xn e) sh M L R n') : WX RX11 cX11_world 4 (some .int) ("world", []) d mc ms X (px_QX Post PX mc ms) 35 [(0, .ref 0), (1, .int x1), (2, .int x2), (3, .int x3)] [] sh M L R n cu su := by
  unfold f_X11_world_35 at h
  refine wx_iconst (v := 0) dX11_world_35 (by decide) ?_
  exact wx_sub (x_X11_world_36 hS hd (show cu + 1 ≤ mc by omega) (show su + 6 ≤ ms by omega) hn h g) (px_s rfl (px_s rfl (px_s rfl (px_s rfl px_0))))
noncomputable def f_X11_world (sh : px_Sh) (M : px_M) (L : px_L) (R : px_R) (n : Nat) (p1 : Int32) (p2 : Int32) (p3 : Int32) : Option ((Int32 × px_Sh × px_M × px_L × px_R × Nat) ⊕ Nat) :=
  bd1 (f_X11_within p1 0 255) fun e_5 =>
  if e_5 = 0 then
    f_X11_world_35 sh M L R n p1 p2 p3
  else
    bd1 (f_X11_within p2 0 71) fun e_15 =>
    if e_15 = 0 then
      f_X11_world_35 sh M L R n p1 p2 p3
    else
      bd1 (f_X11_within p3 0 10) fun e_25 =>
      if e_25 = 0 then
        f_X11_world_35 sh M L R n p1 p2 p3
      else
        f_X11_world_36 sh M L R n p1 p2 p3 1
theorem s_X11_world {d : Nat} {X : Nat × (Nat → Int32)} {sh : px_Sh} {M : px_M} {L : px_L} {R : px_R} {n : Nat} {p1 : Int32} {p2 : Int32} {p3 : Int32} {e : Int32 × px_Sh × px_M × px_L × px_R × Nat} (hS : SR sh R) (hd : 7 ≤ d) (hn : 220 ≤ n) (h : f_X11_world sh M L R n p1 p2 p3 = some (.inl e)) : MXT yX11_world cX11_world 4 (some .int) d 1 4 X [.ref 0, .int p1, .int p2, .int p3] sh M L R n (px_pa (some (.int e.1)) e.2.1 e.2.2.1 e.2.2.2.1 e.2.2.2.2.1 e.2.2.2.2.2) px_nx := by
  refine MXT.of (by decide +kernel) (by exact Nat.le_of_ble_eq_true rfl) ?_
  have hcu : 0 ≤ 1 := Nat.zero_le _
  have hsu : 0 ≤ 4 := Nat.zero_le _
  have g : SR e.2.1 e.2.2.2.2.1 → 220 ≤ e.2.2.2.2.2 → px_pa (some (.int e.1)) e.2.1 e.2.2.1 e.2.2.2.1 e.2.2.2.2.1 e.2.2.2.2.2 (some (.int e.1)) e.2.1 e.2.2.1 e.2.2.2.1 e.2.2.2.2.1 e.2.2.2.2.2 := fun q q2 => ⟨⟨rfl, rfl, rfl, rfl, rfl, rfl⟩, q, q2⟩
  unfold f_X11_world at h
  refine wx_iload_n dX11_world_0 rfl ?_
  refine wx_iconst (v := 0) dX11_world_1 (by decide) ?_
  refine wx_sipush (v := 255) dX11_world_2 (by decide) ?_
  obtain ⟨e_5, k_5, h⟩ := bd1_some h
  refine wx_cSi dX11_world_5 ml_X11_65 my_X11_within sv_X11_within (s_X11_within (d := d - 1) hS (by omega) k_5) rfl (by omega) (by exact Nat.le_of_ble_eq_true rfl) (show 0 + 0 ≤ 1 by omega) (show 0 + 0 ≤ 4 by omega) ?_
  refine wx_if_eq (tgt := 35) dX11_world_8 (by decide) (fun c_8 => ?_) (fun c_8 => ?_)
  · replace h := it_t h c_8
    exact wx_sub (s_X11_world_35 hS hd (show 0 + 1 ≤ 1 by omega) (show 0 + 4 ≤ 4 by omega) hn h g) (px_s rfl (px_s rfl (px_s rfl (px_s rfl px_0))))
  · replace h := it_f h c_8
    refine wx_iload_n dX11_world_11 rfl ?_
    refine wx_iconst (v := 0) dX11_world_12 (by decide) ?_
    refine wx_bipush (v := 71) dX11_world_13 (by decide) ?_
    obtain ⟨e_15, k_15, h⟩ := bd1_some h
    refine wx_cSi dX11_world_15 ml_X11_65 my_X11_within sv_X11_within (s_X11_within (d := d - 1) hS (by omega) k_15) rfl (by omega) (by exact Nat.le_of_ble_eq_true rfl) (show 0 + 0 ≤ 1 by omega) (show 0 + 0 ≤ 4 by omega) ?_
    refine wx_if_eq (tgt := 35) dX11_world_18 (by decide) (fun c_18 => ?_) (fun c_18 => ?_)
    · replace h := it_t h c_18
      exact wx_sub (s_X11_world_35 hS hd (show 0 + 1 ≤ 1 by omega) (show 0 + 4 ≤ 4 by omega) hn h g) (px_s rfl (px_s rfl (px_s rfl (px_s rfl px_0))))
    · replace h := it_f h c_18
      refine wx_iload_n dX11_world_21 rfl ?_
      refine wx_iconst (v := 0) dX11_world_22 (by decide) ?_
      refine wx_bipush (v := 10) dX11_world_23 (by decide) ?_
      obtain ⟨e_25, k_25, h⟩ := bd1_some h
      refine wx_cSi dX11_world_25 ml_X11_65 my_X11_within sv_X11_within (s_X11_within (d := d - 1) hS (by omega) k_25) rfl (by omega) (by exact Nat.le_of_ble_eq_true rfl) (show 0 + 0 ≤ 1 by omega) (show 0 + 0 ≤ 4 by omega) ?_
      refine wx_if_eq (tgt := 35) dX11_world_28 (by decide) (fun c_28 => ?_) (fun c_28 => ?_)
      · replace h := it_t h c_28
        exact wx_sub (s_X11_world_35 hS hd (show 0 + 1 ≤ 1 by omega) (show 0 + 4 ≤ 4 by omega) hn h g) (px_s rfl (px_s rfl (px_s rfl (px_s rfl px_0))))
      · replace h := it_f h c_28
        refine wx_iconst (v := 1) dX11_world_31 (by decide) ?_
        refine wx_goto (tgt := 36) dX11_world_32 (by decide) ?_
        exact wx_sub (s_X11_world_36 hS hd (show 0 + 1 ≤ 1 by omega) (show 0 + 4 ≤ 4 by omega) hn h g) (px_s rfl (px_s rfl (px_s rfl (px_s rfl px_0))))
theorem x_X11_world {d : Nat} {X : Nat × (Nat → Int32)} {sh : px_Sh} {M : px_M} {L : px_L} {R : px_R} {n : Nat} {p1 : Int32} {p2 : Int32} {p3 : Int32} {e : Nat} (hS : SR sh R) (hd : 7 ≤ d) (hn : 220 ≤ n) (h : f_X11_world sh M L R n p1 p2 p3 = some (.inr e)) : MXT yX11_world cX11_world 4 (some .int) d 1 6 X [.ref 0, .int p1, .int p2, .int p3] sh M L R n px_np (px_px (px_xn e) sh M L R n) := by
  refine MXT.of (by decide +kernel) (by exact Nat.le_of_ble_eq_true rfl) ?_
  have hcu : 0 ≤ 1 := Nat.zero_le _
  have hsu : 0 ≤ 6 := Nat.zero_le _
  have g : ∀ n', n ≤ n' → px_px (px_xn e) sh M L R n (px_xn e) sh M L R n' := fun n' hn => ⟨rfl, rfl, rfl, rfl, rfl, hn⟩
  unfold f_X11_world at h
  refine wx_iload_n dX11_world_0 rfl ?_
  refine wx_iconst (v := 0) dX11_world_1 (by decide) ?_
  refine wx_sipush (v := 255) dX11_world_2 (by decide) ?_
  obtain ⟨e_5, k_5, h⟩ := bd1_some h
  refine wx_cSi dX11_world_5 ml_X11_65 my_X11_within sv_X11_within (s_X11_within (d := d - 1) hS (by omega) k_5) rfl (by omega) (by exact Nat.le_of_ble_eq_true rfl) (show 0 + 0 ≤ 1 by omega) (show 0 + 0 ≤ 6 by omega) ?_
  refine wx_if_eq (tgt := 35) dX11_world_8 (by decide) (fun c_8 => ?_) (fun c_8 => ?_)
  · replace h := it_t h c_8
    exact wx_sub (x_X11_world_35 hS hd (show 0 + 1 ≤ 1 by omega) (show 0 + 6 ≤ 6 by omega) hn h g) (px_s rfl (px_s rfl (px_s rfl (px_s rfl px_0))))
  · replace h := it_f h c_8
    refine wx_iload_n dX11_world_11 rfl ?_
    refine wx_iconst (v := 0) dX11_world_12 (by decide) ?_
    refine wx_bipush (v := 71) dX11_world_13 (by decide) ?_
    obtain ⟨e_15, k_15, h⟩ := bd1_some h
    refine wx_cSi dX11_world_15 ml_X11_65 my_X11_within sv_X11_within (s_X11_within (d := d - 1) hS (by omega) k_15) rfl (by omega) (by exact Nat.le_of_ble_eq_true rfl) (show 0 + 0 ≤ 1 by omega) (show 0 + 0 ≤ 6 by omega) ?_
    refine wx_if_eq (tgt := 35) dX11_world_18 (by decide) (fun c_18 => ?_) (fun c_18 => ?_)
    · replace h := it_t h c_18
      exact wx_sub (x_X11_world_35 hS hd (show 0 + 1 ≤ 1 by omega) (show 0 + 6 ≤ 6 by omega) hn h g) (px_s rfl (px_s rfl (px_s rfl (px_s rfl px_0))))
    · replace h := it_f h c_18
      refine wx_iload_n dX11_world_21 rfl ?_
      refine wx_iconst (v := 0) dX11_world_22 (by decide) ?_
      refine wx_bipush (v := 10) dX11_world_23 (by decide) ?_
      obtain ⟨e_25, k_25, h⟩ := bd1_some h
      refine wx_cSi dX11_world_25 ml_X11_65 my_X11_within sv_X11_within (s_X11_within (d := d - 1) hS (by omega) k_25) rfl (by omega) (by exact Nat.le_of_ble_eq_true rfl) (show 0 + 0 ≤ 1 by omega) (show 0 + 0 ≤ 6 by omega) ?_
      refine wx_if_eq (tgt := 35) dX11_world_28 (by decide) (fun c_28 => ?_) (fun c_28 => ?_)
      · replace h := it_t h c_28
        exact wx_sub (x_X11_world_35 hS hd (show 0 + 1 ≤ 1 by omega) (show 0 + 6 ≤ 6 by omega) hn h g) (px_s rfl (px_s rfl (px_s rfl (px_s rfl px_0))))
      · replace h := it_f h c_28
        refine wx_iconst (v := 1) dX11_world_31 (by decide) ?_
        refine wx_goto (tgt := 36) dX11_world_32 (by decide) ?_
        exact wx_sub (x_X11_world_36 hS hd (show 0 + 1 ≤ 1 by omega) (show 0 + 6 ≤ 6 by omega) hn h g) (px_s rfl (px_s rfl (px_s rfl (px_s rfl px_0))))
noncomputable def f_X11_angle_22 (sh : px_Sh) (M : px_M) (R : px_R) (x1 : Int32) (x2 : Int32) : Option (Int32) :=
  ok (ix x1 4) <|
  bd1 (R 15 x1.toNatClampNeg) fun b_30 =>
  ok (hk sh b_30 10) <|
  bd1 (f_X10_angleOn sh M b_30 x2) fun e_32 =>
  some e_32
theorem s_X11_angle_22 {x1 : Int32} {x2 : Int32} {M : px_M} {L : px_L} {R : px_R} {e : (Int32)} (hS : SR sh R) (hd : 7 ≤ d) (hcu : cu ≤ mc) (hsu : su ≤ ms) (h : f_X11_angle_22 sh M R x1 x2 = some e) (g : Post (some (.int e)) sh M L R n) : WX RX11 cX11_angle 3 (some .int) ("angle", []) d mc ms X (px_QF Post mc ms) 22 [(0, .ref 0), (1, .int x1), (2, .int x2)] [] sh M L R n cu su := by
  unfold f_X11_angle_22 at h
  refine wx_aload_n dX11_angle_22 rfl ?_
  refine wx_getR dX11_angle_23 fl_X11_26 (sc_0 hS) rfl (rr_0_2 hS) ?_
  refine wx_getR dX11_angle_26 fl_X11_197 (sc_14 hS) rfl (rr_14_4 hS) ?_
  refine wx_iload_n dX11_angle_29 rfl ?_
  obtain ⟨w_30, h⟩ := ok_some h
  obtain ⟨b_30, wr_30, h⟩ := bd1_some h
  refine wx_aald dX11_angle_30 (sc_15 hS) (by decide) (by decide) (ix_in w_30) wr_30 ?_
  refine wx_iload_n dX11_angle_31 rfl ?_
  obtain ⟨ws_32, h⟩ := ok_some h
  obtain ⟨ln_32, wt_32⟩ := hk_some ws_32
  obtain ⟨e_32, k_32, h⟩ := bd1_some h
  refine wx_cVi dX11_angle_32 ml_X11_201 my_X10_angleOn iv_X10_angleOn wt_32 (by decide) (s_X10_angleOn (d := d - 1) hS (by omega) k_32) rfl (by omega) (by exact Nat.le_of_ble_eq_true rfl) hcu hsu ?_
  refine wx_iret dX11_angle_35 hcu hsu ?_
  obtain rfl := Option.some.inj h
  exact g
noncomputable def f_X11_angle (sh : px_Sh) (M : px_M) (R : px_R) (p1 : Int32) (p2 : Int32) : Option ((Int32) ⊕ Nat) :=
  bd1 (f_X9_hasWorld M p1) fun e_5 =>
  if e_5 = 0 then some (.inr 2) else
  bd1 (f_X11_within p2 0 3000) fun e_16 =>
  if e_16 = 0 then some (.inr 0) else
  bd1 (f_X11_angle_22 sh M R p1 p2) fun r_22 => some (.inl r_22)
theorem s_X11_angle {d : Nat} {X : Nat × (Nat → Int32)} {sh : px_Sh} {M : px_M} {L : px_L} {R : px_R} {n : Nat} {p1 : Int32} {p2 : Int32} {e : Int32} (hS : SR sh R) (hd : 7 ≤ d) (h : f_X11_angle sh M R p1 p2 = some (.inl e)) : MXT yX11_angle cX11_angle 3 (some .int) d 0 0 X [.ref 0, .int p1, .int p2] sh M L R n (px_pu (some (.int e)) sh M L R n) px_nx := by
  refine MXT.of (by decide +kernel) (by exact Nat.le_of_ble_eq_true rfl) ?_
  have hcu : 0 ≤ 0 := Nat.zero_le _
  have hsu : 0 ≤ 0 := Nat.zero_le _
  have g : px_pu (some (.int e)) sh M L R n (some (.int e)) sh M L R n := ⟨rfl, rfl, rfl, rfl, rfl, rfl⟩
  unfold f_X11_angle at h
  refine wx_aload_n dX11_angle_0 rfl ?_
  refine wx_getR dX11_angle_1 fl_X11_26 (sc_0 hS) rfl (rr_0_2 hS) ?_
  refine wx_iload_n dX11_angle_4 rfl ?_
  obtain ⟨e_5, k_5, h⟩ := bd1_some h
  refine wx_cVi dX11_angle_5 ml_X11_194 my_X9_hasWorld iv_X9_hasWorld (sc_14 hS) (by decide) (s_X9_hasWorld (d := d - 1) hS (by omega) k_5) rfl (by omega) (by exact Nat.le_of_ble_eq_true rfl) (show 0 + 0 ≤ 0 by omega) (show 0 + 0 ≤ 0 by omega) ?_
  by_cases c_8 : e_5 = 0
  · replace h := it_t h c_8
    cases h
  replace h := it_f h c_8
  refine wx_needT dX11_angle_8 nl_needIndex my_X11_needIndex sv_X11_needIndex (mT_needIndex (d := d - 1) c_8) (by omega) (by exact Nat.le_of_ble_eq_true rfl) (show 0 + 0 ≤ 0 by omega) (show 0 + 0 ≤ 0 by omega) ?_
  refine wx_iload_n dX11_angle_11 rfl ?_
  refine wx_iconst (v := 0) dX11_angle_12 (by decide) ?_
  refine wx_sipush (v := 3000) dX11_angle_13 (by decide) ?_
  obtain ⟨e_16, k_16, h⟩ := bd1_some h
  refine wx_cSi dX11_angle_16 ml_X11_65 my_X11_within sv_X11_within (s_X11_within (d := d - 1) hS (by omega) k_16) rfl (by omega) (by exact Nat.le_of_ble_eq_true rfl) (show 0 + 0 ≤ 0 by omega) (show 0 + 0 ≤ 0 by omega) ?_
  by_cases c_19 : e_16 = 0
  · replace h := it_t h c_19
    cases h
  replace h := it_f h c_19
  refine wx_needT dX11_angle_19 nl_needArgument my_X11_needArgument sv_X11_needArgument (mT_needArgument (d := d - 1) c_19) (by omega) (by exact Nat.le_of_ble_eq_true rfl) (show 0 + 0 ≤ 0 by omega) (show 0 + 0 ≤ 0 by omega) ?_
  obtain ⟨r_22, k_22, h⟩ := bd1_some h
  cases h
  exact wx_rx (wx_sub (s_X11_angle_22 hS hd (show 0 + 0 ≤ 0 by omega) (show 0 + 0 ≤ 0 by omega) k_22 g) (px_s rfl (px_s rfl (px_s rfl px_0))))
theorem x_X11_angle {d : Nat} {X : Nat × (Nat → Int32)} {sh : px_Sh} {M : px_M} {L : px_L} {R : px_R} {n : Nat} {p1 : Int32} {p2 : Int32} {e : Nat} (hS : SR sh R) (hd : 7 ≤ d) (h : f_X11_angle sh M R p1 p2 = some (.inr e)) : MXT yX11_angle cX11_angle 3 (some .int) d 1 6 X [.ref 0, .int p1, .int p2] sh M L R n px_np (px_px (px_xn e) sh M L R n) := by
  refine MXT.of (by decide +kernel) (by exact Nat.le_of_ble_eq_true rfl) ?_
  have hcu : 0 ≤ 1 := Nat.zero_le _
  have hsu : 0 ≤ 6 := Nat.zero_le _
  have g : ∀ n', n ≤ n' → px_px (px_xn e) sh M L R n (px_xn e) sh M L R n' := fun n' hn => ⟨rfl, rfl, rfl, rfl, rfl, hn⟩
  unfold f_X11_angle at h
  refine wx_aload_n dX11_angle_0 rfl ?_
  refine wx_getR dX11_angle_1 fl_X11_26 (sc_0 hS) rfl (rr_0_2 hS) ?_
  refine wx_iload_n dX11_angle_4 rfl ?_
  obtain ⟨e_5, k_5, h⟩ := bd1_some h
  refine wx_cVi dX11_angle_5 ml_X11_194 my_X9_hasWorld iv_X9_hasWorld (sc_14 hS) (by decide) (s_X9_hasWorld (d := d - 1) hS (by omega) k_5) rfl (by omega) (by exact Nat.le_of_ble_eq_true rfl) (show 0 + 0 ≤ 1 by omega) (show 0 + 0 ≤ 6 by omega) ?_
  by_cases c_8 : e_5 = 0
  · replace h := it_t h c_8
    obtain rfl := Sum.inr.inj (Option.some.inj h)
    exact wx_needF dX11_angle_8 nl_needIndex my_X11_needIndex sv_X11_needIndex (mF_needIndex (d := d - 1) (by omega) c_8) (by omega) (by exact Nat.le_of_ble_eq_true rfl) (show 0 + 1 ≤ 1 by omega) (show 0 + 6 ≤ 6 by omega) g
  replace h := it_f h c_8
  refine wx_needT dX11_angle_8 nl_needIndex my_X11_needIndex sv_X11_needIndex (mT_needIndex (d := d - 1) c_8) (by omega) (by exact Nat.le_of_ble_eq_true rfl) (show 0 + 0 ≤ 1 by omega) (show 0 + 0 ≤ 6 by omega) ?_
  refine wx_iload_n dX11_angle_11 rfl ?_
  refine wx_iconst (v := 0) dX11_angle_12 (by decide) ?_
  refine wx_sipush (v := 3000) dX11_angle_13 (by decide) ?_
  obtain ⟨e_16, k_16, h⟩ := bd1_some h
  refine wx_cSi dX11_angle_16 ml_X11_65 my_X11_within sv_X11_within (s_X11_within (d := d - 1) hS (by omega) k_16) rfl (by omega) (by exact Nat.le_of_ble_eq_true rfl) (show 0 + 0 ≤ 1 by omega) (show 0 + 0 ≤ 6 by omega) ?_
  by_cases c_19 : e_16 = 0
  · replace h := it_t h c_19
    obtain rfl := Sum.inr.inj (Option.some.inj h)
    exact wx_needF dX11_angle_19 nl_needArgument my_X11_needArgument sv_X11_needArgument (mF_needArgument (d := d - 1) (by omega) c_19) (by omega) (by exact Nat.le_of_ble_eq_true rfl) (show 0 + 1 ≤ 1 by omega) (show 0 + 6 ≤ 6 by omega) g
  replace h := it_f h c_19
  refine wx_needT dX11_angle_19 nl_needArgument my_X11_needArgument sv_X11_needArgument (mT_needArgument (d := d - 1) c_19) (by omega) (by exact Nat.le_of_ble_eq_true rfl) (show 0 + 0 ≤ 1 by omega) (show 0 + 0 ≤ 6 by omega) ?_
  obtain ⟨r_22, k_22, h⟩ := bd1_some h
  cases h
noncomputable def f_X11_least_56 (sh : px_Sh) (M : px_M) (L : px_L) (R : px_R) (z0 : Int32) : Option (Int32 × px_M × px_L) :=
  some (z0, M, L)
theorem s_X11_least_56 {z0 : Int32} {M : px_M} {L : px_L} {R : px_R} {e : (Int32 × px_M × px_L)} (hS : SR sh R) (hd : 7 ≤ d) (hcu : cu ≤ mc) (hsu : su ≤ ms) (h : f_X11_least_56 sh M L R z0 = some e) (g : Post (some (.int (e.1))) sh (e.2.1) (e.2.2) R n) : WX RX11 cX11_least 4 (some .int) ("least", []) d mc ms X (px_QF Post mc ms) 56 [] [.int z0] sh M L R n cu su := by
  unfold f_X11_least_56 at h
  refine wx_iret dX11_least_56 hcu hsu ?_
  obtain rfl := Option.some.inj h
  exact g
noncomputable def f_X11_least_21 (sh : px_Sh) (M : px_M) (L : px_L) (R : px_R) (x1 : Int32) (x2 : Int32) : Option (Int32 × px_M × px_L) :=
  bd1 (f_X8_strength sh M R) fun e_25 =>
  if 0 ≤ x2 then
    bd1 (f_X9_steerOfFirstWay sh M L R x1 x2 e_25) fun e_53 =>
    f_X11_least_56 sh e_53.2.1 e_53.2.2 R e_53.1
  else
    bd1 (f_X9_fewestDays sh M L R x1 0 e_25) fun e_40 =>
    f_X11_least_56 sh e_40.2.1 e_40.2.2 R e_40.1
theorem s_X11_least_21 {x1 : Int32} {x2 : Int32} {M : px_M} {L : px_L} {R : px_R} {e : (Int32 × px_M × px_L)} (hS : SR sh R) (hd : 7 ≤ d) (hcu : cu ≤ mc) (hsu : su ≤ ms) (h : f_X11_least_21 sh M L R x1 x2 = some e) (g : Post (some (.int (e.1))) sh (e.2.1) (e.2.2) R n) : WX RX11 cX11_least 4 (some .int) ("least", []) d mc ms X (px_QF Post mc ms) 21 [(0, .ref 0), (1, .int x1), (2, .int x2)] [] sh M L R n cu su := by
  unfold f_X11_least_21 at h
  refine wx_aload_n dX11_least_21 rfl ?_
  refine wx_getR dX11_least_22 fl_X11_19 (sc_0 hS) rfl (rr_0_1 hS) ?_
  obtain ⟨e_25, k_25, h⟩ := bd1_some h
  refine wx_cVi dX11_least_25 ml_X11_208 my_X8_strength iv_X8_strength (sc_6 hS) (by decide) (s_X8_strength (d := d - 1) hS (by omega) k_25) rfl (by omega) (by exact Nat.le_of_ble_eq_true rfl) hcu hsu ?_
  refine wx_istore_n (lv' := [(3, _), (0, _), (1, _), (2, _)]) dX11_least_28 (by decide) rfl ?_
  refine wx_iload_n dX11_least_29 rfl ?_
  refine wx_if_ge (tgt := 46) dX11_least_30 (by decide) (fun c_30 => ?_) (fun c_30 => ?_)
  · replace h := it_t h c_30
    refine wx_aload_n dX11_least_46 rfl ?_
    refine wx_getR dX11_least_47 fl_X11_26 (sc_0 hS) rfl (rr_0_2 hS) ?_
    refine wx_iload_n dX11_least_50 rfl ?_
    refine wx_iload_n dX11_least_51 rfl ?_
    refine wx_iload_n dX11_least_52 rfl ?_
    obtain ⟨e_53, k_53, h⟩ := bd1_some h
    refine wx_cVi dX11_least_53 ml_X11_214 my_X9_steerOfFirstWay iv_X9_steerOfFirstWay (sc_14 hS) (by decide) (s_X9_steerOfFirstWay (d := d - 1) hS (by omega) k_53) rfl (by omega) (by exact Nat.le_of_ble_eq_true rfl) hcu hsu ?_
    exact wx_sub (s_X11_least_56 hS hd hcu hsu h g) px_0
  · replace h := it_f h c_30
    refine wx_aload_n dX11_least_33 rfl ?_
    refine wx_getR dX11_least_34 fl_X11_26 (sc_0 hS) rfl (rr_0_2 hS) ?_
    refine wx_iload_n dX11_least_37 rfl ?_
    refine wx_iconst (v := 0) dX11_least_38 (by decide) ?_
    refine wx_iload_n dX11_least_39 rfl ?_
    obtain ⟨e_40, k_40, h⟩ := bd1_some h
    refine wx_cVi dX11_least_40 ml_X11_211 my_X9_fewestDays iv_X9_fewestDays (sc_14 hS) (by decide) (s_X9_fewestDays (d := d - 1) hS (by omega) k_40) rfl (by omega) (by exact Nat.le_of_ble_eq_true rfl) hcu hsu ?_
    refine wx_goto (tgt := 56) dX11_least_43 (by decide) ?_
    exact wx_sub (s_X11_least_56 hS hd hcu hsu h g) px_0
noncomputable def f_X11_least (sh : px_Sh) (M : px_M) (L : px_L) (R : px_R) (p1 : Int32) (p2 : Int32) : Option ((Int32 × px_M × px_L) ⊕ Nat) :=
  bd1 (f_X9_hasWorld M p1) fun e_5 =>
  if e_5 = 0 then some (.inr 2) else
  bd1 (f_X11_within p2 (-1) 39) fun e_15 =>
  if e_15 = 0 then some (.inr 0) else
  bd1 (f_X11_least_21 sh M L R p1 p2) fun r_21 => some (.inl r_21)
theorem s_X11_least {d : Nat} {X : Nat × (Nat → Int32)} {sh : px_Sh} {M : px_M} {L : px_L} {R : px_R} {n : Nat} {p1 : Int32} {p2 : Int32} {e : Int32 × px_M × px_L} (hS : SR sh R) (hd : 7 ≤ d) (h : f_X11_least sh M L R p1 p2 = some (.inl e)) : MXT yX11_least cX11_least 4 (some .int) d 0 0 X [.ref 0, .int p1, .int p2] sh M L R n (px_pu (some (.int e.1)) sh e.2.1 e.2.2 R n) px_nx := by
  refine MXT.of (by decide +kernel) (by exact Nat.le_of_ble_eq_true rfl) ?_
  have hcu : 0 ≤ 0 := Nat.zero_le _
  have hsu : 0 ≤ 0 := Nat.zero_le _
  have g : px_pu (some (.int e.1)) sh e.2.1 e.2.2 R n (some (.int e.1)) sh e.2.1 e.2.2 R n := ⟨rfl, rfl, rfl, rfl, rfl, rfl⟩
  unfold f_X11_least at h
  refine wx_aload_n dX11_least_0 rfl ?_
  refine wx_getR dX11_least_1 fl_X11_26 (sc_0 hS) rfl (rr_0_2 hS) ?_
  refine wx_iload_n dX11_least_4 rfl ?_
  obtain ⟨e_5, k_5, h⟩ := bd1_some h
  refine wx_cVi dX11_least_5 ml_X11_194 my_X9_hasWorld iv_X9_hasWorld (sc_14 hS) (by decide) (s_X9_hasWorld (d := d - 1) hS (by omega) k_5) rfl (by omega) (by exact Nat.le_of_ble_eq_true rfl) (show 0 + 0 ≤ 0 by omega) (show 0 + 0 ≤ 0 by omega) ?_
  by_cases c_8 : e_5 = 0
  · replace h := it_t h c_8
    cases h
  replace h := it_f h c_8
  refine wx_needT dX11_least_8 nl_needIndex my_X11_needIndex sv_X11_needIndex (mT_needIndex (d := d - 1) c_8) (by omega) (by exact Nat.le_of_ble_eq_true rfl) (show 0 + 0 ≤ 0 by omega) (show 0 + 0 ≤ 0 by omega) ?_
  refine wx_iload_n dX11_least_11 rfl ?_
  refine wx_iconst (v := (-1)) dX11_least_12 (by decide) ?_
  refine wx_bipush (v := 39) dX11_least_13 (by decide) ?_
  obtain ⟨e_15, k_15, h⟩ := bd1_some h
  refine wx_cSi dX11_least_15 ml_X11_65 my_X11_within sv_X11_within (s_X11_within (d := d - 1) hS (by omega) k_15) rfl (by omega) (by exact Nat.le_of_ble_eq_true rfl) (show 0 + 0 ≤ 0 by omega) (show 0 + 0 ≤ 0 by omega) ?_
  by_cases c_18 : e_15 = 0
  · replace h := it_t h c_18
    cases h
  replace h := it_f h c_18
  refine wx_needT dX11_least_18 nl_needArgument my_X11_needArgument sv_X11_needArgument (mT_needArgument (d := d - 1) c_18) (by omega) (by exact Nat.le_of_ble_eq_true rfl) (show 0 + 0 ≤ 0 by omega) (show 0 + 0 ≤ 0 by omega) ?_
  obtain ⟨r_21, k_21, h⟩ := bd1_some h
  cases h
  exact wx_rx (wx_sub (s_X11_least_21 hS hd (show 0 + 0 ≤ 0 by omega) (show 0 + 0 ≤ 0 by omega) k_21 g) (px_s rfl (px_s rfl (px_s rfl px_0))))
theorem x_X11_least {d : Nat} {X : Nat × (Nat → Int32)} {sh : px_Sh} {M : px_M} {L : px_L} {R : px_R} {n : Nat} {p1 : Int32} {p2 : Int32} {e : Nat} (hS : SR sh R) (hd : 7 ≤ d) (h : f_X11_least sh M L R p1 p2 = some (.inr e)) : MXT yX11_least cX11_least 4 (some .int) d 1 6 X [.ref 0, .int p1, .int p2] sh M L R n px_np (px_px (px_xn e) sh M L R n) := by
  refine MXT.of (by decide +kernel) (by exact Nat.le_of_ble_eq_true rfl) ?_
  have hcu : 0 ≤ 1 := Nat.zero_le _
  have hsu : 0 ≤ 6 := Nat.zero_le _
  have g : ∀ n', n ≤ n' → px_px (px_xn e) sh M L R n (px_xn e) sh M L R n' := fun n' hn => ⟨rfl, rfl, rfl, rfl, rfl, hn⟩
  unfold f_X11_least at h
  refine wx_aload_n dX11_least_0 rfl ?_
  refine wx_getR dX11_least_1 fl_X11_26 (sc_0 hS) rfl (rr_0_2 hS) ?_
  refine wx_iload_n dX11_least_4 rfl ?_
  obtain ⟨e_5, k_5, h⟩ := bd1_some h
  refine wx_cVi dX11_least_5 ml_X11_194 my_X9_hasWorld iv_X9_hasWorld (sc_14 hS) (by decide) (s_X9_hasWorld (d := d - 1) hS (by omega) k_5) rfl (by omega) (by exact Nat.le_of_ble_eq_true rfl) (show 0 + 0 ≤ 1 by omega) (show 0 + 0 ≤ 6 by omega) ?_
  by_cases c_8 : e_5 = 0
  · replace h := it_t h c_8
    obtain rfl := Sum.inr.inj (Option.some.inj h)
    exact wx_needF dX11_least_8 nl_needIndex my_X11_needIndex sv_X11_needIndex (mF_needIndex (d := d - 1) (by omega) c_8) (by omega) (by exact Nat.le_of_ble_eq_true rfl) (show 0 + 1 ≤ 1 by omega) (show 0 + 6 ≤ 6 by omega) g
  replace h := it_f h c_8
  refine wx_needT dX11_least_8 nl_needIndex my_X11_needIndex sv_X11_needIndex (mT_needIndex (d := d - 1) c_8) (by omega) (by exact Nat.le_of_ble_eq_true rfl) (show 0 + 0 ≤ 1 by omega) (show 0 + 0 ≤ 6 by omega) ?_
  refine wx_iload_n dX11_least_11 rfl ?_
  refine wx_iconst (v := (-1)) dX11_least_12 (by decide) ?_
  refine wx_bipush (v := 39) dX11_least_13 (by decide) ?_
  obtain ⟨e_15, k_15, h⟩ := bd1_some h
  refine wx_cSi dX11_least_15 ml_X11_65 my_X11_within sv_X11_within (s_X11_within (d := d - 1) hS (by omega) k_15) rfl (by omega) (by exact Nat.le_of_ble_eq_true rfl) (show 0 + 0 ≤ 1 by omega) (show 0 + 0 ≤ 6 by omega) ?_
  by_cases c_18 : e_15 = 0
  · replace h := it_t h c_18
    obtain rfl := Sum.inr.inj (Option.some.inj h)
    exact wx_needF dX11_least_18 nl_needArgument my_X11_needArgument sv_X11_needArgument (mF_needArgument (d := d - 1) (by omega) c_18) (by omega) (by exact Nat.le_of_ble_eq_true rfl) (show 0 + 1 ≤ 1 by omega) (show 0 + 6 ≤ 6 by omega) g
  replace h := it_f h c_18
  refine wx_needT dX11_least_18 nl_needArgument my_X11_needArgument sv_X11_needArgument (mT_needArgument (d := d - 1) c_18) (by omega) (by exact Nat.le_of_ble_eq_true rfl) (show 0 + 0 ≤ 1 by omega) (show 0 + 0 ≤ 6 by omega) ?_
  obtain ⟨r_21, k_21, h⟩ := bd1_some h
  cases h
noncomputable def f_X11_goal_24 (M : px_M) (x1 : Int32) : Option (Int32 × px_M) :=
  nm (M 14 3) fun v_31 =>
  nm (px_u M 14 3 x1) fun M_37 =>
  some (v_31, M_37)
theorem s_X11_goal_24 {x1 : Int32} {M : px_M} {L : px_L} {R : px_R} {e : (Int32 × px_M)} (hS : SR sh R) (hd : 7 ≤ d) (hcu : cu ≤ mc) (hsu : su ≤ ms) (h : f_X11_goal_24 M x1 = some e) (g : Post (some (.int (e.1))) sh (e.2) L R n) : WX RX11 cX11_goal 3 (some .int) ("goal", []) d mc ms X (px_QF Post mc ms) 24 [(0, .ref 0), (1, .int x1)] [] sh M L R n cu su := by
  unfold f_X11_goal_24 at h
  refine wx_aload_n dX11_goal_24 rfl ?_
  refine wx_getR dX11_goal_25 fl_X11_26 (sc_0 hS) rfl (rr_0_2 hS) ?_
  refine wx_getI dX11_goal_28 fl_X11_217 (sc_14 hS) rfl ?_
  refine wx_nami (fun v_31 q_31 => ?_)
  replace h := nm_at h q_31
  refine wx_istore_n (lv' := [(2, _), (0, _), (1, _)]) dX11_goal_31 (by decide) rfl ?_
  refine wx_aload_n dX11_goal_32 rfl ?_
  refine wx_getR dX11_goal_33 fl_X11_26 (sc_0 hS) rfl (rr_0_2 hS) ?_
  refine wx_iload_n dX11_goal_36 rfl ?_
  refine wx_putI dX11_goal_37 fl_X11_217 (sc_14 hS) (Or.inl rfl) rfl ⟨rfl, rfl⟩ ?_
  refine wx_namM (fun M_37 q_37 => ?_)
  replace h := nm_at h q_37
  refine wx_iload_n dX11_goal_40 rfl ?_
  refine wx_iret dX11_goal_41 hcu hsu ?_
  obtain rfl := Option.some.inj h
  exact g
noncomputable def f_X11_goal_21 (M : px_M) (x1 : Int32) (z0 : Int32) : Option ((Int32 × px_M) ⊕ Nat) :=
  if z0 = 0 then some (.inr 2) else
  bd1 (f_X11_goal_24 M x1) fun r_24 => some (.inl r_24)
theorem s_X11_goal_21 {x1 : Int32} {z0 : Int32} {PX : px_PX} {M : px_M} {L : px_L} {R : px_R} {e : Int32 × px_M} (hS : SR sh R) (hd : 7 ≤ d) (hcu : cu ≤ mc) (hsu : su ≤ ms) (h : f_X11_goal_21 M x1 z0 = some (.inl e)) (g : Post (some (.int (e.1))) sh (e.2) L R n) : WX RX11 cX11_goal 3 (some .int) ("goal", []) d mc ms X (px_QX Post PX mc ms) 21 [(0, .ref 0), (1, .int x1)] [.int z0] sh M L R n cu su := by
  unfold f_X11_goal_21 at h
  by_cases c_21 : z0 = 0
  · replace h := it_t h c_21
    cases h
  replace h := it_f h c_21
  refine wx_needT dX11_goal_21 nl_needIndex my_X11_needIndex sv_X11_needIndex (mT_needIndex (d := d - 1) c_21) (by omega) (by exact Nat.le_of_ble_eq_true rfl) (show cu + 0 ≤ mc by omega) (show su + 0 ≤ ms by omega) ?_
  obtain ⟨r_24, k_24, h⟩ := bd1_some h
  cases h
  exact wx_rx (wx_sub (s_X11_goal_24 hS hd (show cu + 0 ≤ mc by omega) (show su + 0 ≤ ms by omega) k_24 g) (px_s rfl (px_s rfl px_0)))
theorem x_X11_goal_21 {x1 : Int32} {z0 : Int32} {PX : px_PX} {M : px_M} {L : px_L} {R : px_R} {e : Nat} (hS : SR sh R) (hd : 7 ≤ d) (hcu : cu + 1 ≤ mc) (hsu : su + 6 ≤ ms) (h : f_X11_goal_21 M x1 z0 = some (.inr e)) (g : ∀ n', n ≤ n' → PX (px_xn e) sh M L R n') : WX RX11 cX11_goal 3 (some .int) ("goal", []) d mc ms X (px_QX Post PX mc ms) 21 [(0, .ref 0), (1, .int x1)] [.int z0] sh M L R n cu su := by
  unfold f_X11_goal_21 at h
  by_cases c_21 : z0 = 0
  · replace h := it_t h c_21
    obtain rfl := Sum.inr.inj (Option.some.inj h)
    exact wx_needF dX11_goal_21 nl_needIndex my_X11_needIndex sv_X11_needIndex (mF_needIndex (d := d - 1) (by omega) c_21) (by omega) (by exact Nat.le_of_ble_eq_true rfl) (show cu + 1 ≤ mc by omega) (show su + 6 ≤ ms by omega) g
  replace h := it_f h c_21
  refine wx_needT dX11_goal_21 nl_needIndex my_X11_needIndex sv_X11_needIndex (mT_needIndex (d := d - 1) c_21) (by omega) (by exact Nat.le_of_ble_eq_true rfl) (show cu + 0 ≤ mc by omega) (show su + 0 ≤ ms by omega) ?_
  obtain ⟨r_24, k_24, h⟩ := bd1_some h
  cases h
noncomputable def f_X11_goal_16 (M : px_M) (x1 : Int32) : Option ((Int32 × px_M) ⊕ Nat) :=
  f_X11_goal_21 M x1 1
theorem s_X11_goal_16 {x1 : Int32} {PX : px_PX} {M : px_M} {L : px_L} {R : px_R} {e : Int32 × px_M} (hS : SR sh R) (hd : 7 ≤ d) (hcu : cu ≤ mc) (hsu : su ≤ ms) (h : f_X11_goal_16 M x1 = some (.inl e)) (g : Post (some (.int (e.1))) sh (e.2) L R n) : WX RX11 cX11_goal 3 (some .int) ("goal", []) d mc ms X (px_QX Post PX mc ms) 16 [(0, .ref 0), (1, .int x1)] [] sh M L R n cu su := by
  unfold f_X11_goal_16 at h
  refine wx_iconst (v := 1) dX11_goal_16 (by decide) ?_
  refine wx_goto (tgt := 21) dX11_goal_17 (by decide) ?_
  exact wx_sub (s_X11_goal_21 hS hd (show cu + 0 ≤ mc by omega) (show su + 0 ≤ ms by omega) h g) (px_s rfl (px_s rfl px_0))
theorem x_X11_goal_16 {x1 : Int32} {PX : px_PX} {M : px_M} {L : px_L} {R : px_R} {e : Nat} (hS : SR sh R) (hd : 7 ≤ d) (hcu : cu + 1 ≤ mc) (hsu : su + 6 ≤ ms) (h : f_X11_goal_16 M x1 = some (.inr e)) (g : ∀ n', n ≤ n' → PX (px_xn e) sh M L R n') : WX RX11 cX11_goal 3 (some .int) ("goal", []) d mc ms X (px_QX Post PX mc ms) 16 [(0, .ref 0), (1, .int x1)] [] sh M L R n cu su := by
  unfold f_X11_goal_16 at h
  refine wx_iconst (v := 1) dX11_goal_16 (by decide) ?_
  refine wx_goto (tgt := 21) dX11_goal_17 (by decide) ?_
  exact wx_sub (x_X11_goal_21 hS hd (show cu + 1 ≤ mc by omega) (show su + 6 ≤ ms by omega) h g) (px_s rfl (px_s rfl px_0))
noncomputable def f_X11_goal (M : px_M) (p1 : Int32) : Option ((Int32 × px_M) ⊕ Nat) :=
  if p1 = (-1) then
    f_X11_goal_16 M p1
  else
    bd1 (f_X9_hasWorld M p1) fun e_10 =>
    if e_10 = 0 then
      f_X11_goal_21 M p1 0
    else
      f_X11_goal_16 M p1
theorem s_X11_goal {d : Nat} {X : Nat × (Nat → Int32)} {sh : px_Sh} {M : px_M} {L : px_L} {R : px_R} {n : Nat} {p1 : Int32} {e : Int32 × px_M} (hS : SR sh R) (hd : 7 ≤ d) (h : f_X11_goal M p1 = some (.inl e)) : MXT yX11_goal cX11_goal 3 (some .int) d 0 0 X [.ref 0, .int p1] sh M L R n (px_pu (some (.int e.1)) sh e.2 L R n) px_nx := by
  refine MXT.of (by decide +kernel) (by exact Nat.le_of_ble_eq_true rfl) ?_
  have hcu : 0 ≤ 0 := Nat.zero_le _
  have hsu : 0 ≤ 0 := Nat.zero_le _
  have g : px_pu (some (.int e.1)) sh e.2 L R n (some (.int e.1)) sh e.2 L R n := ⟨rfl, rfl, rfl, rfl, rfl, rfl⟩
  unfold f_X11_goal at h
  refine wx_iload_n dX11_goal_0 rfl ?_
  refine wx_iconst (v := (-1)) dX11_goal_1 (by decide) ?_
  refine wx_icmp_eq (tgt := 16) dX11_goal_2 (by decide) (fun c_2 => ?_) (fun c_2 => ?_)
  · replace h := it_t h c_2
    exact wx_sub (s_X11_goal_16 hS hd (show 0 + 0 ≤ 0 by omega) (show 0 + 0 ≤ 0 by omega) h g) (px_s rfl (px_s rfl px_0))
  · replace h := it_f h c_2
    refine wx_aload_n dX11_goal_5 rfl ?_
    refine wx_getR dX11_goal_6 fl_X11_26 (sc_0 hS) rfl (rr_0_2 hS) ?_
    refine wx_iload_n dX11_goal_9 rfl ?_
    obtain ⟨e_10, k_10, h⟩ := bd1_some h
    refine wx_cVi dX11_goal_10 ml_X11_194 my_X9_hasWorld iv_X9_hasWorld (sc_14 hS) (by decide) (s_X9_hasWorld (d := d - 1) hS (by omega) k_10) rfl (by omega) (by exact Nat.le_of_ble_eq_true rfl) (show 0 + 0 ≤ 0 by omega) (show 0 + 0 ≤ 0 by omega) ?_
    refine wx_if_eq (tgt := 20) dX11_goal_13 (by decide) (fun c_13 => ?_) (fun c_13 => ?_)
    · replace h := it_t h c_13
      refine wx_iconst (v := 0) dX11_goal_20 (by decide) ?_
      exact wx_sub (s_X11_goal_21 hS hd (show 0 + 0 ≤ 0 by omega) (show 0 + 0 ≤ 0 by omega) h g) (px_s rfl (px_s rfl px_0))
    · replace h := it_f h c_13
      exact wx_sub (s_X11_goal_16 hS hd (show 0 + 0 ≤ 0 by omega) (show 0 + 0 ≤ 0 by omega) h g) (px_s rfl (px_s rfl px_0))
theorem x_X11_goal {d : Nat} {X : Nat × (Nat → Int32)} {sh : px_Sh} {M : px_M} {L : px_L} {R : px_R} {n : Nat} {p1 : Int32} {e : Nat} (hS : SR sh R) (hd : 7 ≤ d) (h : f_X11_goal M p1 = some (.inr e)) : MXT yX11_goal cX11_goal 3 (some .int) d 1 6 X [.ref 0, .int p1] sh M L R n px_np (px_px (px_xn e) sh M L R n) := by
  refine MXT.of (by decide +kernel) (by exact Nat.le_of_ble_eq_true rfl) ?_
  have hcu : 0 ≤ 1 := Nat.zero_le _
  have hsu : 0 ≤ 6 := Nat.zero_le _
  have g : ∀ n', n ≤ n' → px_px (px_xn e) sh M L R n (px_xn e) sh M L R n' := fun n' hn => ⟨rfl, rfl, rfl, rfl, rfl, hn⟩
  unfold f_X11_goal at h
  refine wx_iload_n dX11_goal_0 rfl ?_
  refine wx_iconst (v := (-1)) dX11_goal_1 (by decide) ?_
  refine wx_icmp_eq (tgt := 16) dX11_goal_2 (by decide) (fun c_2 => ?_) (fun c_2 => ?_)
  · replace h := it_t h c_2
    exact wx_sub (x_X11_goal_16 hS hd (show 0 + 1 ≤ 1 by omega) (show 0 + 6 ≤ 6 by omega) h g) (px_s rfl (px_s rfl px_0))
  · replace h := it_f h c_2
    refine wx_aload_n dX11_goal_5 rfl ?_
    refine wx_getR dX11_goal_6 fl_X11_26 (sc_0 hS) rfl (rr_0_2 hS) ?_
    refine wx_iload_n dX11_goal_9 rfl ?_
    obtain ⟨e_10, k_10, h⟩ := bd1_some h
    refine wx_cVi dX11_goal_10 ml_X11_194 my_X9_hasWorld iv_X9_hasWorld (sc_14 hS) (by decide) (s_X9_hasWorld (d := d - 1) hS (by omega) k_10) rfl (by omega) (by exact Nat.le_of_ble_eq_true rfl) (show 0 + 0 ≤ 1 by omega) (show 0 + 0 ≤ 6 by omega) ?_
    refine wx_if_eq (tgt := 20) dX11_goal_13 (by decide) (fun c_13 => ?_) (fun c_13 => ?_)
    · replace h := it_t h c_13
      refine wx_iconst (v := 0) dX11_goal_20 (by decide) ?_
      exact wx_sub (x_X11_goal_21 hS hd (show 0 + 1 ≤ 1 by omega) (show 0 + 6 ≤ 6 by omega) h g) (px_s rfl (px_s rfl px_0))
    · replace h := it_f h c_13
      exact wx_sub (x_X11_goal_16 hS hd (show 0 + 1 ≤ 1 by omega) (show 0 + 6 ≤ 6 by omega) h g) (px_s rfl (px_s rfl px_0))
noncomputable def f_X11_rules_15 (sh : px_Sh) (M : px_M) (R : px_R) (x1 : Int32) : Option (Int32 × px_M × px_R) :=
  bd1 (f_X6_readTape sh M R x1) fun e_20 =>
  if (e_20 20 8) = 0 then
    bd1 (R 0 7) fun b_45 =>
    bd1 (R 20 10) fun b_54 =>
    nm (px_u R 0 7 (some b_54)) fun R_57 =>
    nm (px_u R_57 20 10 (some b_45)) fun R_65 =>
    bd1 (R_65 0 7) fun b_69 =>
    ok (hk sh b_69 7) <|
    some ((e_20 b_69 5), e_20, R_65)
  else
    some (((e_20 20 8) - 10), e_20, R)
theorem s_X11_rules_15 {x1 : Int32} {M : px_M} {L : px_L} {R : px_R} {e : (Int32 × px_M × px_R)} (hS : SR sh R) (hd : 79 ≤ d) (hcu : cu ≤ mc) (hsu : su ≤ ms) (h : f_X11_rules_15 sh M R x1 = some e) (g : SR sh (e.2.2) → Post (some (.int (e.1))) sh (e.2.1) L (e.2.2) n) : WX RX11 cX11_rules 3 (some .int) ("rules", []) d mc ms X (px_QF Post mc ms) 15 [(0, .ref 0), (1, .int x1)] [] sh M L R n cu su := by
  unfold f_X11_rules_15 at h
  refine wx_aload_n dX11_rules_15 rfl ?_
  refine wx_getR dX11_rules_16 fl_X11_33 (sc_0 hS) rfl (rr_0_3 hS) ?_
  refine wx_iload_n dX11_rules_19 rfl ?_
  obtain ⟨e_20, k_20, h⟩ := bd1_some h
  refine wx_cVv dX11_rules_20 ml_X11_231 my_X6_readTape iv_X6_readTape (sc_20 hS) (by decide) (s_X6_readTape (d := d - 1) hS (by omega) k_20) rfl (by omega) (by exact Nat.le_of_ble_eq_true rfl) hcu hsu ?_
  refine wx_aload_n dX11_rules_23 rfl ?_
  refine wx_getR dX11_rules_24 fl_X11_33 (sc_0 hS) rfl (rr_0_3 hS) ?_
  refine wx_getI dX11_rules_27 fl_X11_234 (sc_20 hS) rfl ?_
  refine wx_if_eq (tgt := 44) dX11_rules_30 (by decide) (fun c_30 => ?_) (fun c_30 => ?_)
  · replace h := it_t h c_30
    refine wx_aload_n dX11_rules_44 rfl ?_
    obtain ⟨b_45, w_45, h⟩ := bd1_some h
    refine wx_getR dX11_rules_45 fl_X11_61 (sc_0 hS) rfl w_45 ?_
    refine wx_astore_n (lv' := [(2, _), (0, _), (1, _)]) dX11_rules_48 (by decide) rfl ?_
    refine wx_aload_n dX11_rules_49 rfl ?_
    refine wx_aload_n dX11_rules_50 rfl ?_
    refine wx_getR dX11_rules_51 fl_X11_33 (sc_0 hS) rfl (rr_0_3 hS) ?_
    obtain ⟨b_54, w_54, h⟩ := bd1_some h
    refine wx_getR dX11_rules_54 fl_X11_237 (sc_20 hS) rfl w_54 ?_
    refine wx_putR dX11_rules_57 fl_X11_61 (sc_0 hS) (Or.inl rfl) rfl (fun _ => ⟨rfl, rfl⟩) ?_
    refine wx_namR (fun R_57 q_57 => ?_)
    replace h := nm_at h q_57
    replace hS : SR sh R_57 := by rw [q_57]; exact SR.put hS (by decide)
    refine wx_aload_n dX11_rules_60 rfl ?_
    refine wx_getR dX11_rules_61 fl_X11_33 (sc_0 hS) rfl (rr_0_3 hS) ?_
    refine wx_aload_n dX11_rules_64 rfl ?_
    refine wx_putR dX11_rules_65 fl_X11_237 (sc_20 hS) (Or.inl rfl) rfl (fun _ => ⟨rfl, rfl⟩) ?_
    refine wx_namR (fun R_65 q_65 => ?_)
    replace h := nm_at h q_65
    replace hS : SR sh R_65 := by rw [q_65]; exact SR.put hS (by decide)
    refine wx_aload_n dX11_rules_68 rfl ?_
    obtain ⟨b_69, w_69, h⟩ := bd1_some h
    refine wx_getR dX11_rules_69 fl_X11_61 (sc_0 hS) rfl w_69 ?_
    obtain ⟨ws_72, h⟩ := ok_some h
    obtain ⟨ln_72, wt_72⟩ := hk_some ws_72
    refine wx_getI dX11_rules_72 fl_X11_240 wt_72 rfl ?_
    refine wx_iret dX11_rules_75 hcu hsu ?_
    obtain rfl := Option.some.inj h
    exact g hS
  · replace h := it_f h c_30
    refine wx_aload_n dX11_rules_33 rfl ?_
    refine wx_getR dX11_rules_34 fl_X11_33 (sc_0 hS) rfl (rr_0_3 hS) ?_
    refine wx_getI dX11_rules_37 fl_X11_234 (sc_20 hS) rfl ?_
    refine wx_bipush (v := 10) dX11_rules_40 (by decide) ?_
    refine wx_isub dX11_rules_42 ?_
    refine wx_iret dX11_rules_43 hcu hsu ?_
    obtain rfl := Option.some.inj h
    exact g hS
noncomputable def f_X11_rules (sh : px_Sh) (M : px_M) (R : px_R) (p1 : Int32) : Option ((Int32 × px_M × px_R) ⊕ Nat) :=
  bd1 (f_X11_within p1 0 (M 20 1)) fun e_9 =>
  if e_9 = 0 then some (.inr 0) else
  bd1 (f_X11_rules_15 sh M R p1) fun r_15 => some (.inl r_15)
theorem s_X11_rules {d : Nat} {X : Nat × (Nat → Int32)} {sh : px_Sh} {M : px_M} {L : px_L} {R : px_R} {n : Nat} {p1 : Int32} {e : Int32 × px_M × px_R} (hS : SR sh R) (hd : 79 ≤ d) (h : f_X11_rules sh M R p1 = some (.inl e)) : MXT yX11_rules cX11_rules 3 (some .int) d 0 0 X [.ref 0, .int p1] sh M L R n (px_ps (some (.int e.1)) sh e.2.1 L e.2.2 n) px_nx := by
  refine MXT.of (by decide +kernel) (by exact Nat.le_of_ble_eq_true rfl) ?_
  have hcu : 0 ≤ 0 := Nat.zero_le _
  have hsu : 0 ≤ 0 := Nat.zero_le _
  have g : SR sh e.2.2 → px_ps (some (.int e.1)) sh e.2.1 L e.2.2 n (some (.int e.1)) sh e.2.1 L e.2.2 n := fun q => ⟨⟨rfl, rfl, rfl, rfl, rfl, rfl⟩, q⟩
  unfold f_X11_rules at h
  refine wx_iload_n dX11_rules_0 rfl ?_
  refine wx_iconst (v := 0) dX11_rules_1 (by decide) ?_
  refine wx_aload_n dX11_rules_2 rfl ?_
  refine wx_getR dX11_rules_3 fl_X11_33 (sc_0 hS) rfl (rr_0_3 hS) ?_
  refine wx_getI dX11_rules_6 fl_X11_228 (sc_20 hS) rfl ?_
  obtain ⟨e_9, k_9, h⟩ := bd1_some h
  refine wx_cSi dX11_rules_9 ml_X11_65 my_X11_within sv_X11_within (s_X11_within (d := d - 1) hS (by omega) k_9) rfl (by omega) (by exact Nat.le_of_ble_eq_true rfl) (show 0 + 0 ≤ 0 by omega) (show 0 + 0 ≤ 0 by omega) ?_
  by_cases c_12 : e_9 = 0
  · replace h := it_t h c_12
    cases h
  replace h := it_f h c_12
  refine wx_needT dX11_rules_12 nl_needArgument my_X11_needArgument sv_X11_needArgument (mT_needArgument (d := d - 1) c_12) (by omega) (by exact Nat.le_of_ble_eq_true rfl) (show 0 + 0 ≤ 0 by omega) (show 0 + 0 ≤ 0 by omega) ?_
  obtain ⟨r_15, k_15, h⟩ := bd1_some h
  cases h
  exact wx_rx (wx_sub (s_X11_rules_15 hS hd (show 0 + 0 ≤ 0 by omega) (show 0 + 0 ≤ 0 by omega) k_15 g) (px_s rfl (px_s rfl px_0)))
theorem x_X11_rules {d : Nat} {X : Nat × (Nat → Int32)} {sh : px_Sh} {M : px_M} {L : px_L} {R : px_R} {n : Nat} {p1 : Int32} {e : Nat} (hS : SR sh R) (hd : 79 ≤ d) (h : f_X11_rules sh M R p1 = some (.inr e)) : MXT yX11_rules cX11_rules 3 (some .int) d 1 6 X [.ref 0, .int p1] sh M L R n px_np (px_px (px_xn e) sh M L R n) := by
  refine MXT.of (by decide +kernel) (by exact Nat.le_of_ble_eq_true rfl) ?_
  have hcu : 0 ≤ 1 := Nat.zero_le _
  have hsu : 0 ≤ 6 := Nat.zero_le _
  have g : ∀ n', n ≤ n' → px_px (px_xn e) sh M L R n (px_xn e) sh M L R n' := fun n' hn => ⟨rfl, rfl, rfl, rfl, rfl, hn⟩
  unfold f_X11_rules at h
  refine wx_iload_n dX11_rules_0 rfl ?_
  refine wx_iconst (v := 0) dX11_rules_1 (by decide) ?_
  refine wx_aload_n dX11_rules_2 rfl ?_
  refine wx_getR dX11_rules_3 fl_X11_33 (sc_0 hS) rfl (rr_0_3 hS) ?_
  refine wx_getI dX11_rules_6 fl_X11_228 (sc_20 hS) rfl ?_
  obtain ⟨e_9, k_9, h⟩ := bd1_some h
  refine wx_cSi dX11_rules_9 ml_X11_65 my_X11_within sv_X11_within (s_X11_within (d := d - 1) hS (by omega) k_9) rfl (by omega) (by exact Nat.le_of_ble_eq_true rfl) (show 0 + 0 ≤ 1 by omega) (show 0 + 0 ≤ 6 by omega) ?_
  by_cases c_12 : e_9 = 0
  · replace h := it_t h c_12
    obtain rfl := Sum.inr.inj (Option.some.inj h)
    exact wx_needF dX11_rules_12 nl_needArgument my_X11_needArgument sv_X11_needArgument (mF_needArgument (d := d - 1) (by omega) c_12) (by omega) (by exact Nat.le_of_ble_eq_true rfl) (show 0 + 1 ≤ 1 by omega) (show 0 + 6 ≤ 6 by omega) g
  replace h := it_f h c_12
  refine wx_needT dX11_rules_12 nl_needArgument my_X11_needArgument sv_X11_needArgument (mT_needArgument (d := d - 1) c_12) (by omega) (by exact Nat.le_of_ble_eq_true rfl) (show 0 + 0 ≤ 1 by omega) (show 0 + 0 ≤ 6 by omega) ?_
  obtain ⟨r_15, k_15, h⟩ := bd1_some h
  cases h
noncomputable def f_X11_fly_34 (sh : px_Sh) (M : px_M) (R : px_R) (x1 : Int32) : Option (Int32 × px_M) :=
  bd1 (R 0 7) fun b_44 =>
  bd1 (f_X9_flyFor sh M R x1 b_44) fun e_47 =>
  some (e_47.1, e_47.2)
theorem s_X11_fly_34 {x1 : Int32} {M : px_M} {L : px_L} {R : px_R} {e : (Int32 × px_M)} (hS : SR sh R) (hd : 7 ≤ d) (hcu : cu ≤ mc) (hsu : su ≤ ms) (h : f_X11_fly_34 sh M R x1 = some e) (g : Post (some (.int (e.1))) sh (e.2) L R n) : WX RX11 cX11_fly 2 (some .int) ("fly", []) d mc ms X (px_QF Post mc ms) 34 [(0, .ref 0), (1, .int x1)] [] sh M L R n cu su := by
  unfold f_X11_fly_34 at h
  refine wx_aload_n dX11_fly_34 rfl ?_
  refine wx_getR dX11_fly_35 fl_X11_26 (sc_0 hS) rfl (rr_0_2 hS) ?_
  refine wx_iload_n dX11_fly_38 rfl ?_
  refine wx_aload_n dX11_fly_39 rfl ?_
  refine wx_getR dX11_fly_40 fl_X11_19 (sc_0 hS) rfl (rr_0_1 hS) ?_
  refine wx_aload_n dX11_fly_43 rfl ?_
  obtain ⟨b_44, w_44, h⟩ := bd1_some h
  refine wx_getR dX11_fly_44 fl_X11_61 (sc_0 hS) rfl w_44 ?_
  obtain ⟨e_47, k_47, h⟩ := bd1_some h
  refine wx_cVi dX11_fly_47 ml_X11_259 my_X9_flyFor iv_X9_flyFor (sc_14 hS) (by decide) (s_X9_flyFor (d := d - 1) hS (by omega) k_47) rfl (by omega) (by exact Nat.le_of_ble_eq_true rfl) hcu hsu ?_
  refine wx_iret dX11_fly_50 hcu hsu ?_
  obtain rfl := Option.some.inj h
  exact g
noncomputable def f_X11_fly_31 (sh : px_Sh) (M : px_M) (R : px_R) (x1 : Int32) (z0 : Int32) : Option ((Int32 × px_M) ⊕ Nat) :=
  if z0 = 0 then some (.inr 1) else
  bd1 (f_X11_fly_34 sh M R x1) fun r_34 => some (.inl r_34)
theorem s_X11_fly_31 {x1 : Int32} {z0 : Int32} {PX : px_PX} {M : px_M} {L : px_L} {R : px_R} {e : Int32 × px_M} (hS : SR sh R) (hd : 7 ≤ d) (hcu : cu ≤ mc) (hsu : su ≤ ms) (h : f_X11_fly_31 sh M R x1 z0 = some (.inl e)) (g : Post (some (.int (e.1))) sh (e.2) L R n) : WX RX11 cX11_fly 2 (some .int) ("fly", []) d mc ms X (px_QX Post PX mc ms) 31 [(0, .ref 0), (1, .int x1)] [.int z0] sh M L R n cu su := by
  unfold f_X11_fly_31 at h
  by_cases c_31 : z0 = 0
  · replace h := it_t h c_31
    cases h
  replace h := it_f h c_31
  refine wx_needT dX11_fly_31 nl_needState my_X11_needState sv_X11_needState (mT_needState (d := d - 1) c_31) (by omega) (by exact Nat.le_of_ble_eq_true rfl) (show cu + 0 ≤ mc by omega) (show su + 0 ≤ ms by omega) ?_
  obtain ⟨r_34, k_34, h⟩ := bd1_some h
  cases h
  exact wx_rx (wx_sub (s_X11_fly_34 hS hd (show cu + 0 ≤ mc by omega) (show su + 0 ≤ ms by omega) k_34 g) (px_s rfl (px_s rfl px_0)))
theorem x_X11_fly_31 {x1 : Int32} {z0 : Int32} {PX : px_PX} {M : px_M} {L : px_L} {R : px_R} {e : Nat} (hS : SR sh R) (hd : 7 ≤ d) (hcu : cu + 1 ≤ mc) (hsu : su + 6 ≤ ms) (h : f_X11_fly_31 sh M R x1 z0 = some (.inr e)) (g : ∀ n', n ≤ n' → PX (px_xn e) sh M L R n') : WX RX11 cX11_fly 2 (some .int) ("fly", []) d mc ms X (px_QX Post PX mc ms) 31 [(0, .ref 0), (1, .int x1)] [.int z0] sh M L R n cu su := by
  unfold f_X11_fly_31 at h
  by_cases c_31 : z0 = 0
  · replace h := it_t h c_31
    obtain rfl := Sum.inr.inj (Option.some.inj h)
    exact wx_needF dX11_fly_31 nl_needState my_X11_needState sv_X11_needState (mF_needState (d := d - 1) (by omega) c_31) (by omega) (by exact Nat.le_of_ble_eq_true rfl) (show cu + 1 ≤ mc by omega) (show su + 6 ≤ ms by omega) g
  replace h := it_f h c_31
  refine wx_needT dX11_fly_31 nl_needState my_X11_needState sv_X11_needState (mT_needState (d := d - 1) c_31) (by omega) (by exact Nat.le_of_ble_eq_true rfl) (show cu + 0 ≤ mc by omega) (show su + 0 ≤ ms by omega) ?_
  obtain ⟨r_34, k_34, h⟩ := bd1_some h
  cases h
noncomputable def f_X11_fly (sh : px_Sh) (M : px_M) (R : px_R) (p1 : Int32) : Option ((Int32 × px_M) ⊕ Nat) :=
  bd1 (f_X11_within p1 0 200) fun e_5 =>
  if e_5 = 0 then some (.inr 0) else
  if 2000 < ((M 14 0) + p1) then
    f_X11_fly_31 sh M R p1 0
  else
    f_X11_fly_31 sh M R p1 1
theorem s_X11_fly {d : Nat} {X : Nat × (Nat → Int32)} {sh : px_Sh} {M : px_M} {L : px_L} {R : px_R} {n : Nat} {p1 : Int32} {e : Int32 × px_M} (hS : SR sh R) (hd : 7 ≤ d) (h : f_X11_fly sh M R p1 = some (.inl e)) : MXT yX11_fly cX11_fly 2 (some .int) d 0 0 X [.ref 0, .int p1] sh M L R n (px_pu (some (.int e.1)) sh e.2 L R n) px_nx := by
  refine MXT.of (by decide +kernel) (by exact Nat.le_of_ble_eq_true rfl) ?_
  have hcu : 0 ≤ 0 := Nat.zero_le _
  have hsu : 0 ≤ 0 := Nat.zero_le _
  have g : px_pu (some (.int e.1)) sh e.2 L R n (some (.int e.1)) sh e.2 L R n := ⟨rfl, rfl, rfl, rfl, rfl, rfl⟩
  unfold f_X11_fly at h
  refine wx_iload_n dX11_fly_0 rfl ?_
  refine wx_iconst (v := 0) dX11_fly_1 (by decide) ?_
  refine wx_sipush (v := 200) dX11_fly_2 (by decide) ?_
  obtain ⟨e_5, k_5, h⟩ := bd1_some h
  refine wx_cSi dX11_fly_5 ml_X11_65 my_X11_within sv_X11_within (s_X11_within (d := d - 1) hS (by omega) k_5) rfl (by omega) (by exact Nat.le_of_ble_eq_true rfl) (show 0 + 0 ≤ 0 by omega) (show 0 + 0 ≤ 0 by omega) ?_
  by_cases c_8 : e_5 = 0
  · replace h := it_t h c_8
    cases h
  replace h := it_f h c_8
  refine wx_needT dX11_fly_8 nl_needArgument my_X11_needArgument sv_X11_needArgument (mT_needArgument (d := d - 1) c_8) (by omega) (by exact Nat.le_of_ble_eq_true rfl) (show 0 + 0 ≤ 0 by omega) (show 0 + 0 ≤ 0 by omega) ?_
  refine wx_aload_n dX11_fly_11 rfl ?_
  refine wx_getR dX11_fly_12 fl_X11_26 (sc_0 hS) rfl (rr_0_2 hS) ?_
  refine wx_getI dX11_fly_15 fl_X11_253 (sc_14 hS) rfl ?_
  refine wx_iload_n dX11_fly_18 rfl ?_
  refine wx_iadd dX11_fly_19 ?_
  refine wx_sipush (v := 2000) dX11_fly_20 (by decide) ?_
  refine wx_icmp_gt (tgt := 30) dX11_fly_23 (by decide) (fun c_23 => ?_) (fun c_23 => ?_)
  · replace h := it_t h c_23
    refine wx_iconst (v := 0) dX11_fly_30 (by decide) ?_
    exact wx_sub (s_X11_fly_31 hS hd (show 0 + 0 ≤ 0 by omega) (show 0 + 0 ≤ 0 by omega) h g) (px_s rfl (px_s rfl px_0))
  · replace h := it_f h c_23
    refine wx_iconst (v := 1) dX11_fly_26 (by decide) ?_
    refine wx_goto (tgt := 31) dX11_fly_27 (by decide) ?_
    exact wx_sub (s_X11_fly_31 hS hd (show 0 + 0 ≤ 0 by omega) (show 0 + 0 ≤ 0 by omega) h g) (px_s rfl (px_s rfl px_0))
theorem x_X11_fly {d : Nat} {X : Nat × (Nat → Int32)} {sh : px_Sh} {M : px_M} {L : px_L} {R : px_R} {n : Nat} {p1 : Int32} {e : Nat} (hS : SR sh R) (hd : 7 ≤ d) (h : f_X11_fly sh M R p1 = some (.inr e)) : MXT yX11_fly cX11_fly 2 (some .int) d 1 6 X [.ref 0, .int p1] sh M L R n px_np (px_px (px_xn e) sh M L R n) := by
  refine MXT.of (by decide +kernel) (by exact Nat.le_of_ble_eq_true rfl) ?_
  have hcu : 0 ≤ 1 := Nat.zero_le _
  have hsu : 0 ≤ 6 := Nat.zero_le _
  have g : ∀ n', n ≤ n' → px_px (px_xn e) sh M L R n (px_xn e) sh M L R n' := fun n' hn => ⟨rfl, rfl, rfl, rfl, rfl, hn⟩
  unfold f_X11_fly at h
  refine wx_iload_n dX11_fly_0 rfl ?_
  refine wx_iconst (v := 0) dX11_fly_1 (by decide) ?_
  refine wx_sipush (v := 200) dX11_fly_2 (by decide) ?_
  obtain ⟨e_5, k_5, h⟩ := bd1_some h
  refine wx_cSi dX11_fly_5 ml_X11_65 my_X11_within sv_X11_within (s_X11_within (d := d - 1) hS (by omega) k_5) rfl (by omega) (by exact Nat.le_of_ble_eq_true rfl) (show 0 + 0 ≤ 1 by omega) (show 0 + 0 ≤ 6 by omega) ?_
  by_cases c_8 : e_5 = 0
  · replace h := it_t h c_8
    obtain rfl := Sum.inr.inj (Option.some.inj h)
    exact wx_needF dX11_fly_8 nl_needArgument my_X11_needArgument sv_X11_needArgument (mF_needArgument (d := d - 1) (by omega) c_8) (by omega) (by exact Nat.le_of_ble_eq_true rfl) (show 0 + 1 ≤ 1 by omega) (show 0 + 6 ≤ 6 by omega) g
  replace h := it_f h c_8
  refine wx_needT dX11_fly_8 nl_needArgument my_X11_needArgument sv_X11_needArgument (mT_needArgument (d := d - 1) c_8) (by omega) (by exact Nat.le_of_ble_eq_true rfl) (show 0 + 0 ≤ 1 by omega) (show 0 + 0 ≤ 6 by omega) ?_
  refine wx_aload_n dX11_fly_11 rfl ?_
  refine wx_getR dX11_fly_12 fl_X11_26 (sc_0 hS) rfl (rr_0_2 hS) ?_
  refine wx_getI dX11_fly_15 fl_X11_253 (sc_14 hS) rfl ?_
  refine wx_iload_n dX11_fly_18 rfl ?_
  refine wx_iadd dX11_fly_19 ?_
  refine wx_sipush (v := 2000) dX11_fly_20 (by decide) ?_
  refine wx_icmp_gt (tgt := 30) dX11_fly_23 (by decide) (fun c_23 => ?_) (fun c_23 => ?_)
  · replace h := it_t h c_23
    refine wx_iconst (v := 0) dX11_fly_30 (by decide) ?_
    exact wx_sub (x_X11_fly_31 hS hd (show 0 + 1 ≤ 1 by omega) (show 0 + 6 ≤ 6 by omega) h g) (px_s rfl (px_s rfl px_0))
  · replace h := it_f h c_23
    refine wx_iconst (v := 1) dX11_fly_26 (by decide) ?_
    refine wx_goto (tgt := 31) dX11_fly_27 (by decide) ?_
    exact wx_sub (x_X11_fly_31 hS hd (show 0 + 1 ≤ 1 by omega) (show 0 + 6 ≤ 6 by omega) h g) (px_s rfl (px_s rfl px_0))
end LIFT
