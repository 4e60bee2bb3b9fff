/-! the face -/
section LIFT
variable {d mc ms : Nat} {X : Nat × (Nat → Int32)} {Post : px_Post} {sh : px_Sh} {n cu su : Nat}
noncomputable def f_X11_note_9 (M : px_M) (x1 : Int32) (x2 : Int32) : Option (Int32) :=
  bd1 (f_X9_noteOf M x1 x2) fun e_15 =>
  some e_15
theorem s_X11_note_9 {x1 : Int32} {x2 : Int32} {M : px_M} {L : px_L} {R : px_R} {e : (Int32)} (hS : SR sh R) (hd : 7 ≤ d) (hcu : cu ≤ mc) (hsu : su ≤ ms) (h : f_X11_note_9 M x1 x2 = some e) (g : Post (some (.int e)) sh M L R n) : WX RX11 cX11_note 3 (some .int) ("note", []) d mc ms X (px_QF Post mc ms) 9 [(0, .ref 0), (1, .int x1), (2, .int x2)] [] sh M L R n cu su := by
  unfold f_X11_note_9 at h
  refine wx_aload_n dX11_note_9 rfl ?_
  refine wx_getR dX11_note_10 fl_X11_26 (sc_0 hS) rfl (rr_0_2 hS) ?_
  refine wx_iload_n dX11_note_13 rfl ?_
  refine wx_iload_n dX11_note_14 rfl ?_
  obtain ⟨e_15, k_15, h⟩ := bd1_some h
  refine wx_cVi dX11_note_15 ml_X11_263 my_X9_noteOf iv_X9_noteOf (sc_14 hS) (by decide) (s_X9_noteOf (d := d - 1) hS (by omega) k_15) rfl (by omega) (by exact Nat.le_of_ble_eq_true rfl) hcu hsu ?_
  refine wx_iret dX11_note_18 hcu hsu ?_
  obtain rfl := Option.some.inj h
  exact g
noncomputable def f_X11_note (M : px_M) (p1 : Int32) (p2 : Int32) : Option ((Int32) ⊕ Nat) :=
  bd1 (f_X11_within p2 0 3) fun e_3 =>
  if e_3 = 0 then some (.inr 0) else
  bd1 (f_X11_note_9 M p1 p2) fun r_9 => some (.inl r_9)
theorem s_X11_note {d : Nat} {X : Nat × (Nat → Int32)} {sh : px_Sh} {M : px_M} {L : px_L} {R : px_R} {n : Nat} {p1 : Int32} {p2 : Int32} {e : Int32} (hS : SR sh R) (hd : 7 ≤ d) (h : f_X11_note M p1 p2 = some (.inl e)) : MXT yX11_note cX11_note 3 (some .int) d 0 0 X [.ref 0, .int p1, .int p2] sh M L R n (px_pu (some (.int e)) sh M L R n) px_nx := by
  refine MXT.of (by decide +kernel) (by exact Nat.le_of_ble_eq_true rfl) ?_
  have hcu : 0 ≤ 0 := Nat.zero_le _
  have hsu : 0 ≤ 0 := Nat.zero_le _
  have g : px_pu (some (.int e)) sh M L R n (some (.int e)) sh M L R n := ⟨rfl, rfl, rfl, rfl, rfl, rfl⟩
  unfold f_X11_note at h
  refine wx_iload_n dX11_note_0 rfl ?_
  refine wx_iconst (v := 0) dX11_note_1 (by decide) ?_
  refine wx_iconst (v := 3) dX11_note_2 (by decide) ?_
  obtain ⟨e_3, k_3, h⟩ := bd1_some h
  refine wx_cSi dX11_note_3 ml_X11_65 my_X11_within sv_X11_within (s_X11_within (d := d - 1) hS (by omega) k_3) rfl (by omega) (by exact Nat.le_of_ble_eq_true rfl) (show 0 + 0 ≤ 0 by omega) (show 0 + 0 ≤ 0 by omega) ?_
  by_cases c_6 : e_3 = 0
  · replace h := it_t h c_6
    cases h
  replace h := it_f h c_6
  refine wx_needT dX11_note_6 nl_needArgument my_X11_needArgument sv_X11_needArgument (mT_needArgument (d := d - 1) c_6) (by omega) (by exact Nat.le_of_ble_eq_true rfl) (show 0 + 0 ≤ 0 by omega) (show 0 + 0 ≤ 0 by omega) ?_
  obtain ⟨r_9, k_9, h⟩ := bd1_some h
  cases h
  exact wx_rx (wx_sub (s_X11_note_9 hS hd (show 0 + 0 ≤ 0 by omega) (show 0 + 0 ≤ 0 by omega) k_9 g) (px_s rfl (px_s rfl (px_s rfl px_0))))
theorem x_X11_note {d : Nat} {X : Nat × (Nat → Int32)} {sh : px_Sh} {M : px_M} {L : px_L} {R : px_R} {n : Nat} {p1 : Int32} {p2 : Int32} {e : Nat} (hS : SR sh R) (hd : 7 ≤ d) (h : f_X11_note M p1 p2 = some (.inr e)) : MXT yX11_note cX11_note 3 (some .int) d 1 6 X [.ref 0, .int p1, .int p2] sh M L R n px_np (px_px (px_xn e) sh M L R n) := by
  refine MXT.of (by decide +kernel) (by exact Nat.le_of_ble_eq_true rfl) ?_
  have hcu : 0 ≤ 1 := Nat.zero_le _
  have hsu : 0 ≤ 6 := Nat.zero_le _
  have g : ∀ n', n ≤ n' → px_px (px_xn e) sh M L R n (px_xn e) sh M L R n' := fun n' hn => ⟨rfl, rfl, rfl, rfl, rfl, hn⟩
  unfold f_X11_note at h
  refine wx_iload_n dX11_note_0 rfl ?_
  refine wx_iconst (v := 0) dX11_note_1 (by decide) ?_
  refine wx_iconst (v := 3) dX11_note_2 (by decide) ?_
  obtain ⟨e_3, k_3, h⟩ := bd1_some h
  refine wx_cSi dX11_note_3 ml_X11_65 my_X11_within sv_X11_within (s_X11_within (d := d - 1) hS (by omega) k_3) rfl (by omega) (by exact Nat.le_of_ble_eq_true rfl) (show 0 + 0 ≤ 1 by omega) (show 0 + 0 ≤ 6 by omega) ?_
  by_cases c_6 : e_3 = 0
  · replace h := it_t h c_6
    obtain rfl := Sum.inr.inj (Option.some.inj h)
    exact wx_needF dX11_note_6 nl_needArgument my_X11_needArgument sv_X11_needArgument (mF_needArgument (d := d - 1) (by omega) c_6) (by omega) (by exact Nat.le_of_ble_eq_true rfl) (show 0 + 1 ≤ 1 by omega) (show 0 + 6 ≤ 6 by omega) g
  replace h := it_f h c_6
  refine wx_needT dX11_note_6 nl_needArgument my_X11_needArgument sv_X11_needArgument (mT_needArgument (d := d - 1) c_6) (by omega) (by exact Nat.le_of_ble_eq_true rfl) (show 0 + 0 ≤ 1 by omega) (show 0 + 0 ≤ 6 by omega) ?_
  obtain ⟨r_9, k_9, h⟩ := bd1_some h
  cases h
noncomputable def f_X11_coat_8 (M : px_M) (x1 : Int32) (x2 : Int32) : Option (Int32 × px_M) :=
  bd1 (f_X3_addCoat M x1 x2) fun e_14 =>
  some (e_14.1, e_14.2)
theorem s_X11_coat_8 {x1 : Int32} {x2 : Int32} {M : px_M} {L : px_L} {R : px_R} {e : (Int32 × px_M)} (hS : SR sh R) (hd : 7 ≤ d) (hcu : cu ≤ mc) (hsu : su ≤ ms) (h : f_X11_coat_8 M x1 x2 = some e) (g : Post (some (.int (e.1))) sh (e.2) L R n) : WX RX11 cX11_coat 3 (some .int) ("coat", []) d mc ms X (px_QF Post mc ms) 8 [(0, .ref 0), (1, .int x1), (2, .int x2)] [] sh M L R n cu su := by
  unfold f_X11_coat_8 at h
  refine wx_aload_n dX11_coat_8 rfl ?_
  refine wx_getR dX11_coat_9 fl_X11_40 (sc_0 hS) rfl (rr_0_4 hS) ?_
  refine wx_iload_n dX11_coat_12 rfl ?_
  refine wx_iload_n dX11_coat_13 rfl ?_
  obtain ⟨e_14, k_14, h⟩ := bd1_some h
  refine wx_cVi dX11_coat_14 ml_X11_266 my_X3_addCoat iv_X3_addCoat (sc_27 hS) (by decide) (s_X3_addCoat (d := d - 1) hS (by omega) k_14) rfl (by omega) (by exact Nat.le_of_ble_eq_true rfl) hcu hsu ?_
  refine wx_iret dX11_coat_17 hcu hsu ?_
  obtain rfl := Option.some.inj h
  exact g
noncomputable def f_X11_coat (M : px_M) (p1 : Int32) (p2 : Int32) : Option ((Int32 × px_M) ⊕ Nat) :=
  bd1 (f_X11_isCoat p1 p2) fun e_2 =>
  if e_2 = 0 then some (.inr 0) else
  bd1 (f_X11_coat_8 M p1 p2) fun r_8 => some (.inl r_8)
theorem s_X11_coat {d : Nat} {X : Nat × (Nat → Int32)} {sh : px_Sh} {M : px_M} {L : px_L} {R : px_R} {n : Nat} {p1 : Int32} {p2 : Int32} {e : Int32 × px_M} (hS : SR sh R) (hd : 7 ≤ d) (h : f_X11_coat M p1 p2 = some (.inl e)) : MXT yX11_coat cX11_coat 3 (some .int) d 0 0 X [.ref 0, .int p1, .int p2] sh M L R n (px_pu (some (.int e.1)) sh e.2 L R n) px_nx := by
  refine MXT.of (by decide +kernel) (by exact Nat.le_of_ble_eq_true rfl) ?_
  have hcu : 0 ≤ 0 := Nat.zero_le _
  have hsu : 0 ≤ 0 := Nat.zero_le _
  have g : px_pu (some (.int e.1)) sh e.2 L R n (some (.int e.1)) sh e.2 L R n := ⟨rfl, rfl, rfl, rfl, rfl, rfl⟩
  unfold f_X11_coat at h
  refine wx_iload_n dX11_coat_0 rfl ?_
  refine wx_iload_n dX11_coat_1 rfl ?_
  obtain ⟨e_2, k_2, h⟩ := bd1_some h
  refine wx_cSi dX11_coat_2 ml_X11_122 my_X11_isCoat sv_X11_isCoat (s_X11_isCoat (d := d - 1) hS (by omega) k_2) rfl (by omega) (by exact Nat.le_of_ble_eq_true rfl) (show 0 + 0 ≤ 0 by omega) (show 0 + 0 ≤ 0 by omega) ?_
  by_cases c_5 : e_2 = 0
  · replace h := it_t h c_5
    cases h
  replace h := it_f h c_5
  refine wx_needT dX11_coat_5 nl_needArgument my_X11_needArgument sv_X11_needArgument (mT_needArgument (d := d - 1) c_5) (by omega) (by exact Nat.le_of_ble_eq_true rfl) (show 0 + 0 ≤ 0 by omega) (show 0 + 0 ≤ 0 by omega) ?_
  obtain ⟨r_8, k_8, h⟩ := bd1_some h
  cases h
  exact wx_rx (wx_sub (s_X11_coat_8 hS hd (show 0 + 0 ≤ 0 by omega) (show 0 + 0 ≤ 0 by omega) k_8 g) (px_s rfl (px_s rfl (px_s rfl px_0))))
theorem x_X11_coat {d : Nat} {X : Nat × (Nat → Int32)} {sh : px_Sh} {M : px_M} {L : px_L} {R : px_R} {n : Nat} {p1 : Int32} {p2 : Int32} {e : Nat} (hS : SR sh R) (hd : 7 ≤ d) (h : f_X11_coat M p1 p2 = some (.inr e)) : MXT yX11_coat cX11_coat 3 (some .int) d 1 6 X [.ref 0, .int p1, .int p2] sh M L R n px_np (px_px (px_xn e) sh M L R n) := by
  refine MXT.of (by decide +kernel) (by exact Nat.le_of_ble_eq_true rfl) ?_
  have hcu : 0 ≤ 1 := Nat.zero_le _
  have hsu : 0 ≤ 6 := Nat.zero_le _
  have g : ∀ n', n ≤ n' → px_px (px_xn e) sh M L R n (px_xn e) sh M L R n' := fun n' hn => ⟨rfl, rfl, rfl, rfl, rfl, hn⟩
  unfold f_X11_coat at h
  refine wx_iload_n dX11_coat_0 rfl ?_
  refine wx_iload_n dX11_coat_1 rfl ?_
  obtain ⟨e_2, k_2, h⟩ := bd1_some h
  refine wx_cSi dX11_coat_2 ml_X11_122 my_X11_isCoat sv_X11_isCoat (s_X11_isCoat (d := d - 1) hS (by omega) k_2) rfl (by omega) (by exact Nat.le_of_ble_eq_true rfl) (show 0 + 0 ≤ 1 by omega) (show 0 + 0 ≤ 6 by omega) ?_
  by_cases c_5 : e_2 = 0
  · replace h := it_t h c_5
    obtain rfl := Sum.inr.inj (Option.some.inj h)
    exact wx_needF dX11_coat_5 nl_needArgument my_X11_needArgument sv_X11_needArgument (mF_needArgument (d := d - 1) (by omega) c_5) (by omega) (by exact Nat.le_of_ble_eq_true rfl) (show 0 + 1 ≤ 1 by omega) (show 0 + 6 ≤ 6 by omega) g
  replace h := it_f h c_5
  refine wx_needT dX11_coat_5 nl_needArgument my_X11_needArgument sv_X11_needArgument (mT_needArgument (d := d - 1) c_5) (by omega) (by exact Nat.le_of_ble_eq_true rfl) (show 0 + 0 ≤ 1 by omega) (show 0 + 0 ≤ 6 by omega) ?_
  obtain ⟨r_8, k_8, h⟩ := bd1_some h
  cases h
noncomputable def f_X11_sight_37 (M : px_M) (x1 : Int32) (x2 : Int32) (x3 : Int32) : Option (Int32 × px_M) :=
  bd1 (f_X3_addSight M x1 x2 x3) fun e_44 =>
  some (e_44.1, e_44.2)
theorem s_X11_sight_37 {x1 : Int32} {x2 : Int32} {x3 : Int32} {M : px_M} {L : px_L} {R : px_R} {e : (Int32 × px_M)} (hS : SR sh R) (hd : 7 ≤ d) (hcu : cu ≤ mc) (hsu : su ≤ ms) (h : f_X11_sight_37 M x1 x2 x3 = some e) (g : Post (some (.int (e.1))) sh (e.2) L R n) : WX RX11 cX11_sight 4 (some .int) ("sight", []) d mc ms X (px_QF Post mc ms) 37 [(0, .ref 0), (1, .int x1), (2, .int x2), (3, .int x3)] [] sh M L R n cu su := by
  unfold f_X11_sight_37 at h
  refine wx_aload_n dX11_sight_37 rfl ?_
  refine wx_getR dX11_sight_38 fl_X11_40 (sc_0 hS) rfl (rr_0_4 hS) ?_
  refine wx_iload_n dX11_sight_41 rfl ?_
  refine wx_iload_n dX11_sight_42 rfl ?_
  refine wx_iload_n dX11_sight_43 rfl ?_
  obtain ⟨e_44, k_44, h⟩ := bd1_some h
  refine wx_cVi dX11_sight_44 ml_X11_270 my_X3_addSight iv_X3_addSight (sc_27 hS) (by decide) (s_X3_addSight (d := d - 1) hS (by omega) k_44) rfl (by omega) (by exact Nat.le_of_ble_eq_true rfl) hcu hsu ?_
  refine wx_iret dX11_sight_47 hcu hsu ?_
  obtain rfl := Option.some.inj h
  exact g
noncomputable def f_X11_sight_34 (M : px_M) (x1 : Int32) (x2 : Int32) (x3 : Int32) (z0 : Int32) : Option ((Int32 × px_M) ⊕ Nat) :=
  if z0 = 0 then some (.inr 0) else
  bd1 (f_X11_sight_37 M x1 x2 x3) fun r_37 => some (.inl r_37)
theorem s_X11_sight_34 {x1 : Int32} {x2 : Int32} {x3 : Int32} {z0 : Int32} {PX : px_PX} {M : px_M} {L : px_L} {R : px_R} {e : Int32 × px_M} (hS : SR sh R) (hd : 7 ≤ d) (hcu : cu ≤ mc) (hsu : su ≤ ms) (h : f_X11_sight_34 M x1 x2 x3 z0 = some (.inl e)) (g : Post (some (.int (e.1))) sh (e.2) L R n) : WX RX11 cX11_sight 4 (some .int) ("sight", []) d mc ms X (px_QX Post PX mc ms) 34 [(0, .ref 0), (1, .int x1), (2, .int x2), (3, .int x3)] [.int z0] sh M L R n cu su := by
  unfold f_X11_sight_34 at h
  by_cases c_34 : z0 = 0
  · replace h := it_t h c_34
    cases h
  replace h := it_f h c_34
  refine wx_needT dX11_sight_34 nl_needArgument my_X11_needArgument sv_X11_needArgument (mT_needArgument (d := d - 1) c_34) (by omega) (by exact Nat.le_of_ble_eq_true rfl) (show cu + 0 ≤ mc by omega) (show su + 0 ≤ ms by omega) ?_
  obtain ⟨r_37, k_37, h⟩ := bd1_some h
  cases h
  exact wx_rx (wx_sub (s_X11_sight_37 hS hd (show cu + 0 ≤ mc by omega) (show su + 0 ≤ ms by omega) k_37 g) (px_s rfl (px_s rfl (px_s rfl (px_s rfl px_0)))))
theorem x_X11_sight_34 {x1 : Int32} {x2 : Int32} {x3 : Int32} {z0 : Int32} {PX : px_PX} {M : px_M} {L : px_L} {R : px_R} {e : Nat} (hS : SR sh R) (hd : 7 ≤ d) (hcu : cu + 1 ≤ mc) (hsu : su + 6 ≤ ms) (h : f_X11_sight_34 M x1 x2 x3 z0 = some (.inr e)) (g : ∀ n', n ≤ n' → PX (px_xn e) sh M L R n') : WX RX11 cX11_sight 4 (some .int) ("sight", []) d mc ms X (px_QX Post PX mc ms) 34 [(0, .ref 0), (1, .int x1), (2, .int x2), (3, .int x3)] [.int z0] sh M L R n cu su := by
  unfold f_X11_sight_34 at h
  by_cases c_34 : z0 = 0
  · replace h := it_t h c_34
    obtain rfl := Sum.inr.inj (Option.some.inj h)
    exact wx_needF dX11_sight_34 nl_needArgument my_X11_needArgument sv_X11_needArgument (mF_needArgument (d := d - 1) (by omega) c_34) (by omega) (by exact Nat.le_of_ble_eq_true rfl) (show cu + 1 ≤ mc by omega) (show su + 6 ≤ ms by omega) g
  replace h := it_f h c_34
  refine wx_needT dX11_sight_34 nl_needArgument my_X11_needArgument sv_X11_needArgument (mT_needArgument (d := d - 1) c_34) (by omega) (by exact Nat.le_of_ble_eq_true rfl) (show cu + 0 ≤ mc by omega) (show su + 0 ≤ ms by omega) ?_
  obtain ⟨r_37, k_37, h⟩ := bd1_some h
  cases h
noncomputable def f_X11_sight_33 (M : px_M) (x1 : Int32) (x2 : Int32) (x3 : Int32) : Option ((Int32 × px_M) ⊕ Nat) :=
  f_X11_sight_34 M x1 x2 x3 0
theorem s_X11_sight_33 {x1 : Int32} {x2 : Int32} {x3 : Int32} {PX : px_PX} {M : px_M} {L : px_L} {R : px_R} {e : Int32 × px_M} (hS : SR sh R) (hd : 7 ≤ d) (hcu : cu ≤ mc) (hsu : su ≤ ms) (h : f_X11_sight_33 M x1 x2 x3 = some (.inl e)) (g : Post (some (.int (e.1))) sh (e.2) L R n) : WX RX11 cX11_sight 4 (some .int) ("sight", []) d mc ms X (px_QX Post PX mc ms) 33 [(0, .ref 0), (1, .int x1), (2, .int x2), (3, .int x3)] [] sh M L R n cu su := by
  unfold f_X11_sight_33 at h
  refine wx_iconst (v := 0) dX11_sight_33 (by decide) ?_
  exact wx_sub (s_X11_sight_34 hS hd (show cu + 0 ≤ mc by omega) (show su + 0 ≤ ms by omega) h g) (px_s rfl (px_s rfl (px_s rfl (px_s rfl px_0))))
theorem x_X11_sight_33 {x1 : Int32} {x2 : Int32} {x3 : Int32} {PX : px_PX} {M : px_M} {L : px_L} {R : px_R} {e : Nat} (hS : SR sh R) (hd : 7 ≤ d) (hcu : cu + 1 ≤ mc) (hsu : su + 6 ≤ ms) (h : f_X11_sight_33 M x1 x2 x3 = some (.inr e)) (g : ∀ n', n ≤ n' → PX (px_xn e) sh M L R n') : WX RX11 cX11_sight 4 (some .int) ("sight", []) d mc ms X (px_QX Post PX mc ms) 33 [(0, .ref 0), (1, .int x1), (2, .int x2), (3, .int x3)] [] sh M L R n cu su := by
  unfold f_X11_sight_33 at h
  refine wx_iconst (v := 0) dX11_sight_33 (by decide) ?_
  exact wx_sub (x_X11_sight_34 hS hd (show cu + 1 ≤ mc by omega) (show su + 6 ≤ ms by omega) h g) (px_s rfl (px_s rfl (px_s rfl (px_s rfl px_0))))
noncomputable def f_X11_sight (M : px_M) (p1 : Int32) (p2 : Int32) (p3 : Int32) : Option ((Int32 × px_M) ⊕ Nat) :=
  bd1 (f_X11_isSlant p1) fun e_1 =>
  if e_1 = 0 then
    f_X11_sight_33 M p1 p2 p3
  else
    bd1 (f_X11_within p2 0 1000000) fun e_12 =>
    if e_12 = 0 then
      f_X11_sight_33 M p1 p2 p3
    else
      bd1 (f_X11_within p3 0 10000) fun e_23 =>
      if e_23 = 0 then
        f_X11_sight_33 M p1 p2 p3
      else
        f_X11_sight_34 M p1 p2 p3 1
theorem s_X11_sight {d : Nat} {X : Nat × (Nat → Int32)} {sh : px_Sh} {M : px_M} {L : px_L} {R : px_R} {n : Nat} {p1 : Int32} {p2 : Int32} {p3 : Int32} {e : Int32 × px_M} (hS : SR sh R) (hd : 7 ≤ d) (h : f_X11_sight M p1 p2 p3 = some (.inl e)) : MXT yX11_sight cX11_sight 4 (some .int) d 0 0 X [.ref 0, .int p1, .int p2, .int p3] sh M L R n (px_pu (some (.int e.1)) sh e.2 L R n) px_nx := by
  refine MXT.of (by decide +kernel) (by exact Nat.le_of_ble_eq_true rfl) ?_
  have hcu : 0 ≤ 0 := Nat.zero_le _
  have hsu : 0 ≤ 0 := Nat.zero_le _
  have g : px_pu (some (.int e.1)) sh e.2 L R n (some (.int e.1)) sh e.2 L R n := ⟨rfl, rfl, rfl, rfl, rfl, rfl⟩
  unfold f_X11_sight at h
  refine wx_iload_n dX11_sight_0 rfl ?_
  obtain ⟨e_1, k_1, h⟩ := bd1_some h
  refine wx_cSi dX11_sight_1 ml_X11_169 my_X11_isSlant sv_X11_isSlant (s_X11_isSlant (d := d - 1) hS (by omega) k_1) rfl (by omega) (by exact Nat.le_of_ble_eq_true rfl) (show 0 + 0 ≤ 0 by omega) (show 0 + 0 ≤ 0 by omega) ?_
  refine wx_if_eq (tgt := 33) dX11_sight_4 (by decide) (fun c_4 => ?_) (fun c_4 => ?_)
  · replace h := it_t h c_4
    exact wx_sub (s_X11_sight_33 hS hd (show 0 + 0 ≤ 0 by omega) (show 0 + 0 ≤ 0 by omega) h g) (px_s rfl (px_s rfl (px_s rfl (px_s rfl px_0))))
  · replace h := it_f h c_4
    refine wx_iload_n dX11_sight_7 rfl ?_
    refine wx_iconst (v := 0) dX11_sight_8 (by decide) ?_
    refine wx_ldcw dX11_sight_9 ki_X11_269 ?_
    obtain ⟨e_12, k_12, h⟩ := bd1_some h
    refine wx_cSi dX11_sight_12 ml_X11_65 my_X11_within sv_X11_within (s_X11_within (d := d - 1) hS (by omega) k_12) rfl (by omega) (by exact Nat.le_of_ble_eq_true rfl) (show 0 + 0 ≤ 0 by omega) (show 0 + 0 ≤ 0 by omega) ?_
    refine wx_if_eq (tgt := 33) dX11_sight_15 (by decide) (fun c_15 => ?_) (fun c_15 => ?_)
    · replace h := it_t h c_15
      exact wx_sub (s_X11_sight_33 hS hd (show 0 + 0 ≤ 0 by omega) (show 0 + 0 ≤ 0 by omega) h g) (px_s rfl (px_s rfl (px_s rfl (px_s rfl px_0))))
    · replace h := it_f h c_15
      refine wx_iload_n dX11_sight_18 rfl ?_
      refine wx_iconst (v := 0) dX11_sight_19 (by decide) ?_
      refine wx_sipush (v := 10000) dX11_sight_20 (by decide) ?_
      obtain ⟨e_23, k_23, h⟩ := bd1_some h
      refine wx_cSi dX11_sight_23 ml_X11_65 my_X11_within sv_X11_within (s_X11_within (d := d - 1) hS (by omega) k_23) rfl (by omega) (by exact Nat.le_of_ble_eq_true rfl) (show 0 + 0 ≤ 0 by omega) (show 0 + 0 ≤ 0 by omega) ?_
      refine wx_if_eq (tgt := 33) dX11_sight_26 (by decide) (fun c_26 => ?_) (fun c_26 => ?_)
      · replace h := it_t h c_26
        exact wx_sub (s_X11_sight_33 hS hd (show 0 + 0 ≤ 0 by omega) (show 0 + 0 ≤ 0 by omega) h g) (px_s rfl (px_s rfl (px_s rfl (px_s rfl px_0))))
      · replace h := it_f h c_26
        refine wx_iconst (v := 1) dX11_sight_29 (by decide) ?_
        refine wx_goto (tgt := 34) dX11_sight_30 (by decide) ?_
        exact wx_sub (s_X11_sight_34 hS hd (show 0 + 0 ≤ 0 by omega) (show 0 + 0 ≤ 0 by omega) h g) (px_s rfl (px_s rfl (px_s rfl (px_s rfl px_0))))
theorem x_X11_sight {d : Nat} {X : Nat × (Nat → Int32)} {sh : px_Sh} {M : px_M} {L : px_L} {R : px_R} {n : Nat} {p1 : Int32} {p2 : Int32} {p3 : Int32} {e : Nat} (hS : SR sh R) (hd : 7 ≤ d) (h : f_X11_sight M p1 p2 p3 = some (.inr e)) : MXT yX11_sight cX11_sight 4 (some .int) d 1 6 X [.ref 0, .int p1, .int p2, .int p3] sh M L R n px_np (px_px (px_xn e) sh M L R n) := by
  refine MXT.of (by decide +kernel) (by exact Nat.le_of_ble_eq_true rfl) ?_
  have hcu : 0 ≤ 1 := Nat.zero_le _
  have hsu : 0 ≤ 6 := Nat.zero_le _
  have g : ∀ n', n ≤ n' → px_px (px_xn e) sh M L R n (px_xn e) sh M L R n' := fun n' hn => ⟨rfl, rfl, rfl, rfl, rfl, hn⟩
  unfold f_X11_sight at h
  refine wx_iload_n dX11_sight_0 rfl ?_
  obtain ⟨e_1, k_1, h⟩ := bd1_some h
  refine wx_cSi dX11_sight_1 ml_X11_169 my_X11_isSlant sv_X11_isSlant (s_X11_isSlant (d := d - 1) hS (by omega) k_1) rfl (by omega) (by exact Nat.le_of_ble_eq_true rfl) (show 0 + 0 ≤ 1 by omega) (show 0 + 0 ≤ 6 by omega) ?_
  refine wx_if_eq (tgt := 33) dX11_sight_4 (by decide) (fun c_4 => ?_) (fun c_4 => ?_)
  · replace h := it_t h c_4
    exact wx_sub (x_X11_sight_33 hS hd (show 0 + 1 ≤ 1 by omega) (show 0 + 6 ≤ 6 by omega) h g) (px_s rfl (px_s rfl (px_s rfl (px_s rfl px_0))))
  · replace h := it_f h c_4
    refine wx_iload_n dX11_sight_7 rfl ?_
    refine wx_iconst (v := 0) dX11_sight_8 (by decide) ?_
    refine wx_ldcw dX11_sight_9 ki_X11_269 ?_
    obtain ⟨e_12, k_12, h⟩ := bd1_some h
    refine wx_cSi dX11_sight_12 ml_X11_65 my_X11_within sv_X11_within (s_X11_within (d := d - 1) hS (by omega) k_12) rfl (by omega) (by exact Nat.le_of_ble_eq_true rfl) (show 0 + 0 ≤ 1 by omega) (show 0 + 0 ≤ 6 by omega) ?_
    refine wx_if_eq (tgt := 33) dX11_sight_15 (by decide) (fun c_15 => ?_) (fun c_15 => ?_)
    · replace h := it_t h c_15
      exact wx_sub (x_X11_sight_33 hS hd (show 0 + 1 ≤ 1 by omega) (show 0 + 6 ≤ 6 by omega) h g) (px_s rfl (px_s rfl (px_s rfl (px_s rfl px_0))))
    · replace h := it_f h c_15
      refine wx_iload_n dX11_sight_18 rfl ?_
      refine wx_iconst (v := 0) dX11_sight_19 (by decide) ?_
      refine wx_sipush (v := 10000) dX11_sight_20 (by decide) ?_
      obtain ⟨e_23, k_23, h⟩ := bd1_some h
      refine wx_cSi dX11_sight_23 ml_X11_65 my_X11_within sv_X11_within (s_X11_within (d := d - 1) hS (by omega) k_23) rfl (by omega) (by exact Nat.le_of_ble_eq_true rfl) (show 0 + 0 ≤ 1 by omega) (show 0 + 0 ≤ 6 by omega) ?_
      refine wx_if_eq (tgt := 33) dX11_sight_26 (by decide) (fun c_26 => ?_) (fun c_26 => ?_)
      · replace h := it_t h c_26
        exact wx_sub (x_X11_sight_33 hS hd (show 0 + 1 ≤ 1 by omega) (show 0 + 6 ≤ 6 by omega) h g) (px_s rfl (px_s rfl (px_s rfl (px_s rfl px_0))))
      · replace h := it_f h c_26
        refine wx_iconst (v := 1) dX11_sight_29 (by decide) ?_
        refine wx_goto (tgt := 34) dX11_sight_30 (by decide) ?_
        exact wx_sub (x_X11_sight_34 hS hd (show 0 + 1 ≤ 1 by omega) (show 0 + 6 ≤ 6 by omega) h g) (px_s rfl (px_s rfl (px_s rfl (px_s rfl px_0))))
noncomputable def f_X11_fits_8 (sh : px_Sh) (M : px_M) (R : px_R) (x1 : Int32) : Option (Int32 × px_M) :=
  bd1 (f_X3_findFits sh M R x1) fun e_17 =>
  some (e_17.1, e_17.2)
theorem s_X11_fits_8 {x1 : Int32} {M : px_M} {L : px_L} {R : px_R} {e : (Int32 × px_M)} (hS : SR sh R) (hd : 7 ≤ d) (hcu : cu ≤ mc) (hsu : su ≤ ms) (h : f_X11_fits_8 sh M R x1 = some e) (g : Post (some (.int (e.1))) sh (e.2) L R n) : WX RX11 cX11_fits 2 (some .int) ("fits", []) d mc ms X (px_QF Post mc ms) 8 [(0, .ref 0), (1, .int x1)] [] sh M L R n cu su := by
  unfold f_X11_fits_8 at h
  refine wx_aload_n dX11_fits_8 rfl ?_
  refine wx_getR dX11_fits_9 fl_X11_40 (sc_0 hS) rfl (rr_0_4 hS) ?_
  refine wx_aload_n dX11_fits_12 rfl ?_
  refine wx_getR dX11_fits_13 fl_X11_19 (sc_0 hS) rfl (rr_0_1 hS) ?_
  refine wx_iload_n dX11_fits_16 rfl ?_
  obtain ⟨e_17, k_17, h⟩ := bd1_some h
  refine wx_cVi dX11_fits_17 ml_X11_276 my_X3_findFits iv_X3_findFits (sc_27 hS) (by decide) (s_X3_findFits (d := d - 1) hS (by omega) k_17) rfl (by omega) (by exact Nat.le_of_ble_eq_true rfl) hcu hsu ?_
  refine wx_iret dX11_fits_20 hcu hsu ?_
  obtain rfl := Option.some.inj h
  exact g
noncomputable def f_X11_fits (sh : px_Sh) (M : px_M) (R : px_R) (p1 : Int32) : Option ((Int32 × px_M) ⊕ Nat) :=
  bd1 (f_X11_isFitLength M p1) fun e_2 =>
  if e_2 = 0 then some (.inr 0) else
  bd1 (f_X11_fits_8 sh M R p1) fun r_8 => some (.inl r_8)
theorem s_X11_fits {d : Nat} {X : Nat × (Nat → Int32)} {sh : px_Sh} {M : px_M} {L : px_L} {R : px_R} {n : Nat} {p1 : Int32} {e : Int32 × px_M} (hS : SR sh R) (hd : 7 ≤ d) (h : f_X11_fits sh M R p1 = some (.inl e)) : MXT yX11_fits cX11_fits 2 (some .int) d 0 0 X [.ref 0, .int p1] sh M L R n (px_pu (some (.int e.1)) sh e.2 L R n) px_nx := by
  refine MXT.of (by decide +kernel) (by exact Nat.le_of_ble_eq_true rfl) ?_
  have hcu : 0 ≤ 0 := Nat.zero_le _
  have hsu : 0 ≤ 0 := Nat.zero_le _
  have g : px_pu (some (.int e.1)) sh e.2 L R n (some (.int e.1)) sh e.2 L R n := ⟨rfl, rfl, rfl, rfl, rfl, rfl⟩
  unfold f_X11_fits at h
  refine wx_aload_n dX11_fits_0 rfl ?_
  refine wx_iload_n dX11_fits_1 rfl ?_
  obtain ⟨e_2, k_2, h⟩ := bd1_some h
  refine wx_cVi dX11_fits_2 ml_X11_273 my_X11_isFitLength iv_X11_isFitLength (sc_0 hS) (by decide) (s_X11_isFitLength (d := d - 1) hS (by omega) k_2) rfl (by omega) (by exact Nat.le_of_ble_eq_true rfl) (show 0 + 0 ≤ 0 by omega) (show 0 + 0 ≤ 0 by omega) ?_
  by_cases c_5 : e_2 = 0
  · replace h := it_t h c_5
    cases h
  replace h := it_f h c_5
  refine wx_needT dX11_fits_5 nl_needArgument my_X11_needArgument sv_X11_needArgument (mT_needArgument (d := d - 1) c_5) (by omega) (by exact Nat.le_of_ble_eq_true rfl) (show 0 + 0 ≤ 0 by omega) (show 0 + 0 ≤ 0 by omega) ?_
  obtain ⟨r_8, k_8, h⟩ := bd1_some h
  cases h
  exact wx_rx (wx_sub (s_X11_fits_8 hS hd (show 0 + 0 ≤ 0 by omega) (show 0 + 0 ≤ 0 by omega) k_8 g) (px_s rfl (px_s rfl px_0)))
theorem x_X11_fits {d : Nat} {X : Nat × (Nat → Int32)} {sh : px_Sh} {M : px_M} {L : px_L} {R : px_R} {n : Nat} {p1 : Int32} {e : Nat} (hS : SR sh R) (hd : 7 ≤ d) (h : f_X11_fits sh M R p1 = some (.inr e)) : MXT yX11_fits cX11_fits 2 (some .int) d 1 6 X [.ref 0, .int p1] sh M L R n px_np (px_px (px_xn e) sh M L R n) := by
  refine MXT.of (by decide +kernel) (by exact Nat.le_of_ble_eq_true rfl) ?_
  have hcu : 0 ≤ 1 := Nat.zero_le _
  have hsu : 0 ≤ 6 := Nat.zero_le _
  have g : ∀ n', n ≤ n' → px_px (px_xn e) sh M L R n (px_xn e) sh M L R n' := fun n' hn => ⟨rfl, rfl, rfl, rfl, rfl, hn⟩
  unfold f_X11_fits at h
  refine wx_aload_n dX11_fits_0 rfl ?_
  refine wx_iload_n dX11_fits_1 rfl ?_
  obtain ⟨e_2, k_2, h⟩ := bd1_some h
  refine wx_cVi dX11_fits_2 ml_X11_273 my_X11_isFitLength iv_X11_isFitLength (sc_0 hS) (by decide) (s_X11_isFitLength (d := d - 1) hS (by omega) k_2) rfl (by omega) (by exact Nat.le_of_ble_eq_true rfl) (show 0 + 0 ≤ 1 by omega) (show 0 + 0 ≤ 6 by omega) ?_
  by_cases c_5 : e_2 = 0
  · replace h := it_t h c_5
    obtain rfl := Sum.inr.inj (Option.some.inj h)
    exact wx_needF dX11_fits_5 nl_needArgument my_X11_needArgument sv_X11_needArgument (mF_needArgument (d := d - 1) (by omega) c_5) (by omega) (by exact Nat.le_of_ble_eq_true rfl) (show 0 + 1 ≤ 1 by omega) (show 0 + 6 ≤ 6 by omega) g
  replace h := it_f h c_5
  refine wx_needT dX11_fits_5 nl_needArgument my_X11_needArgument sv_X11_needArgument (mT_needArgument (d := d - 1) c_5) (by omega) (by exact Nat.le_of_ble_eq_true rfl) (show 0 + 0 ≤ 1 by omega) (show 0 + 0 ≤ 6 by omega) ?_
  obtain ⟨r_8, k_8, h⟩ := bd1_some h
  cases h
noncomputable def f_X11_fit_47 (sh : px_Sh) (M : px_M) (R : px_R) (z0 : Int32) : Option (Int32 × px_M) :=
  some (z0, M)
theorem s_X11_fit_47 {z0 : Int32} {M : px_M} {L : px_L} {R : px_R} {e : (Int32 × px_M)} (hS : SR sh R) (hd : 7 ≤ d) (hcu : cu ≤ mc) (hsu : su ≤ ms) (h : f_X11_fit_47 sh M R z0 = some e) (g : Post (some (.int (e.1))) sh (e.2) L R n) : WX RX11 cX11_fit 3 (some .int) ("fit", []) d mc ms X (px_QF Post mc ms) 47 [] [.int z0] sh M L R n cu su := by
  unfold f_X11_fit_47 at h
  refine wx_iret dX11_fit_47 hcu hsu ?_
  obtain rfl := Option.some.inj h
  exact g
noncomputable def f_X11_fit_46 (sh : px_Sh) (M : px_M) (R : px_R) : Option (Int32 × px_M) :=
  f_X11_fit_47 sh M R (-1)
theorem s_X11_fit_46 {M : px_M} {L : px_L} {R : px_R} {e : (Int32 × px_M)} (hS : SR sh R) (hd : 7 ≤ d) (hcu : cu ≤ mc) (hsu : su ≤ ms) (h : f_X11_fit_46 sh M R = some e) (g : Post (some (.int (e.1))) sh (e.2) L R n) : WX RX11 cX11_fit 3 (some .int) ("fit", []) d mc ms X (px_QF Post mc ms) 46 [] [] sh M L R n cu su := by
  unfold f_X11_fit_46 at h
  refine wx_iconst (v := (-1)) dX11_fit_46 (by decide) ?_
  exact wx_sub (s_X11_fit_47 hS hd hcu hsu h g) px_0
noncomputable def f_X11_fit_8 (sh : px_Sh) (M : px_M) (R : px_R) (x1 : Int32) (x2 : Int32) : Option (Int32 × px_M) :=
  bd1 (f_X11_within x2 0 (x1 - 1)) fun e_13 =>
  if e_13 = 0 then
    f_X11_fit_46 sh M R
  else
    bd1 (f_X3_findFits sh M R x1) fun e_28 =>
    if e_28.1 ≤ 0 then
      f_X11_fit_46 sh e_28.2 R
    else
      bd1 (f_X3_coatOf e_28.2 0 x2) fun e_40 =>
      f_X11_fit_47 sh e_28.2 R e_40
theorem s_X11_fit_8 {x1 : Int32} {x2 : Int32} {M : px_M} {L : px_L} {R : px_R} {e : (Int32 × px_M)} (hS : SR sh R) (hd : 7 ≤ d) (hcu : cu ≤ mc) (hsu : su ≤ ms) (h : f_X11_fit_8 sh M R x1 x2 = some e) (g : Post (some (.int (e.1))) sh (e.2) L R n) : WX RX11 cX11_fit 3 (some .int) ("fit", []) d mc ms X (px_QF Post mc ms) 8 [(0, .ref 0), (1, .int x1), (2, .int x2)] [] sh M L R n cu su := by
  unfold f_X11_fit_8 at h
  refine wx_iload_n dX11_fit_8 rfl ?_
  refine wx_iconst (v := 0) dX11_fit_9 (by decide) ?_
  refine wx_iload_n dX11_fit_10 rfl ?_
  refine wx_iconst (v := 1) dX11_fit_11 (by decide) ?_
  refine wx_isub dX11_fit_12 ?_
  obtain ⟨e_13, k_13, h⟩ := bd1_some h
  refine wx_cSi dX11_fit_13 ml_X11_65 my_X11_within sv_X11_within (s_X11_within (d := d - 1) hS (by omega) k_13) rfl (by omega) (by exact Nat.le_of_ble_eq_true rfl) hcu hsu ?_
  refine wx_if_eq (tgt := 46) dX11_fit_16 (by decide) (fun c_16 => ?_) (fun c_16 => ?_)
  · replace h := it_t h c_16
    exact wx_sub (s_X11_fit_46 hS hd hcu hsu h g) px_0
  · replace h := it_f h c_16
    refine wx_aload_n dX11_fit_19 rfl ?_
    refine wx_getR dX11_fit_20 fl_X11_40 (sc_0 hS) rfl (rr_0_4 hS) ?_
    refine wx_aload_n dX11_fit_23 rfl ?_
    refine wx_getR dX11_fit_24 fl_X11_19 (sc_0 hS) rfl (rr_0_1 hS) ?_
    refine wx_iload_n dX11_fit_27 rfl ?_
    obtain ⟨e_28, k_28, h⟩ := bd1_some h
    refine wx_cVi dX11_fit_28 ml_X11_276 my_X3_findFits iv_X3_findFits (sc_27 hS) (by decide) (s_X3_findFits (d := d - 1) hS (by omega) k_28) rfl (by omega) (by exact Nat.le_of_ble_eq_true rfl) hcu hsu ?_
    refine wx_if_le (tgt := 46) dX11_fit_31 (by decide) (fun c_31 => ?_) (fun c_31 => ?_)
    · replace h := it_t h c_31
      exact wx_sub (s_X11_fit_46 hS hd hcu hsu h g) px_0
    · replace h := it_f h c_31
      refine wx_aload_n dX11_fit_34 rfl ?_
      refine wx_getR dX11_fit_35 fl_X11_40 (sc_0 hS) rfl (rr_0_4 hS) ?_
      refine wx_iconst (v := 0) dX11_fit_38 (by decide) ?_
      refine wx_iload_n dX11_fit_39 rfl ?_
      obtain ⟨e_40, k_40, h⟩ := bd1_some h
      refine wx_cVi dX11_fit_40 ml_X11_280 my_X3_coatOf iv_X3_coatOf (sc_27 hS) (by decide) (s_X3_coatOf (d := d - 1) hS (by omega) k_40) rfl (by omega) (by exact Nat.le_of_ble_eq_true rfl) hcu hsu ?_
      refine wx_goto (tgt := 47) dX11_fit_43 (by decide) ?_
      exact wx_sub (s_X11_fit_47 hS hd hcu hsu h g) px_0
noncomputable def f_X11_fit (sh : px_Sh) (M : px_M) (R : px_R) (p1 : Int32) (p2 : Int32) : Option ((Int32 × px_M) ⊕ Nat) :=
  bd1 (f_X11_isFitLength M p1) fun e_2 =>
  if e_2 = 0 then some (.inr 0) else
  bd1 (f_X11_fit_8 sh M R p1 p2) fun r_8 => some (.inl r_8)
theorem s_X11_fit {d : Nat} {X : Nat × (Nat → Int32)} {sh : px_Sh} {M : px_M} {L : px_L} {R : px_R} {n : Nat} {p1 : Int32} {p2 : Int32} {e : Int32 × px_M} (hS : SR sh R) (hd : 7 ≤ d) (h : f_X11_fit sh M R p1 p2 = some (.inl e)) : MXT yX11_fit cX11_fit 3 (some .int) d 0 0 X [.ref 0, .int p1, .int p2] sh M L R n (px_pu (some (.int e.1)) sh e.2 L R n) px_nx := by
  refine MXT.of (by decide +kernel) (by exact Nat.le_of_ble_eq_true rfl) ?_
  have hcu : 0 ≤ 0 := Nat.zero_le _
  have hsu : 0 ≤ 0 := Nat.zero_le _
  have g : px_pu (some (.int e.1)) sh e.2 L R n (some (.int e.1)) sh e.2 L R n := ⟨rfl, rfl, rfl, rfl, rfl, rfl⟩
  unfold f_X11_fit at h
  refine wx_aload_n dX11_fit_0 rfl ?_
  refine wx_iload_n dX11_fit_1 rfl ?_
  obtain ⟨e_2, k_2, h⟩ := bd1_some h
  refine wx_cVi dX11_fit_2 ml_X11_273 my_X11_isFitLength iv_X11_isFitLength (sc_0 hS) (by decide) (s_X11_isFitLength (d := d - 1) hS (by omega) k_2) rfl (by omega) (by exact Nat.le_of_ble_eq_true rfl) (show 0 + 0 ≤ 0 by omega) (show 0 + 0 ≤ 0 by omega) ?_
  by_cases c_5 : e_2 = 0
  · replace h := it_t h c_5
    cases h
  replace h := it_f h c_5
  refine wx_needT dX11_fit_5 nl_needArgument my_X11_needArgument sv_X11_needArgument (mT_needArgument (d := d - 1) c_5) (by omega) (by exact Nat.le_of_ble_eq_true rfl) (show 0 + 0 ≤ 0 by omega) (show 0 + 0 ≤ 0 by omega) ?_
  obtain ⟨r_8, k_8, h⟩ := bd1_some h
  cases h
  exact wx_rx (wx_sub (s_X11_fit_8 hS hd (show 0 + 0 ≤ 0 by omega) (show 0 + 0 ≤ 0 by omega) k_8 g) (px_s rfl (px_s rfl (px_s rfl px_0))))
theorem x_X11_fit {d : Nat} {X : Nat × (Nat → Int32)} {sh : px_Sh} {M : px_M} {L : px_L} {R : px_R} {n : Nat} {p1 : Int32} {p2 : Int32} {e : Nat} (hS : SR sh R) (hd : 7 ≤ d) (h : f_X11_fit sh M R p1 p2 = some (.inr e)) : MXT yX11_fit cX11_fit 3 (some .int) d 1 6 X [.ref 0, .int p1, .int p2] sh M L R n px_np (px_px (px_xn e) sh M L R n) := by
  refine MXT.of (by decide +kernel) (by exact Nat.le_of_ble_eq_true rfl) ?_
  have hcu : 0 ≤ 1 := Nat.zero_le _
  have hsu : 0 ≤ 6 := Nat.zero_le _
  have g : ∀ n', n ≤ n' → px_px (px_xn e) sh M L R n (px_xn e) sh M L R n' := fun n' hn => ⟨rfl, rfl, rfl, rfl, rfl, hn⟩
  unfold f_X11_fit at h
  refine wx_aload_n dX11_fit_0 rfl ?_
  refine wx_iload_n dX11_fit_1 rfl ?_
  obtain ⟨e_2, k_2, h⟩ := bd1_some h
  refine wx_cVi dX11_fit_2 ml_X11_273 my_X11_isFitLength iv_X11_isFitLength (sc_0 hS) (by decide) (s_X11_isFitLength (d := d - 1) hS (by omega) k_2) rfl (by omega) (by exact Nat.le_of_ble_eq_true rfl) (show 0 + 0 ≤ 1 by omega) (show 0 + 0 ≤ 6 by omega) ?_
  by_cases c_5 : e_2 = 0
  · replace h := it_t h c_5
    obtain rfl := Sum.inr.inj (Option.some.inj h)
    exact wx_needF dX11_fit_5 nl_needArgument my_X11_needArgument sv_X11_needArgument (mF_needArgument (d := d - 1) (by omega) c_5) (by omega) (by exact Nat.le_of_ble_eq_true rfl) (show 0 + 1 ≤ 1 by omega) (show 0 + 6 ≤ 6 by omega) g
  replace h := it_f h c_5
  refine wx_needT dX11_fit_5 nl_needArgument my_X11_needArgument sv_X11_needArgument (mT_needArgument (d := d - 1) c_5) (by omega) (by exact Nat.le_of_ble_eq_true rfl) (show 0 + 0 ≤ 1 by omega) (show 0 + 0 ≤ 6 by omega) ?_
  obtain ⟨r_8, k_8, h⟩ := bd1_some h
  cases h
noncomputable def f_X11_shows_36 (sh : px_Sh) (M : px_M) (L : px_L) (R : px_R) (z0 : Int32) : Option (Int32 × px_M × px_L) :=
  some (z0, M, L)
theorem s_X11_shows_36 {z0 : Int32} {M : px_M} {L : px_L} {R : px_R} {e : (Int32 × px_M × px_L)} (hS : SR sh R) (hd : 7 ≤ d) (hcu : cu ≤ mc) (hsu : su ≤ ms) (h : f_X11_shows_36 sh M L R z0 = some e) (g : Post (some (.int (e.1))) sh (e.2.1) (e.2.2) R n) : WX RX11 cX11_shows 2 (some .int) ("shows", []) d mc ms X (px_QF Post mc ms) 36 [] [.int z0] sh M L R n cu su := by
  unfold f_X11_shows_36 at h
  refine wx_iret dX11_shows_36 hcu hsu ?_
  obtain rfl := Option.some.inj h
  exact g
noncomputable def f_X11_shows_8 (sh : px_Sh) (M : px_M) (L : px_L) (R : px_R) (x1 : Int32) : Option (Int32 × px_M × px_L) :=
  bd1 (f_X3_findFits sh M R x1) fun e_17 =>
  if e_17.1 ≤ 0 then
    f_X11_shows_36 sh e_17.2 L R (-9)
  else
    bd1 (f_X3_bestSlant e_17.2 L x1) fun e_28 =>
    f_X11_shows_36 sh e_17.2 e_28.2 R e_28.1
theorem s_X11_shows_8 {x1 : Int32} {M : px_M} {L : px_L} {R : px_R} {e : (Int32 × px_M × px_L)} (hS : SR sh R) (hd : 7 ≤ d) (hcu : cu ≤ mc) (hsu : su ≤ ms) (h : f_X11_shows_8 sh M L R x1 = some e) (g : Post (some (.int (e.1))) sh (e.2.1) (e.2.2) R n) : WX RX11 cX11_shows 2 (some .int) ("shows", []) d mc ms X (px_QF Post mc ms) 8 [(0, .ref 0), (1, .int x1)] [] sh M L R n cu su := by
  unfold f_X11_shows_8 at h
  refine wx_aload_n dX11_shows_8 rfl ?_
  refine wx_getR dX11_shows_9 fl_X11_40 (sc_0 hS) rfl (rr_0_4 hS) ?_
  refine wx_aload_n dX11_shows_12 rfl ?_
  refine wx_getR dX11_shows_13 fl_X11_19 (sc_0 hS) rfl (rr_0_1 hS) ?_
  refine wx_iload_n dX11_shows_16 rfl ?_
  obtain ⟨e_17, k_17, h⟩ := bd1_some h
  refine wx_cVi dX11_shows_17 ml_X11_276 my_X3_findFits iv_X3_findFits (sc_27 hS) (by decide) (s_X3_findFits (d := d - 1) hS (by omega) k_17) rfl (by omega) (by exact Nat.le_of_ble_eq_true rfl) hcu hsu ?_
  refine wx_if_le (tgt := 34) dX11_shows_20 (by decide) (fun c_20 => ?_) (fun c_20 => ?_)
  · replace h := it_t h c_20
    refine wx_bipush (v := (-9)) dX11_shows_34 (by decide) ?_
    exact wx_sub (s_X11_shows_36 hS hd hcu hsu h g) px_0
  · replace h := it_f h c_20
    refine wx_aload_n dX11_shows_23 rfl ?_
    refine wx_getR dX11_shows_24 fl_X11_40 (sc_0 hS) rfl (rr_0_4 hS) ?_
    refine wx_iload_n dX11_shows_27 rfl ?_
    obtain ⟨e_28, k_28, h⟩ := bd1_some h
    refine wx_cVi dX11_shows_28 ml_X11_283 my_X3_bestSlant iv_X3_bestSlant (sc_27 hS) (by decide) (s_X3_bestSlant (d := d - 1) hS (by omega) k_28) rfl (by omega) (by exact Nat.le_of_ble_eq_true rfl) hcu hsu ?_
    refine wx_goto (tgt := 36) dX11_shows_31 (by decide) ?_
    exact wx_sub (s_X11_shows_36 hS hd hcu hsu h g) px_0
noncomputable def f_X11_shows (sh : px_Sh) (M : px_M) (L : px_L) (R : px_R) (p1 : Int32) : Option ((Int32 × px_M × px_L) ⊕ Nat) :=
  bd1 (f_X11_isFitLength M p1) fun e_2 =>
  if e_2 = 0 then some (.inr 0) else
  bd1 (f_X11_shows_8 sh M L R p1) fun r_8 => some (.inl r_8)
theorem s_X11_shows {d : Nat} {X : Nat × (Nat → Int32)} {sh : px_Sh} {M : px_M} {L : px_L} {R : px_R} {n : Nat} {p1 : Int32} {e : Int32 × px_M × px_L} (hS : SR sh R) (hd : 7 ≤ d) (h : f_X11_shows sh M L R p1 = some (.inl e)) : MXT yX11_shows cX11_shows 2 (some .int) d 0 0 X [.ref 0, .int p1] sh M L R n (px_pu (some (.int e.1)) sh e.2.1 e.2.2 R n) px_nx := by
  refine MXT.of (by decide +kernel) (by exact Nat.le_of_ble_eq_true rfl) ?_
  have hcu : 0 ≤ 0 := Nat.zero_le _
  have hsu : 0 ≤ 0 := Nat.zero_le _
  have g : px_pu (some (.int e.1)) sh e.2.1 e.2.2 R n (some (.int e.1)) sh e.2.1 e.2.2 R n := ⟨rfl, rfl, rfl, rfl, rfl, rfl⟩
  unfold f_X11_shows at h
  refine wx_aload_n dX11_shows_0 rfl ?_
  refine wx_iload_n dX11_shows_1 rfl ?_
  obtain ⟨e_2, k_2, h⟩ := bd1_some h
  refine wx_cVi dX11_shows_2 ml_X11_273 my_X11_isFitLength iv_X11_isFitLength (sc_0 hS) (by decide) (s_X11_isFitLength (d := d - 1) hS (by omega) k_2) rfl (by omega) (by exact Nat.le_of_ble_eq_true rfl) (show 0 + 0 ≤ 0 by omega) (show 0 + 0 ≤ 0 by omega) ?_
  by_cases c_5 : e_2 = 0
  · replace h := it_t h c_5
    cases h
  replace h := it_f h c_5
  refine wx_needT dX11_shows_5 nl_needArgument my_X11_needArgument sv_X11_needArgument (mT_needArgument (d := d - 1) c_5) (by omega) (by exact Nat.le_of_ble_eq_true rfl) (show 0 + 0 ≤ 0 by omega) (show 0 + 0 ≤ 0 by omega) ?_
  obtain ⟨r_8, k_8, h⟩ := bd1_some h
  cases h
  exact wx_rx (wx_sub (s_X11_shows_8 hS hd (show 0 + 0 ≤ 0 by omega) (show 0 + 0 ≤ 0 by omega) k_8 g) (px_s rfl (px_s rfl px_0)))
theorem x_X11_shows {d : Nat} {X : Nat × (Nat → Int32)} {sh : px_Sh} {M : px_M} {L : px_L} {R : px_R} {n : Nat} {p1 : Int32} {e : Nat} (hS : SR sh R) (hd : 7 ≤ d) (h : f_X11_shows sh M L R p1 = some (.inr e)) : MXT yX11_shows cX11_shows 2 (some .int) d 1 6 X [.ref 0, .int p1] sh M L R n px_np (px_px (px_xn e) sh M L R n) := by
  refine MXT.of (by decide +kernel) (by exact Nat.le_of_ble_eq_true rfl) ?_
  have hcu : 0 ≤ 1 := Nat.zero_le _
  have hsu : 0 ≤ 6 := Nat.zero_le _
  have g : ∀ n', n ≤ n' → px_px (px_xn e) sh M L R n (px_xn e) sh M L R n' := fun n' hn => ⟨rfl, rfl, rfl, rfl, rfl, hn⟩
  unfold f_X11_shows at h
  refine wx_aload_n dX11_shows_0 rfl ?_
  refine wx_iload_n dX11_shows_1 rfl ?_
  obtain ⟨e_2, k_2, h⟩ := bd1_some h
  refine wx_cVi dX11_shows_2 ml_X11_273 my_X11_isFitLength iv_X11_isFitLength (sc_0 hS) (by decide) (s_X11_isFitLength (d := d - 1) hS (by omega) k_2) rfl (by omega) (by exact Nat.le_of_ble_eq_true rfl) (show 0 + 0 ≤ 1 by omega) (show 0 + 0 ≤ 6 by omega) ?_
  by_cases c_5 : e_2 = 0
  · replace h := it_t h c_5
    obtain rfl := Sum.inr.inj (Option.some.inj h)
    exact wx_needF dX11_shows_5 nl_needArgument my_X11_needArgument sv_X11_needArgument (mF_needArgument (d := d - 1) (by omega) c_5) (by omega) (by exact Nat.le_of_ble_eq_true rfl) (show 0 + 1 ≤ 1 by omega) (show 0 + 6 ≤ 6 by omega) g
  replace h := it_f h c_5
  refine wx_needT dX11_shows_5 nl_needArgument my_X11_needArgument sv_X11_needArgument (mT_needArgument (d := d - 1) c_5) (by omega) (by exact Nat.le_of_ble_eq_true rfl) (show 0 + 0 ≤ 1 by omega) (show 0 + 0 ≤ 6 by omega) ?_
  obtain ⟨r_8, k_8, h⟩ := bd1_some h
  cases h
noncomputable def f_X11_knot_28 (M : px_M) (x1 : Int32) (x2 : Int32) (x3 : Int32) : Option (Int32 × px_M) :=
  bd1 (f_X4_addKnot M x1 x2 x3) fun e_35 =>
  some (e_35.1, e_35.2)
theorem s_X11_knot_28 {x1 : Int32} {x2 : Int32} {x3 : Int32} {M : px_M} {L : px_L} {R : px_R} {e : (Int32 × px_M)} (hS : SR sh R) (hd : 7 ≤ d) (hcu : cu ≤ mc) (hsu : su ≤ ms) (h : f_X11_knot_28 M x1 x2 x3 = some e) (g : Post (some (.int (e.1))) sh (e.2) L R n) : WX RX11 cX11_knot 4 (some .int) ("knot", []) d mc ms X (px_QF Post mc ms) 28 [(0, .ref 0), (1, .int x1), (2, .int x2), (3, .int x3)] [] sh M L R n cu su := by
  unfold f_X11_knot_28 at h
  refine wx_aload_n dX11_knot_28 rfl ?_
  refine wx_getR dX11_knot_29 fl_X11_47 (sc_0 hS) rfl (rr_0_5 hS) ?_
  refine wx_iload_n dX11_knot_32 rfl ?_
  refine wx_iload_n dX11_knot_33 rfl ?_
  refine wx_iload_n dX11_knot_34 rfl ?_
  obtain ⟨e_35, k_35, h⟩ := bd1_some h
  refine wx_cVi dX11_knot_35 ml_X11_286 my_X4_addKnot iv_X4_addKnot (sc_40 hS) (by decide) (s_X4_addKnot (d := d - 1) hS (by omega) k_35) rfl (by omega) (by exact Nat.le_of_ble_eq_true rfl) hcu hsu ?_
  refine wx_iret dX11_knot_38 hcu hsu ?_
  obtain rfl := Option.some.inj h
  exact g
noncomputable def f_X11_knot_25 (M : px_M) (x1 : Int32) (x2 : Int32) (x3 : Int32) (z0 : Int32) : Option ((Int32 × px_M) ⊕ Nat) :=
  if z0 = 0 then some (.inr 0) else
  bd1 (f_X11_knot_28 M x1 x2 x3) fun r_28 => some (.inl r_28)
theorem s_X11_knot_25 {x1 : Int32} {x2 : Int32} {x3 : Int32} {z0 : Int32} {PX : px_PX} {M : px_M} {L : px_L} {R : px_R} {e : Int32 × px_M} (hS : SR sh R) (hd : 7 ≤ d) (hcu : cu ≤ mc) (hsu : su ≤ ms) (h : f_X11_knot_25 M x1 x2 x3 z0 = some (.inl e)) (g : Post (some (.int (e.1))) sh (e.2) L R n) : WX RX11 cX11_knot 4 (some .int) ("knot", []) d mc ms X (px_QX Post PX mc ms) 25 [(0, .ref 0), (1, .int x1), (2, .int x2), (3, .int x3)] [.int z0] sh M L R n cu su := by
  unfold f_X11_knot_25 at h
  by_cases c_25 : z0 = 0
  · replace h := it_t h c_25
    cases h
  replace h := it_f h c_25
  refine wx_needT dX11_knot_25 nl_needArgument my_X11_needArgument sv_X11_needArgument (mT_needArgument (d := d - 1) c_25) (by omega) (by exact Nat.le_of_ble_eq_true rfl) (show cu + 0 ≤ mc by omega) (show su + 0 ≤ ms by omega) ?_
  obtain ⟨r_28, k_28, h⟩ := bd1_some h
  cases h
  exact wx_rx (wx_sub (s_X11_knot_28 hS hd (show cu + 0 ≤ mc by omega) (show su + 0 ≤ ms by omega) k_28 g) (px_s rfl (px_s rfl (px_s rfl (px_s rfl px_0)))))
theorem x_X11_knot_25 {x1 : Int32} {x2 : Int32} {x3 : Int32} {z0 : Int32} {PX : px_PX} {M : px_M} {L : px_L} {R : px_R} {e : Nat} (hS : SR sh R) (hd : 7 ≤ d) (hcu : cu + 1 ≤ mc) (hsu : su + 6 ≤ ms) (h : f_X11_knot_25 M x1 x2 x3 z0 = some (.inr e)) (g : ∀ n', n ≤ n' → PX (px_xn e) sh M L R n') : WX RX11 cX11_knot 4 (some .int) ("knot", []) d mc ms X (px_QX Post PX mc ms) 25 [(0, .ref 0), (1, .int x1), (2, .int x2), (3, .int x3)] [.int z0] sh M L R n cu su := by
  unfold f_X11_knot_25 at h
  by_cases c_25 : z0 = 0
  · replace h := it_t h c_25
    obtain rfl := Sum.inr.inj (Option.some.inj h)
    exact wx_needF dX11_knot_25 nl_needArgument my_X11_needArgument sv_X11_needArgument (mF_needArgument (d := d - 1) (by omega) c_25) (by omega) (by exact Nat.le_of_ble_eq_true rfl) (show cu + 1 ≤ mc by omega) (show su + 6 ≤ ms by omega) g
  replace h := it_f h c_25
  refine wx_needT dX11_knot_25 nl_needArgument my_X11_needArgument sv_X11_needArgument (mT_needArgument (d := d - 1) c_25) (by omega) (by exact Nat.le_of_ble_eq_true rfl) (show cu + 0 ≤ mc by omega) (show su + 0 ≤ ms by omega) ?_
  obtain ⟨r_28, k_28, h⟩ := bd1_some h
  cases h
noncomputable def f_X11_knot_24 (M : px_M) (x1 : Int32) (x2 : Int32) (x3 : Int32) : Option ((Int32 × px_M) ⊕ Nat) :=
  f_X11_knot_25 M x1 x2 x3 0
theorem s_X11_knot_24 {x1 : Int32} {x2 : Int32} {x3 : Int32} {PX : px_PX} {M : px_M} {L : px_L} {R : px_R} {e : Int32 × px_M} (hS : SR sh R) (hd : 7 ≤ d) (hcu : cu ≤ mc) (hsu : su ≤ ms) (h : f_X11_knot_24 M x1 x2 x3 = some (.inl e)) (g : Post (some (.int (e.1))) sh (e.2) L R n) : WX RX11 cX11_knot 4 (some .int) ("knot", []) d mc ms X (px_QX Post PX mc ms) 24 [(0, .ref 0), (1, .int x1), (2, .int x2), (3, .int x3)] [] sh M L R n cu su := by
  unfold f_X11_knot_24 at h
  refine wx_iconst (v := 0) dX11_knot_24 (by decide) ?_
  exact wx_sub (s_X11_knot_25 hS hd (show cu + 0 ≤ mc by omega) (show su + 0 ≤ ms by omega) h g) (px_s rfl (px_s rfl (px_s rfl (px_s rfl px_0))))
theorem x_X11_knot_24 {x1 : Int32} {x2 : Int32} {x3 : Int32} {PX : px_PX} {M : px_M} {L : px_L} {R : px_R} {e : Nat} (hS : SR sh R) (hd : 7 ≤ d) (hcu : cu + 1 ≤ mc) (hsu : su + 6 ≤ ms) (h : f_X11_knot_24 M x1 x2 x3 = some (.inr e)) (g : ∀ n', n ≤ n' → PX (px_xn e) sh M L R n') : WX RX11 cX11_knot 4 (some .int) ("knot", []) d mc ms X (px_QX Post PX mc ms) 24 [(0, .ref 0), (1, .int x1), (2, .int x2), (3, .int x3)] [] sh M L R n cu su := by
  unfold f_X11_knot_24 at h
  refine wx_iconst (v := 0) dX11_knot_24 (by decide) ?_
  exact wx_sub (x_X11_knot_25 hS hd (show cu + 1 ≤ mc by omega) (show su + 6 ≤ ms by omega) h g) (px_s rfl (px_s rfl (px_s rfl (px_s rfl px_0))))
noncomputable def f_X11_knot (M : px_M) (p1 : Int32) (p2 : Int32) (p3 : Int32) : Option ((Int32 × px_M) ⊕ Nat) :=
  bd1 (f_X11_within p1 (-5) 5) fun e_4 =>
  if e_4 = 0 then
    f_X11_knot_24 M p1 p2 p3
  else
    bd1 (f_X11_within p2 (-5) 5) fun e_14 =>
    if e_14 = 0 then
      f_X11_knot_24 M p1 p2 p3
    else
      f_X11_knot_25 M p1 p2 p3 1
theorem s_X11_knot {d : Nat} {X : Nat × (Nat → Int32)} {sh : px_Sh} {M : px_M} {L : px_L} {R : px_R} {n : Nat} {p1 : Int32} {p2 : Int32} {p3 : Int32} {e : Int32 × px_M} (hS : SR sh R) (hd : 7 ≤ d) (h : f_X11_knot M p1 p2 p3 = some (.inl e)) : MXT yX11_knot cX11_knot 4 (some .int) d 0 0 X [.ref 0, .int p1, .int p2, .int p3] sh M L R n (px_pu (some (.int e.1)) sh e.2 L R n) px_nx := by
  refine MXT.of (by decide +kernel) (by exact Nat.le_of_ble_eq_true rfl) ?_
  have hcu : 0 ≤ 0 := Nat.zero_le _
  have hsu : 0 ≤ 0 := Nat.zero_le _
  have g : px_pu (some (.int e.1)) sh e.2 L R n (some (.int e.1)) sh e.2 L R n := ⟨rfl, rfl, rfl, rfl, rfl, rfl⟩
  unfold f_X11_knot at h
  refine wx_iload_n dX11_knot_0 rfl ?_
  refine wx_bipush (v := (-5)) dX11_knot_1 (by decide) ?_
  refine wx_iconst (v := 5) dX11_knot_3 (by decide) ?_
  obtain ⟨e_4, k_4, h⟩ := bd1_some h
  refine wx_cSi dX11_knot_4 ml_X11_65 my_X11_within sv_X11_within (s_X11_within (d := d - 1) hS (by omega) k_4) rfl (by omega) (by exact Nat.le_of_ble_eq_true rfl) (show 0 + 0 ≤ 0 by omega) (show 0 + 0 ≤ 0 by omega) ?_
  refine wx_if_eq (tgt := 24) dX11_knot_7 (by decide) (fun c_7 => ?_) (fun c_7 => ?_)
  · replace h := it_t h c_7
    exact wx_sub (s_X11_knot_24 hS hd (show 0 + 0 ≤ 0 by omega) (show 0 + 0 ≤ 0 by omega) h g) (px_s rfl (px_s rfl (px_s rfl (px_s rfl px_0))))
  · replace h := it_f h c_7
    refine wx_iload_n dX11_knot_10 rfl ?_
    refine wx_bipush (v := (-5)) dX11_knot_11 (by decide) ?_
    refine wx_iconst (v := 5) dX11_knot_13 (by decide) ?_
    obtain ⟨e_14, k_14, h⟩ := bd1_some h
    refine wx_cSi dX11_knot_14 ml_X11_65 my_X11_within sv_X11_within (s_X11_within (d := d - 1) hS (by omega) k_14) rfl (by omega) (by exact Nat.le_of_ble_eq_true rfl) (show 0 + 0 ≤ 0 by omega) (show 0 + 0 ≤ 0 by omega) ?_
    refine wx_if_eq (tgt := 24) dX11_knot_17 (by decide) (fun c_17 => ?_) (fun c_17 => ?_)
    · replace h := it_t h c_17
      exact wx_sub (s_X11_knot_24 hS hd (show 0 + 0 ≤ 0 by omega) (show 0 + 0 ≤ 0 by omega) h g) (px_s rfl (px_s rfl (px_s rfl (px_s rfl px_0))))
    · replace h := it_f h c_17
      refine wx_iconst (v := 1) dX11_knot_20 (by decide) ?_
      refine wx_goto (tgt := 25) dX11_knot_21 (by decide) ?_
      exact wx_sub (s_X11_knot_25 hS hd (show 0 + 0 ≤ 0 by omega) (show 0 + 0 ≤ 0 by omega) h g) (px_s rfl (px_s rfl (px_s rfl (px_s rfl px_0))))
theorem x_X11_knot {d : Nat} {X : Nat × (Nat → Int32)} {sh : px_Sh} {M : px_M} {L : px_L} {R : px_R} {n : Nat} {p1 : Int32} {p2 : Int32} {p3 : Int32} {e : Nat} (hS : SR sh R) (hd : 7 ≤ d) (h : f_X11_knot M p1 p2 p3 = some (.inr e)) : MXT yX11_knot cX11_knot 4 (some .int) d 1 6 X [.ref 0, .int p1, .int p2, .int p3] sh M L R n px_np (px_px (px_xn e) sh M L R n) := by
  refine MXT.of (by decide +kernel) (by exact Nat.le_of_ble_eq_true rfl) ?_
  have hcu : 0 ≤ 1 := Nat.zero_le _
  have hsu : 0 ≤ 6 := Nat.zero_le _
  have g : ∀ n', n ≤ n' → px_px (px_xn e) sh M L R n (px_xn e) sh M L R n' := fun n' hn => ⟨rfl, rfl, rfl, rfl, rfl, hn⟩
  unfold f_X11_knot at h
  refine wx_iload_n dX11_knot_0 rfl ?_
  refine wx_bipush (v := (-5)) dX11_knot_1 (by decide) ?_
  refine wx_iconst (v := 5) dX11_knot_3 (by decide) ?_
  obtain ⟨e_4, k_4, h⟩ := bd1_some h
  refine wx_cSi dX11_knot_4 ml_X11_65 my_X11_within sv_X11_within (s_X11_within (d := d - 1) hS (by omega) k_4) rfl (by omega) (by exact Nat.le_of_ble_eq_true rfl) (show 0 + 0 ≤ 1 by omega) (show 0 + 0 ≤ 6 by omega) ?_
  refine wx_if_eq (tgt := 24) dX11_knot_7 (by decide) (fun c_7 => ?_) (fun c_7 => ?_)
  · replace h := it_t h c_7
    exact wx_sub (x_X11_knot_24 hS hd (show 0 + 1 ≤ 1 by omega) (show 0 + 6 ≤ 6 by omega) h g) (px_s rfl (px_s rfl (px_s rfl (px_s rfl px_0))))
  · replace h := it_f h c_7
    refine wx_iload_n dX11_knot_10 rfl ?_
    refine wx_bipush (v := (-5)) dX11_knot_11 (by decide) ?_
    refine wx_iconst (v := 5) dX11_knot_13 (by decide) ?_
    obtain ⟨e_14, k_14, h⟩ := bd1_some h
    refine wx_cSi dX11_knot_14 ml_X11_65 my_X11_within sv_X11_within (s_X11_within (d := d - 1) hS (by omega) k_14) rfl (by omega) (by exact Nat.le_of_ble_eq_true rfl) (show 0 + 0 ≤ 1 by omega) (show 0 + 0 ≤ 6 by omega) ?_
    refine wx_if_eq (tgt := 24) dX11_knot_17 (by decide) (fun c_17 => ?_) (fun c_17 => ?_)
    · replace h := it_t h c_17
      exact wx_sub (x_X11_knot_24 hS hd (show 0 + 1 ≤ 1 by omega) (show 0 + 6 ≤ 6 by omega) h g) (px_s rfl (px_s rfl (px_s rfl (px_s rfl px_0))))
    · replace h := it_f h c_17
      refine wx_iconst (v := 1) dX11_knot_20 (by decide) ?_
      refine wx_goto (tgt := 25) dX11_knot_21 (by decide) ?_
      exact wx_sub (x_X11_knot_25 hS hd (show 0 + 1 ≤ 1 by omega) (show 0 + 6 ≤ 6 by omega) h g) (px_s rfl (px_s rfl (px_s rfl (px_s rfl px_0))))
noncomputable def f_X11_pull_41 (M : px_M) (x1 : Int32) (x2 : Int32) (x3 : Int32) : Option (px_M) :=
  bd1 (f_X4_setPull M x1 x2 x3) fun e_48 =>
  some e_48
theorem s_X11_pull_41 {x1 : Int32} {x2 : Int32} {x3 : Int32} {M : px_M} {L : px_L} {R : px_R} {e : (px_M)} (hS : SR sh R) (hd : 7 ≤ d) (hcu : cu ≤ mc) (hsu : su ≤ ms) (h : f_X11_pull_41 M x1 x2 x3 = some e) (g : Post none sh e L R n) : WX RX11 cX11_pull 4 none ("pull", []) d mc ms X (px_QF Post mc ms) 41 [(0, .ref 0), (1, .int x1), (2, .int x2), (3, .int x3)] [] sh M L R n cu su := by
  unfold f_X11_pull_41 at h
  refine wx_aload_n dX11_pull_41 rfl ?_
  refine wx_getR dX11_pull_42 fl_X11_47 (sc_0 hS) rfl (rr_0_5 hS) ?_
  refine wx_iload_n dX11_pull_45 rfl ?_
  refine wx_iload_n dX11_pull_46 rfl ?_
  refine wx_iload_n dX11_pull_47 rfl ?_
  obtain ⟨e_48, k_48, h⟩ := bd1_some h
  refine wx_cVv dX11_pull_48 ml_X11_293 my_X4_setPull iv_X4_setPull (sc_40 hS) (by decide) (s_X4_setPull (d := d - 1) hS (by omega) k_48) rfl (by omega) (by exact Nat.le_of_ble_eq_true rfl) hcu hsu ?_
  refine wx_vret dX11_pull_51 hcu hsu ?_
  obtain rfl := Option.some.inj h
  exact g
noncomputable def f_X11_pull_38 (M : px_M) (x1 : Int32) (x2 : Int32) (x3 : Int32) (z0 : Int32) : Option ((px_M) ⊕ Nat) :=
  if z0 = 0 then some (.inr 0) else
  bd1 (f_X11_pull_41 M x1 x2 x3) fun r_41 => some (.inl r_41)
theorem s_X11_pull_38 {x1 : Int32} {x2 : Int32} {x3 : Int32} {z0 : Int32} {PX : px_PX} {M : px_M} {L : px_L} {R : px_R} {e : px_M} (hS : SR sh R) (hd : 7 ≤ d) (hcu : cu ≤ mc) (hsu : su ≤ ms) (h : f_X11_pull_38 M x1 x2 x3 z0 = some (.inl e)) (g : Post none sh e L R n) : WX RX11 cX11_pull 4 none ("pull", []) d mc ms X (px_QX Post PX mc ms) 38 [(0, .ref 0), (1, .int x1), (2, .int x2), (3, .int x3)] [.int z0] sh M L R n cu su := by
  unfold f_X11_pull_38 at h
  by_cases c_38 : z0 = 0
  · replace h := it_t h c_38
    cases h
  replace h := it_f h c_38
  refine wx_needT dX11_pull_38 nl_needArgument my_X11_needArgument sv_X11_needArgument (mT_needArgument (d := d - 1) c_38) (by omega) (by exact Nat.le_of_ble_eq_true rfl) (show cu + 0 ≤ mc by omega) (show su + 0 ≤ ms by omega) ?_
  obtain ⟨r_41, k_41, h⟩ := bd1_some h
  cases h
  exact wx_rx (wx_sub (s_X11_pull_41 hS hd (show cu + 0 ≤ mc by omega) (show su + 0 ≤ ms by omega) k_41 g) (px_s rfl (px_s rfl (px_s rfl (px_s rfl px_0)))))
theorem x_X11_pull_38 {x1 : Int32} {x2 : Int32} {x3 : Int32} {z0 : Int32} {PX : px_PX} {M : px_M} {L : px_L} {R : px_R} {e : Nat} (hS : SR sh R) (hd : 7 ≤ d) (hcu : cu + 1 ≤ mc) (hsu : su + 6 ≤ ms) (h : f_X11_pull_38 M x1 x2 x3 z0 = some (.inr e)) (g : ∀ n', n ≤ n' → PX (px_xn e) sh M L R n') : WX RX11 cX11_pull 4 none ("pull", []) d mc ms X (px_QX Post PX mc ms) 38 [(0, .ref 0), (1, .int x1), (2, .int x2), (3, .int x3)] [.int z0] sh M L R n cu su := by
  unfold f_X11_pull_38 at h
  by_cases c_38 : z0 = 0
  · replace h := it_t h c_38
    obtain rfl := Sum.inr.inj (Option.some.inj h)
    exact wx_needF dX11_pull_38 nl_needArgument my_X11_needArgument sv_X11_needArgument (mF_needArgument (d := d - 1) (by omega) c_38) (by omega) (by exact Nat.le_of_ble_eq_true rfl) (show cu + 1 ≤ mc by omega) (show su + 6 ≤ ms by omega) g
  replace h := it_f h c_38
  refine wx_needT dX11_pull_38 nl_needArgument my_X11_needArgument sv_X11_needArgument (mT_needArgument (d := d - 1) c_38) (by omega) (by exact Nat.le_of_ble_eq_true rfl) (show cu + 0 ≤ mc by omega) (show su + 0 ≤ ms by omega) ?_
  obtain ⟨r_41, k_41, h⟩ := bd1_some h
  cases h
noncomputable def f_X11_pull_37 (M : px_M) (x1 : Int32) (x2 : Int32) (x3 : Int32) : Option ((px_M) ⊕ Nat) :=
  f_X11_pull_38 M x1 x2 x3 0
theorem s_X11_pull_37 {x1 : Int32} {x2 : Int32} {x3 : Int32} {PX : px_PX} {M : px_M} {L : px_L} {R : px_R} {e : px_M} (hS : SR sh R) (hd : 7 ≤ d) (hcu : cu ≤ mc) (hsu : su ≤ ms) (h : f_X11_pull_37 M x1 x2 x3 = some (.inl e)) (g : Post none sh e L R n) : WX RX11 cX11_pull 4 none ("pull", []) d mc ms X (px_QX Post PX mc ms) 37 [(0, .ref 0), (1, .int x1), (2, .int x2), (3, .int x3)] [] sh M L R n cu su := by
  unfold f_X11_pull_37 at h
  refine wx_iconst (v := 0) dX11_pull_37 (by decide) ?_
  exact wx_sub (s_X11_pull_38 hS hd (show cu + 0 ≤ mc by omega) (show su + 0 ≤ ms by omega) h g) (px_s rfl (px_s rfl (px_s rfl (px_s rfl px_0))))
theorem x_X11_pull_37 {x1 : Int32} {x2 : Int32} {x3 : Int32} {PX : px_PX} {M : px_M} {L : px_L} {R : px_R} {e : Nat} (hS : SR sh R) (hd : 7 ≤ d) (hcu : cu + 1 ≤ mc) (hsu : su + 6 ≤ ms) (h : f_X11_pull_37 M x1 x2 x3 = some (.inr e)) (g : ∀ n', n ≤ n' → PX (px_xn e) sh M L R n') : WX RX11 cX11_pull 4 none ("pull", []) d mc ms X (px_QX Post PX mc ms) 37 [(0, .ref 0), (1, .int x1), (2, .int x2), (3, .int x3)] [] sh M L R n cu su := by
  unfold f_X11_pull_37 at h
  refine wx_iconst (v := 0) dX11_pull_37 (by decide) ?_
  exact wx_sub (x_X11_pull_38 hS hd (show cu + 1 ≤ mc by omega) (show su + 6 ≤ ms by omega) h g) (px_s rfl (px_s rfl (px_s rfl (px_s rfl px_0))))
noncomputable def f_X11_pull (M : px_M) (p1 : Int32) (p2 : Int32) (p3 : Int32) : Option ((px_M) ⊕ Nat) :=
  bd1 (f_X4_hasKnot M p1) fun e_5 =>
  if e_5 = 0 then some (.inr 2) else
  bd1 (f_X11_within p2 (-100) 100) fun e_16 =>
  if e_16 = 0 then
    f_X11_pull_37 M p1 p2 p3
  else
    bd1 (f_X11_within p3 (-100) 100) fun e_27 =>
    if e_27 = 0 then
      f_X11_pull_37 M p1 p2 p3
    else
      f_X11_pull_38 M p1 p2 p3 1
theorem s_X11_pull {d : Nat} {X : Nat × (Nat → Int32)} {sh : px_Sh} {M : px_M} {L : px_L} {R : px_R} {n : Nat} {p1 : Int32} {p2 : Int32} {p3 : Int32} {e : px_M} (hS : SR sh R) (hd : 7 ≤ d) (h : f_X11_pull M p1 p2 p3 = some (.inl e)) : MXT yX11_pull cX11_pull 4 none d 0 0 X [.ref 0, .int p1, .int p2, .int p3] sh M L R n (px_pu none sh e L R n) px_nx := by
  refine MXT.of (by decide +kernel) (by exact Nat.le_of_ble_eq_true rfl) ?_
  have hcu : 0 ≤ 0 := Nat.zero_le _
  have hsu : 0 ≤ 0 := Nat.zero_le _
  have g : px_pu none sh e L R n none sh e L R n := ⟨rfl, rfl, rfl, rfl, rfl, rfl⟩
  unfold f_X11_pull at h
  refine wx_aload_n dX11_pull_0 rfl ?_
  refine wx_getR dX11_pull_1 fl_X11_47 (sc_0 hS) rfl (rr_0_5 hS) ?_
  refine wx_iload_n dX11_pull_4 rfl ?_
  obtain ⟨e_5, k_5, h⟩ := bd1_some h
  refine wx_cVi dX11_pull_5 ml_X11_290 my_X4_hasKnot iv_X4_hasKnot (sc_40 hS) (by decide) (s_X4_hasKnot (d := d - 1) hS (by omega) k_5) rfl (by omega) (by exact Nat.le_of_ble_eq_true rfl) (show 0 + 0 ≤ 0 by omega) (show 0 + 0 ≤ 0 by omega) ?_
  by_cases c_8 : e_5 = 0
  · replace h := it_t h c_8
    cases h
  replace h := it_f h c_8
  refine wx_needT dX11_pull_8 nl_needIndex my_X11_needIndex sv_X11_needIndex (mT_needIndex (d := d - 1) c_8) (by omega) (by exact Nat.le_of_ble_eq_true rfl) (show 0 + 0 ≤ 0 by omega) (show 0 + 0 ≤ 0 by omega) ?_
  refine wx_iload_n dX11_pull_11 rfl ?_
  refine wx_bipush (v := (-100)) dX11_pull_12 (by decide) ?_
  refine wx_bipush (v := 100) dX11_pull_14 (by decide) ?_
  obtain ⟨e_16, k_16, h⟩ := bd1_some h
  refine wx_cSi dX11_pull_16 ml_X11_65 my_X11_within sv_X11_within (s_X11_within (d := d - 1) hS (by omega) k_16) rfl (by omega) (by exact Nat.le_of_ble_eq_true rfl) (show 0 + 0 ≤ 0 by omega) (show 0 + 0 ≤ 0 by omega) ?_
  refine wx_if_eq (tgt := 37) dX11_pull_19 (by decide) (fun c_19 => ?_) (fun c_19 => ?_)
  · replace h := it_t h c_19
    exact wx_sub (s_X11_pull_37 hS hd (show 0 + 0 ≤ 0 by omega) (show 0 + 0 ≤ 0 by omega) h g) (px_s rfl (px_s rfl (px_s rfl (px_s rfl px_0))))
  · replace h := it_f h c_19
    refine wx_iload_n dX11_pull_22 rfl ?_
    refine wx_bipush (v := (-100)) dX11_pull_23 (by decide) ?_
    refine wx_bipush (v := 100) dX11_pull_25 (by decide) ?_
    obtain ⟨e_27, k_27, h⟩ := bd1_some h
    refine wx_cSi dX11_pull_27 ml_X11_65 my_X11_within sv_X11_within (s_X11_within (d := d - 1) hS (by omega) k_27) rfl (by omega) (by exact Nat.le_of_ble_eq_true rfl) (show 0 + 0 ≤ 0 by omega) (show 0 + 0 ≤ 0 by omega) ?_
    refine wx_if_eq (tgt := 37) dX11_pull_30 (by decide) (fun c_30 => ?_) (fun c_30 => ?_)
    · replace h := it_t h c_30
      exact wx_sub (s_X11_pull_37 hS hd (show 0 + 0 ≤ 0 by omega) (show 0 + 0 ≤ 0 by omega) h g) (px_s rfl (px_s rfl (px_s rfl (px_s rfl px_0))))
    · replace h := it_f h c_30
      refine wx_iconst (v := 1) dX11_pull_33 (by decide) ?_
      refine wx_goto (tgt := 38) dX11_pull_34 (by decide) ?_
      exact wx_sub (s_X11_pull_38 hS hd (show 0 + 0 ≤ 0 by omega) (show 0 + 0 ≤ 0 by omega) h g) (px_s rfl (px_s rfl (px_s rfl (px_s rfl px_0))))
theorem x_X11_pull {d : Nat} {X : Nat × (Nat → Int32)} {sh : px_Sh} {M : px_M} {L : px_L} {R : px_R} {n : Nat} {p1 : Int32} {p2 : Int32} {p3 : Int32} {e : Nat} (hS : SR sh R) (hd : 7 ≤ d) (h : f_X11_pull M p1 p2 p3 = some (.inr e)) : MXT yX11_pull cX11_pull 4 none d 1 6 X [.ref 0, .int p1, .int p2, .int p3] sh M L R n px_np (px_px (px_xn e) sh M L R n) := by
  refine MXT.of (by decide +kernel) (by exact Nat.le_of_ble_eq_true rfl) ?_
  have hcu : 0 ≤ 1 := Nat.zero_le _
  have hsu : 0 ≤ 6 := Nat.zero_le _
  have g : ∀ n', n ≤ n' → px_px (px_xn e) sh M L R n (px_xn e) sh M L R n' := fun n' hn => ⟨rfl, rfl, rfl, rfl, rfl, hn⟩
  unfold f_X11_pull at h
  refine wx_aload_n dX11_pull_0 rfl ?_
  refine wx_getR dX11_pull_1 fl_X11_47 (sc_0 hS) rfl (rr_0_5 hS) ?_
  refine wx_iload_n dX11_pull_4 rfl ?_
  obtain ⟨e_5, k_5, h⟩ := bd1_some h
  refine wx_cVi dX11_pull_5 ml_X11_290 my_X4_hasKnot iv_X4_hasKnot (sc_40 hS) (by decide) (s_X4_hasKnot (d := d - 1) hS (by omega) k_5) rfl (by omega) (by exact Nat.le_of_ble_eq_true rfl) (show 0 + 0 ≤ 1 by omega) (show 0 + 0 ≤ 6 by omega) ?_
  by_cases c_8 : e_5 = 0
  · replace h := it_t h c_8
    obtain rfl := Sum.inr.inj (Option.some.inj h)
    exact wx_needF dX11_pull_8 nl_needIndex my_X11_needIndex sv_X11_needIndex (mF_needIndex (d := d - 1) (by omega) c_8) (by omega) (by exact Nat.le_of_ble_eq_true rfl) (show 0 + 1 ≤ 1 by omega) (show 0 + 6 ≤ 6 by omega) g
  replace h := it_f h c_8
  refine wx_needT dX11_pull_8 nl_needIndex my_X11_needIndex sv_X11_needIndex (mT_needIndex (d := d - 1) c_8) (by omega) (by exact Nat.le_of_ble_eq_true rfl) (show 0 + 0 ≤ 1 by omega) (show 0 + 0 ≤ 6 by omega) ?_
  refine wx_iload_n dX11_pull_11 rfl ?_
  refine wx_bipush (v := (-100)) dX11_pull_12 (by decide) ?_
  refine wx_bipush (v := 100) dX11_pull_14 (by decide) ?_
  obtain ⟨e_16, k_16, h⟩ := bd1_some h
  refine wx_cSi dX11_pull_16 ml_X11_65 my_X11_within sv_X11_within (s_X11_within (d := d - 1) hS (by omega) k_16) rfl (by omega) (by exact Nat.le_of_ble_eq_true rfl) (show 0 + 0 ≤ 1 by omega) (show 0 + 0 ≤ 6 by omega) ?_
  refine wx_if_eq (tgt := 37) dX11_pull_19 (by decide) (fun c_19 => ?_) (fun c_19 => ?_)
  · replace h := it_t h c_19
    exact wx_sub (x_X11_pull_37 hS hd (show 0 + 1 ≤ 1 by omega) (show 0 + 6 ≤ 6 by omega) h g) (px_s rfl (px_s rfl (px_s rfl (px_s rfl px_0))))
  · replace h := it_f h c_19
    refine wx_iload_n dX11_pull_22 rfl ?_
    refine wx_bipush (v := (-100)) dX11_pull_23 (by decide) ?_
    refine wx_bipush (v := 100) dX11_pull_25 (by decide) ?_
    obtain ⟨e_27, k_27, h⟩ := bd1_some h
    refine wx_cSi dX11_pull_27 ml_X11_65 my_X11_within sv_X11_within (s_X11_within (d := d - 1) hS (by omega) k_27) rfl (by omega) (by exact Nat.le_of_ble_eq_true rfl) (show 0 + 0 ≤ 1 by omega) (show 0 + 0 ≤ 6 by omega) ?_
    refine wx_if_eq (tgt := 37) dX11_pull_30 (by decide) (fun c_30 => ?_) (fun c_30 => ?_)
    · replace h := it_t h c_30
      exact wx_sub (x_X11_pull_37 hS hd (show 0 + 1 ≤ 1 by omega) (show 0 + 6 ≤ 6 by omega) h g) (px_s rfl (px_s rfl (px_s rfl (px_s rfl px_0))))
    · replace h := it_f h c_30
      refine wx_iconst (v := 1) dX11_pull_33 (by decide) ?_
      refine wx_goto (tgt := 38) dX11_pull_34 (by decide) ?_
      exact wx_sub (x_X11_pull_38 hS hd (show 0 + 1 ≤ 1 by omega) (show 0 + 6 ≤ 6 by omega) h g) (px_s rfl (px_s rfl (px_s rfl (px_s rfl px_0))))
noncomputable def f_X11_string_43 (M : px_M) (x1 : Int32) (x2 : Int32) : Option (Int32 × px_M) :=
  bd1 (f_X4_addString M x1 x2) fun e_49 =>
  some (e_49.1, e_49.2)
theorem s_X11_string_43 {x1 : Int32} {x2 : Int32} {M : px_M} {L : px_L} {R : px_R} {e : (Int32 × px_M)} (hS : SR sh R) (hd : 7 ≤ d) (hcu : cu ≤ mc) (hsu : su ≤ ms) (h : f_X11_string_43 M x1 x2 = some e) (g : Post (some (.int (e.1))) sh (e.2) L R n) : WX RX11 cX11_string 3 (some .int) ("string", []) d mc ms X (px_QF Post mc ms) 43 [(0, .ref 0), (1, .int x1), (2, .int x2)] [] sh M L R n cu su := by
  unfold f_X11_string_43 at h
  refine wx_aload_n dX11_string_43 rfl ?_
  refine wx_getR dX11_string_44 fl_X11_47 (sc_0 hS) rfl (rr_0_5 hS) ?_
  refine wx_iload_n dX11_string_47 rfl ?_
  refine wx_iload_n dX11_string_48 rfl ?_
  obtain ⟨e_49, k_49, h⟩ := bd1_some h
  refine wx_cVi dX11_string_49 ml_X11_297 my_X4_addString iv_X4_addString (sc_40 hS) (by decide) (s_X4_addString (d := d - 1) hS (by omega) k_49) rfl (by omega) (by exact Nat.le_of_ble_eq_true rfl) hcu hsu ?_
  refine wx_iret dX11_string_52 hcu hsu ?_
  obtain rfl := Option.some.inj h
  exact g
noncomputable def f_X11_string_40 (M : px_M) (x1 : Int32) (x2 : Int32) (z0 : Int32) : Option ((Int32 × px_M) ⊕ Nat) :=
  if z0 = 0 then some (.inr 0) else
  bd1 (f_X11_string_43 M x1 x2) fun r_43 => some (.inl r_43)
theorem s_X11_string_40 {x1 : Int32} {x2 : Int32} {z0 : Int32} {PX : px_PX} {M : px_M} {L : px_L} {R : px_R} {e : Int32 × px_M} (hS : SR sh R) (hd : 7 ≤ d) (hcu : cu ≤ mc) (hsu : su ≤ ms) (h : f_X11_string_40 M x1 x2 z0 = some (.inl e)) (g : Post (some (.int (e.1))) sh (e.2) L R n) : WX RX11 cX11_string 3 (some .int) ("string", []) d mc ms X (px_QX Post PX mc ms) 40 [(0, .ref 0), (1, .int x1), (2, .int x2)] [.int z0] sh M L R n cu su := by
  unfold f_X11_string_40 at h
  by_cases c_40 : z0 = 0
  · replace h := it_t h c_40
    cases h
  replace h := it_f h c_40
  refine wx_needT dX11_string_40 nl_needArgument my_X11_needArgument sv_X11_needArgument (mT_needArgument (d := d - 1) c_40) (by omega) (by exact Nat.le_of_ble_eq_true rfl) (show cu + 0 ≤ mc by omega) (show su + 0 ≤ ms by omega) ?_
  obtain ⟨r_43, k_43, h⟩ := bd1_some h
  cases h
  exact wx_rx (wx_sub (s_X11_string_43 hS hd (show cu + 0 ≤ mc by omega) (show su + 0 ≤ ms by omega) k_43 g) (px_s rfl (px_s rfl (px_s rfl px_0))))
theorem x_X11_string_40 {x1 : Int32} {x2 : Int32} {z0 : Int32} {PX : px_PX} {M : px_M} {L : px_L} {R : px_R} {e : Nat} (hS : SR sh R) (hd : 7 ≤ d) (hcu : cu + 1 ≤ mc) (hsu : su + 6 ≤ ms) (h : f_X11_string_40 M x1 x2 z0 = some (.inr e)) (g : ∀ n', n ≤ n' → PX (px_xn e) sh M L R n') : WX RX11 cX11_string 3 (some .int) ("string", []) d mc ms X (px_QX Post PX mc ms) 40 [(0, .ref 0), (1, .int x1), (2, .int x2)] [.int z0] sh M L R n cu su := by
  unfold f_X11_string_40 at h
  by_cases c_40 : z0 = 0
  · replace h := it_t h c_40
    obtain rfl := Sum.inr.inj (Option.some.inj h)
    exact wx_needF dX11_string_40 nl_needArgument my_X11_needArgument sv_X11_needArgument (mF_needArgument (d := d - 1) (by omega) c_40) (by omega) (by exact Nat.le_of_ble_eq_true rfl) (show cu + 1 ≤ mc by omega) (show su + 6 ≤ ms by omega) g
  replace h := it_f h c_40
  refine wx_needT dX11_string_40 nl_needArgument my_X11_needArgument sv_X11_needArgument (mT_needArgument (d := d - 1) c_40) (by omega) (by exact Nat.le_of_ble_eq_true rfl) (show cu + 0 ≤ mc by omega) (show su + 0 ≤ ms by omega) ?_
  obtain ⟨r_43, k_43, h⟩ := bd1_some h
  cases h
noncomputable def f_X11_string_27 (M : px_M) (x1 : Int32) (x2 : Int32) (z0 : Int32) : Option ((Int32 × px_M) ⊕ Nat) :=
  if z0 = 0 then some (.inr 2) else
  if x1 = x2 then
    f_X11_string_40 M x1 x2 0
  else
    f_X11_string_40 M x1 x2 1
theorem s_X11_string_27 {x1 : Int32} {x2 : Int32} {z0 : Int32} {PX : px_PX} {M : px_M} {L : px_L} {R : px_R} {e : Int32 × px_M} (hS : SR sh R) (hd : 7 ≤ d) (hcu : cu ≤ mc) (hsu : su ≤ ms) (h : f_X11_string_27 M x1 x2 z0 = some (.inl e)) (g : Post (some (.int (e.1))) sh (e.2) L R n) : WX RX11 cX11_string 3 (some .int) ("string", []) d mc ms X (px_QX Post PX mc ms) 27 [(0, .ref 0), (1, .int x1), (2, .int x2)] [.int z0] sh M L R n cu su := by
  unfold f_X11_string_27 at h
  by_cases c_27 : z0 = 0
  · replace h := it_t h c_27
    cases h
  replace h := it_f h c_27
  refine wx_needT dX11_string_27 nl_needIndex my_X11_needIndex sv_X11_needIndex (mT_needIndex (d := d - 1) c_27) (by omega) (by exact Nat.le_of_ble_eq_true rfl) (show cu + 0 ≤ mc by omega) (show su + 0 ≤ ms by omega) ?_
  refine wx_iload_n dX11_string_30 rfl ?_
  refine wx_iload_n dX11_string_31 rfl ?_
  refine wx_icmp_eq (tgt := 39) dX11_string_32 (by decide) (fun c_32 => ?_) (fun c_32 => ?_)
  · replace h := it_t h c_32
    refine wx_iconst (v := 0) dX11_string_39 (by decide) ?_
    exact wx_sub (s_X11_string_40 hS hd (show cu + 0 ≤ mc by omega) (show su + 0 ≤ ms by omega) h g) (px_s rfl (px_s rfl (px_s rfl px_0)))
  · replace h := it_f h c_32
    refine wx_iconst (v := 1) dX11_string_35 (by decide) ?_
    refine wx_goto (tgt := 40) dX11_string_36 (by decide) ?_
    exact wx_sub (s_X11_string_40 hS hd (show cu + 0 ≤ mc by omega) (show su + 0 ≤ ms by omega) h g) (px_s rfl (px_s rfl (px_s rfl px_0)))
theorem x_X11_string_27 {x1 : Int32} {x2 : Int32} {z0 : Int32} {PX : px_PX} {M : px_M} {L : px_L} {R : px_R} {e : Nat} (hS : SR sh R) (hd : 7 ≤ d) (hcu : cu + 1 ≤ mc) (hsu : su + 6 ≤ ms) (h : f_X11_string_27 M x1 x2 z0 = some (.inr e)) (g : ∀ n', n ≤ n' → PX (px_xn e) sh M L R n') : WX RX11 cX11_string 3 (some .int) ("string", []) d mc ms X (px_QX Post PX mc ms) 27 [(0, .ref 0), (1, .int x1), (2, .int x2)] [.int z0] sh M L R n cu su := by
  unfold f_X11_string_27 at h
  by_cases c_27 : z0 = 0
  · replace h := it_t h c_27
    obtain rfl := Sum.inr.inj (Option.some.inj h)
    exact wx_needF dX11_string_27 nl_needIndex my_X11_needIndex sv_X11_needIndex (mF_needIndex (d := d - 1) (by omega) c_27) (by omega) (by exact Nat.le_of_ble_eq_true rfl) (show cu + 1 ≤ mc by omega) (show su + 6 ≤ ms by omega) g
  replace h := it_f h c_27
  refine wx_needT dX11_string_27 nl_needIndex my_X11_needIndex sv_X11_needIndex (mT_needIndex (d := d - 1) c_27) (by omega) (by exact Nat.le_of_ble_eq_true rfl) (show cu + 0 ≤ mc by omega) (show su + 0 ≤ ms by omega) ?_
  refine wx_iload_n dX11_string_30 rfl ?_
  refine wx_iload_n dX11_string_31 rfl ?_
  refine wx_icmp_eq (tgt := 39) dX11_string_32 (by decide) (fun c_32 => ?_) (fun c_32 => ?_)
  · replace h := it_t h c_32
    refine wx_iconst (v := 0) dX11_string_39 (by decide) ?_
    exact wx_sub (x_X11_string_40 hS hd (show cu + 1 ≤ mc by omega) (show su + 6 ≤ ms by omega) h g) (px_s rfl (px_s rfl (px_s rfl px_0)))
  · replace h := it_f h c_32
    refine wx_iconst (v := 1) dX11_string_35 (by decide) ?_
    refine wx_goto (tgt := 40) dX11_string_36 (by decide) ?_
    exact wx_sub (x_X11_string_40 hS hd (show cu + 1 ≤ mc by omega) (show su + 6 ≤ ms by omega) h g) (px_s rfl (px_s rfl (px_s rfl px_0)))
noncomputable def f_X11_string_26 (M : px_M) (x1 : Int32) (x2 : Int32) : Option ((Int32 × px_M) ⊕ Nat) :=
  f_X11_string_27 M x1 x2 0
theorem s_X11_string_26 {x1 : Int32} {x2 : Int32} {PX : px_PX} {M : px_M} {L : px_L} {R : px_R} {e : Int32 × px_M} (hS : SR sh R) (hd : 7 ≤ d) (hcu : cu ≤ mc) (hsu : su ≤ ms) (h : f_X11_string_26 M x1 x2 = some (.inl e)) (g : Post (some (.int (e.1))) sh (e.2) L R n) : WX RX11 cX11_string 3 (some .int) ("string", []) d mc ms X (px_QX Post PX mc ms) 26 [(0, .ref 0), (1, .int x1), (2, .int x2)] [] sh M L R n cu su := by
  unfold f_X11_string_26 at h
  refine wx_iconst (v := 0) dX11_string_26 (by decide) ?_
  exact wx_sub (s_X11_string_27 hS hd (show cu + 0 ≤ mc by omega) (show su + 0 ≤ ms by omega) h g) (px_s rfl (px_s rfl (px_s rfl px_0)))
theorem x_X11_string_26 {x1 : Int32} {x2 : Int32} {PX : px_PX} {M : px_M} {L : px_L} {R : px_R} {e : Nat} (hS : SR sh R) (hd : 7 ≤ d) (hcu : cu + 1 ≤ mc) (hsu : su + 6 ≤ ms) (h : f_X11_string_26 M x1 x2 = some (.inr e)) (g : ∀ n', n ≤ n' → PX (px_xn e) sh M L R n') : WX RX11 cX11_string 3 (some .int) ("string", []) d mc ms X (px_QX Post PX mc ms) 26 [(0, .ref 0), (1, .int x1), (2, .int x2)] [] sh M L R n cu su := by
  unfold f_X11_string_26 at h
  refine wx_iconst (v := 0) dX11_string_26 (by decide) ?_
  exact wx_sub (x_X11_string_27 hS hd (show cu + 1 ≤ mc by omega) (show su + 6 ≤ ms by omega) h g) (px_s rfl (px_s rfl (px_s rfl px_0)))
noncomputable def f_X11_string (M : px_M) (p1 : Int32) (p2 : Int32) : Option ((Int32 × px_M) ⊕ Nat) :=
  bd1 (f_X4_hasKnot M p1) fun e_5 =>
  if e_5 = 0 then
    f_X11_string_26 M p1 p2
  else
    bd1 (f_X4_hasKnot M p2) fun e_16 =>
    if e_16 = 0 then
      f_X11_string_26 M p1 p2
    else
      f_X11_string_27 M p1 p2 1
theorem s_X11_string {d : Nat} {X : Nat × (Nat → Int32)} {sh : px_Sh} {M : px_M} {L : px_L} {R : px_R} {n : Nat} {p1 : Int32} {p2 : Int32} {e : Int32 × px_M} (hS : SR sh R) (hd : 7 ≤ d) (h : f_X11_string M p1 p2 = some (.inl e)) : MXT yX11_string cX11_string 3 (some .int) d 0 0 X [.ref 0, .int p1, .int p2] sh M L R n (px_pu (some (.int e.1)) sh e.2 L R n) px_nx := by
  refine MXT.of (by decide +kernel) (by exact Nat.le_of_ble_eq_true rfl) ?_
  have hcu : 0 ≤ 0 := Nat.zero_le _
  have hsu : 0 ≤ 0 := Nat.zero_le _
  have g : px_pu (some (.int e.1)) sh e.2 L R n (some (.int e.1)) sh e.2 L R n := ⟨rfl, rfl, rfl, rfl, rfl, rfl⟩
  unfold f_X11_string at h
  refine wx_aload_n dX11_string_0 rfl ?_
  refine wx_getR dX11_string_1 fl_X11_47 (sc_0 hS) rfl (rr_0_5 hS) ?_
  refine wx_iload_n dX11_string_4 rfl ?_
  obtain ⟨e_5, k_5, h⟩ := bd1_some h
  refine wx_cVi dX11_string_5 ml_X11_290 my_X4_hasKnot iv_X4_hasKnot (sc_40 hS) (by decide) (s_X4_hasKnot (d := d - 1) hS (by omega) k_5) rfl (by omega) (by exact Nat.le_of_ble_eq_true rfl) (show 0 + 0 ≤ 0 by omega) (show 0 + 0 ≤ 0 by omega) ?_
  refine wx_if_eq (tgt := 26) dX11_string_8 (by decide) (fun c_8 => ?_) (fun c_8 => ?_)
  · replace h := it_t h c_8
    exact wx_sub (s_X11_string_26 hS hd (show 0 + 0 ≤ 0 by omega) (show 0 + 0 ≤ 0 by omega) h g) (px_s rfl (px_s rfl (px_s rfl px_0)))
  · replace h := it_f h c_8
    refine wx_aload_n dX11_string_11 rfl ?_
    refine wx_getR dX11_string_12 fl_X11_47 (sc_0 hS) rfl (rr_0_5 hS) ?_
    refine wx_iload_n dX11_string_15 rfl ?_
    obtain ⟨e_16, k_16, h⟩ := bd1_some h
    refine wx_cVi dX11_string_16 ml_X11_290 my_X4_hasKnot iv_X4_hasKnot (sc_40 hS) (by decide) (s_X4_hasKnot (d := d - 1) hS (by omega) k_16) rfl (by omega) (by exact Nat.le_of_ble_eq_true rfl) (show 0 + 0 ≤ 0 by omega) (show 0 + 0 ≤ 0 by omega) ?_
    refine wx_if_eq (tgt := 26) dX11_string_19 (by decide) (fun c_19 => ?_) (fun c_19 => ?_)
    · replace h := it_t h c_19
      exact wx_sub (s_X11_string_26 hS hd (show 0 + 0 ≤ 0 by omega) (show 0 + 0 ≤ 0 by omega) h g) (px_s rfl (px_s rfl (px_s rfl px_0)))
    · replace h := it_f h c_19
      refine wx_iconst (v := 1) dX11_string_22 (by decide) ?_
      refine wx_goto (tgt := 27) dX11_string_23 (by decide) ?_
      exact wx_sub (s_X11_string_27 hS hd (show 0 + 0 ≤ 0 by omega) (show 0 + 0 ≤ 0 by omega) h g) (px_s rfl (px_s rfl (px_s rfl px_0)))
theorem x_X11_string {d : Nat} {X : Nat × (Nat → Int32)} {sh : px_Sh} {M : px_M} {L : px_L} {R : px_R} {n : Nat} {p1 : Int32} {p2 : Int32} {e : Nat} (hS : SR sh R) (hd : 7 ≤ d) (h : f_X11_string M p1 p2 = some (.inr e)) : MXT yX11_string cX11_string 3 (some .int) d 1 6 X [.ref 0, .int p1, .int p2] sh M L R n px_np (px_px (px_xn e) sh M L R n) := by
  refine MXT.of (by decide +kernel) (by exact Nat.le_of_ble_eq_true rfl) ?_
  have hcu : 0 ≤ 1 := Nat.zero_le _
  have hsu : 0 ≤ 6 := Nat.zero_le _
  have g : ∀ n', n ≤ n' → px_px (px_xn e) sh M L R n (px_xn e) sh M L R n' := fun n' hn => ⟨rfl, rfl, rfl, rfl, rfl, hn⟩
  unfold f_X11_string at h
  refine wx_aload_n dX11_string_0 rfl ?_
  refine wx_getR dX11_string_1 fl_X11_47 (sc_0 hS) rfl (rr_0_5 hS) ?_
  refine wx_iload_n dX11_string_4 rfl ?_
  obtain ⟨e_5, k_5, h⟩ := bd1_some h
  refine wx_cVi dX11_string_5 ml_X11_290 my_X4_hasKnot iv_X4_hasKnot (sc_40 hS) (by decide) (s_X4_hasKnot (d := d - 1) hS (by omega) k_5) rfl (by omega) (by exact Nat.le_of_ble_eq_true rfl) (show 0 + 0 ≤ 1 by omega) (show 0 + 0 ≤ 6 by omega) ?_
  refine wx_if_eq (tgt := 26) dX11_string_8 (by decide) (fun c_8 => ?_) (fun c_8 => ?_)
  · replace h := it_t h c_8
    exact wx_sub (x_X11_string_26 hS hd (show 0 + 1 ≤ 1 by omega) (show 0 + 6 ≤ 6 by omega) h g) (px_s rfl (px_s rfl (px_s rfl px_0)))
  · replace h := it_f h c_8
    refine wx_aload_n dX11_string_11 rfl ?_
    refine wx_getR dX11_string_12 fl_X11_47 (sc_0 hS) rfl (rr_0_5 hS) ?_
    refine wx_iload_n dX11_string_15 rfl ?_
    obtain ⟨e_16, k_16, h⟩ := bd1_some h
    refine wx_cVi dX11_string_16 ml_X11_290 my_X4_hasKnot iv_X4_hasKnot (sc_40 hS) (by decide) (s_X4_hasKnot (d := d - 1) hS (by omega) k_16) rfl (by omega) (by exact Nat.le_of_ble_eq_true rfl) (show 0 + 0 ≤ 1 by omega) (show 0 + 0 ≤ 6 by omega) ?_
    refine wx_if_eq (tgt := 26) dX11_string_19 (by decide) (fun c_19 => ?_) (fun c_19 => ?_)
    · replace h := it_t h c_19
      exact wx_sub (x_X11_string_26 hS hd (show 0 + 1 ≤ 1 by omega) (show 0 + 6 ≤ 6 by omega) h g) (px_s rfl (px_s rfl (px_s rfl px_0)))
    · replace h := it_f h c_19
      refine wx_iconst (v := 1) dX11_string_22 (by decide) ?_
      refine wx_goto (tgt := 27) dX11_string_23 (by decide) ?_
      exact wx_sub (x_X11_string_27 hS hd (show 0 + 1 ≤ 1 by omega) (show 0 + 6 ≤ 6 by omega) h g) (px_s rfl (px_s rfl (px_s rfl px_0)))
noncomputable def f_X11_slack_38 (sh : px_Sh) (M : px_M) (L : px_L) (R : px_R) (z0 : Int32) : Option (Int32 × px_M × px_L × px_R) :=
  ok (zb z0) <|
  some (z0, M, L, R)
theorem s_X11_slack_38 {z0 : Int32} {M : px_M} {L : px_L} {R : px_R} {e : (Int32 × px_M × px_L × px_R)} (hS : SR sh R) (hd : 7 ≤ d) (hcu : cu ≤ mc) (hsu : su ≤ ms) (h : f_X11_slack_38 sh M L R z0 = some e) (g : SR sh (e.2.2.2) → Post (some (.int (e.1))) sh (e.2.1) (e.2.2.1) (e.2.2.2) n) : WX RX11 cX11_slack 2 (some .boolean) ("slack", []) d mc ms X (px_QF Post mc ms) 38 [] [.int z0] sh M L R n cu su := by
  unfold f_X11_slack_38 at h
  obtain ⟨w_38, h⟩ := ok_some h
  refine wx_zret dX11_slack_38 (zb_n w_38) hcu hsu ?_
  obtain rfl := Option.some.inj h
  exact g hS
noncomputable def f_X11_slack_11 (sh : px_Sh) (M : px_M) (L : px_L) (R : px_R) (x1 : Int32) : Option (Int32 × px_M × px_L × px_R) :=
  bd1 (f_X4_settle sh M L R) fun e_15 =>
  if (((e_15.1 40 11) >>> (x1 &&& 31)) &&& 1) = 1 then
    f_X11_slack_38 sh e_15.1 e_15.2.1 e_15.2.2 1
  else
    f_X11_slack_38 sh e_15.1 e_15.2.1 e_15.2.2 0
theorem s_X11_slack_11 {x1 : Int32} {M : px_M} {L : px_L} {R : px_R} {e : (Int32 × px_M × px_L × px_R)} (hS : SR sh R) (hd : 7 ≤ d) (hcu : cu ≤ mc) (hsu : su ≤ ms) (h : f_X11_slack_11 sh M L R x1 = some e) (g : SR sh (e.2.2.2) → Post (some (.int (e.1))) sh (e.2.1) (e.2.2.1) (e.2.2.2) n) : WX RX11 cX11_slack 2 (some .boolean) ("slack", []) d mc ms X (px_QF Post mc ms) 11 [(0, .ref 0), (1, .int x1)] [] sh M L R n cu su := by
  unfold f_X11_slack_11 at h
  refine wx_aload_n dX11_slack_11 rfl ?_
  refine wx_getR dX11_slack_12 fl_X11_47 (sc_0 hS) rfl (rr_0_5 hS) ?_
  obtain ⟨e_15, k_15, h⟩ := bd1_some h
  refine wx_cVvS dX11_slack_15 ml_X11_300 my_X4_settle iv_X4_settle (sc_40 hS) (by decide) (s_X4_settle (d := d - 1) hS (by omega) k_15) rfl (by omega) (by exact Nat.le_of_ble_eq_true rfl) hcu hsu (fun hS => ?_)
  refine wx_aload_n dX11_slack_18 rfl ?_
  refine wx_getR dX11_slack_19 fl_X11_47 (sc_0 hS) rfl (rr_0_5 hS) ?_
  refine wx_getI dX11_slack_22 fl_X11_309 (sc_40 hS) rfl ?_
  refine wx_iload_n dX11_slack_25 rfl ?_
  refine wx_ishr dX11_slack_26 ?_
  refine wx_iconst (v := 1) dX11_slack_27 (by decide) ?_
  refine wx_iand dX11_slack_28 ?_
  refine wx_iconst (v := 1) dX11_slack_29 (by decide) ?_
  refine wx_icmp_ne (tgt := 37) dX11_slack_30 (by decide) (fun c_30 => ?_) (fun c_30 => ?_)
  · replace h := it_f h c_30
    refine wx_iconst (v := 0) dX11_slack_37 (by decide) ?_
    exact wx_sub (s_X11_slack_38 hS hd hcu hsu h g) px_0
  · replace h := it_t h c_30
    refine wx_iconst (v := 1) dX11_slack_33 (by decide) ?_
    refine wx_goto (tgt := 38) dX11_slack_34 (by decide) ?_
    exact wx_sub (s_X11_slack_38 hS hd hcu hsu h g) px_0
noncomputable def f_X11_slack (sh : px_Sh) (M : px_M) (L : px_L) (R : px_R) (p1 : Int32) : Option ((Int32 × px_M × px_L × px_R) ⊕ Nat) :=
  bd1 (f_X4_hasString M p1) fun e_5 =>
  if e_5 = 0 then some (.inr 2) else
  bd1 (f_X11_slack_11 sh M L R p1) fun r_11 => some (.inl r_11)
theorem s_X11_slack {d : Nat} {X : Nat × (Nat → Int32)} {sh : px_Sh} {M : px_M} {L : px_L} {R : px_R} {n : Nat} {p1 : Int32} {e : Int32 × px_M × px_L × px_R} (hS : SR sh R) (hd : 7 ≤ d) (h : f_X11_slack sh M L R p1 = some (.inl e)) : MXT yX11_slack cX11_slack 2 (some .boolean) d 0 0 X [.ref 0, .int p1] sh M L R n (px_ps (some (.int e.1)) sh e.2.1 e.2.2.1 e.2.2.2 n) px_nx := by
  refine MXT.of (by decide +kernel) (by exact Nat.le_of_ble_eq_true rfl) ?_
  have hcu : 0 ≤ 0 := Nat.zero_le _
  have hsu : 0 ≤ 0 := Nat.zero_le _
  have g : SR sh e.2.2.2 → px_ps (some (.int e.1)) sh e.2.1 e.2.2.1 e.2.2.2 n (some (.int e.1)) sh e.2.1 e.2.2.1 e.2.2.2 n := fun q => ⟨⟨rfl, rfl, rfl, rfl, rfl, rfl⟩, q⟩
  unfold f_X11_slack at h
  refine wx_aload_n dX11_slack_0 rfl ?_
  refine wx_getR dX11_slack_1 fl_X11_47 (sc_0 hS) rfl (rr_0_5 hS) ?_
  refine wx_iload_n dX11_slack_4 rfl ?_
  obtain ⟨e_5, k_5, h⟩ := bd1_some h
  refine wx_cVi dX11_slack_5 ml_X11_306 my_X4_hasString iv_X4_hasString (sc_40 hS) (by decide) (s_X4_hasString (d := d - 1) hS (by omega) k_5) rfl (by omega) (by exact Nat.le_of_ble_eq_true rfl) (show 0 + 0 ≤ 0 by omega) (show 0 + 0 ≤ 0 by omega) ?_
  by_cases c_8 : e_5 = 0
  · replace h := it_t h c_8
    cases h
  replace h := it_f h c_8
  refine wx_needT dX11_slack_8 nl_needIndex my_X11_needIndex sv_X11_needIndex (mT_needIndex (d := d - 1) c_8) (by omega) (by exact Nat.le_of_ble_eq_true rfl) (show 0 + 0 ≤ 0 by omega) (show 0 + 0 ≤ 0 by omega) ?_
  obtain ⟨r_11, k_11, h⟩ := bd1_some h
  cases h
  exact wx_rx (wx_sub (s_X11_slack_11 hS hd (show 0 + 0 ≤ 0 by omega) (show 0 + 0 ≤ 0 by omega) k_11 g) (px_s rfl (px_s rfl px_0)))
theorem x_X11_slack {d : Nat} {X : Nat × (Nat → Int32)} {sh : px_Sh} {M : px_M} {L : px_L} {R : px_R} {n : Nat} {p1 : Int32} {e : Nat} (hS : SR sh R) (hd : 7 ≤ d) (h : f_X11_slack sh M L R p1 = some (.inr e)) : MXT yX11_slack cX11_slack 2 (some .boolean) d 1 6 X [.ref 0, .int p1] sh M L R n px_np (px_px (px_xn e) sh M L R n) := by
  refine MXT.of (by decide +kernel) (by exact Nat.le_of_ble_eq_true rfl) ?_
  have hcu : 0 ≤ 1 := Nat.zero_le _
  have hsu : 0 ≤ 6 := Nat.zero_le _
  have g : ∀ n', n ≤ n' → px_px (px_xn e) sh M L R n (px_xn e) sh M L R n' := fun n' hn => ⟨rfl, rfl, rfl, rfl, rfl, hn⟩
  unfold f_X11_slack at h
  refine wx_aload_n dX11_slack_0 rfl ?_
  refine wx_getR dX11_slack_1 fl_X11_47 (sc_0 hS) rfl (rr_0_5 hS) ?_
  refine wx_iload_n dX11_slack_4 rfl ?_
  obtain ⟨e_5, k_5, h⟩ := bd1_some h
  refine wx_cVi dX11_slack_5 ml_X11_306 my_X4_hasString iv_X4_hasString (sc_40 hS) (by decide) (s_X4_hasString (d := d - 1) hS (by omega) k_5) rfl (by omega) (by exact Nat.le_of_ble_eq_true rfl) (show 0 + 0 ≤ 1 by omega) (show 0 + 0 ≤ 6 by omega) ?_
  by_cases c_8 : e_5 = 0
  · replace h := it_t h c_8
    obtain rfl := Sum.inr.inj (Option.some.inj h)
    exact wx_needF dX11_slack_8 nl_needIndex my_X11_needIndex sv_X11_needIndex (mF_needIndex (d := d - 1) (by omega) c_8) (by omega) (by exact Nat.le_of_ble_eq_true rfl) (show 0 + 1 ≤ 1 by omega) (show 0 + 6 ≤ 6 by omega) g
  replace h := it_f h c_8
  refine wx_needT dX11_slack_8 nl_needIndex my_X11_needIndex sv_X11_needIndex (mT_needIndex (d := d - 1) c_8) (by omega) (by exact Nat.le_of_ble_eq_true rfl) (show 0 + 0 ≤ 1 by omega) (show 0 + 0 ≤ 6 by omega) ?_
  obtain ⟨r_11, k_11, h⟩ := bd1_some h
  cases h
noncomputable def f_X11_taut_38 (sh : px_Sh) (M : px_M) (L : px_L) (R : px_R) (z0 : Int32) : Option (Int32 × px_M × px_L × px_R) :=
  ok (zb z0) <|
  some (z0, M, L, R)
theorem s_X11_taut_38 {z0 : Int32} {M : px_M} {L : px_L} {R : px_R} {e : (Int32 × px_M × px_L × px_R)} (hS : SR sh R) (hd : 7 ≤ d) (hcu : cu ≤ mc) (hsu : su ≤ ms) (h : f_X11_taut_38 sh M L R z0 = some e) (g : SR sh (e.2.2.2) → Post (some (.int (e.1))) sh (e.2.1) (e.2.2.1) (e.2.2.2) n) : WX RX11 cX11_taut 2 (some .boolean) ("taut", []) d mc ms X (px_QF Post mc ms) 38 [] [.int z0] sh M L R n cu su := by
  unfold f_X11_taut_38 at h
  obtain ⟨w_38, h⟩ := ok_some h
  refine wx_zret dX11_taut_38 (zb_n w_38) hcu hsu ?_
  obtain rfl := Option.some.inj h
  exact g hS
noncomputable def f_X11_taut_11 (sh : px_Sh) (M : px_M) (L : px_L) (R : px_R) (x1 : Int32) : Option (Int32 × px_M × px_L × px_R) :=
  bd1 (f_X4_settle sh M L R) fun e_15 =>
  if (((e_15.1 40 12) >>> (x1 &&& 31)) &&& 1) = 1 then
    f_X11_taut_38 sh e_15.1 e_15.2.1 e_15.2.2 1
  else
    f_X11_taut_38 sh e_15.1 e_15.2.1 e_15.2.2 0
theorem s_X11_taut_11 {x1 : Int32} {M : px_M} {L : px_L} {R : px_R} {e : (Int32 × px_M × px_L × px_R)} (hS : SR sh R) (hd : 7 ≤ d) (hcu : cu ≤ mc) (hsu : su ≤ ms) (h : f_X11_taut_11 sh M L R x1 = some e) (g : SR sh (e.2.2.2) → Post (some (.int (e.1))) sh (e.2.1) (e.2.2.1) (e.2.2.2) n) : WX RX11 cX11_taut 2 (some .boolean) ("taut", []) d mc ms X (px_QF Post mc ms) 11 [(0, .ref 0), (1, .int x1)] [] sh M L R n cu su := by
  unfold f_X11_taut_11 at h
  refine wx_aload_n dX11_taut_11 rfl ?_
  refine wx_getR dX11_taut_12 fl_X11_47 (sc_0 hS) rfl (rr_0_5 hS) ?_
  obtain ⟨e_15, k_15, h⟩ := bd1_some h
  refine wx_cVvS dX11_taut_15 ml_X11_300 my_X4_settle iv_X4_settle (sc_40 hS) (by decide) (s_X4_settle (d := d - 1) hS (by omega) k_15) rfl (by omega) (by exact Nat.le_of_ble_eq_true rfl) hcu hsu (fun hS => ?_)
  refine wx_aload_n dX11_taut_18 rfl ?_
  refine wx_getR dX11_taut_19 fl_X11_47 (sc_0 hS) rfl (rr_0_5 hS) ?_
  refine wx_getI dX11_taut_22 fl_X11_312 (sc_40 hS) rfl ?_
  refine wx_iload_n dX11_taut_25 rfl ?_
  refine wx_ishr dX11_taut_26 ?_
  refine wx_iconst (v := 1) dX11_taut_27 (by decide) ?_
  refine wx_iand dX11_taut_28 ?_
  refine wx_iconst (v := 1) dX11_taut_29 (by decide) ?_
  refine wx_icmp_ne (tgt := 37) dX11_taut_30 (by decide) (fun c_30 => ?_) (fun c_30 => ?_)
  · replace h := it_f h c_30
    refine wx_iconst (v := 0) dX11_taut_37 (by decide) ?_
    exact wx_sub (s_X11_taut_38 hS hd hcu hsu h g) px_0
  · replace h := it_t h c_30
    refine wx_iconst (v := 1) dX11_taut_33 (by decide) ?_
    refine wx_goto (tgt := 38) dX11_taut_34 (by decide) ?_
    exact wx_sub (s_X11_taut_38 hS hd hcu hsu h g) px_0
noncomputable def f_X11_taut (sh : px_Sh) (M : px_M) (L : px_L) (R : px_R) (p1 : Int32) : Option ((Int32 × px_M × px_L × px_R) ⊕ Nat) :=
  bd1 (f_X4_hasString M p1) fun e_5 =>
  if e_5 = 0 then some (.inr 2) else
  bd1 (f_X11_taut_11 sh M L R p1) fun r_11 => some (.inl r_11)
theorem s_X11_taut {d : Nat} {X : Nat × (Nat → Int32)} {sh : px_Sh} {M : px_M} {L : px_L} {R : px_R} {n : Nat} {p1 : Int32} {e : Int32 × px_M × px_L × px_R} (hS : SR sh R) (hd : 7 ≤ d) (h : f_X11_taut sh M L R p1 = some (.inl e)) : MXT yX11_taut cX11_taut 2 (some .boolean) d 0 0 X [.ref 0, .int p1] sh M L R n (px_ps (some (.int e.1)) sh e.2.1 e.2.2.1 e.2.2.2 n) px_nx := by
  refine MXT.of (by decide +kernel) (by exact Nat.le_of_ble_eq_true rfl) ?_
  have hcu : 0 ≤ 0 := Nat.zero_le _
  have hsu : 0 ≤ 0 := Nat.zero_le _
  have g : SR sh e.2.2.2 → px_ps (some (.int e.1)) sh e.2.1 e.2.2.1 e.2.2.2 n (some (.int e.1)) sh e.2.1 e.2.2.1 e.2.2.2 n := fun q => ⟨⟨rfl, rfl, rfl, rfl, rfl, rfl⟩, q⟩
  unfold f_X11_taut at h
  refine wx_aload_n dX11_taut_0 rfl ?_
  refine wx_getR dX11_taut_1 fl_X11_47 (sc_0 hS) rfl (rr_0_5 hS) ?_
  refine wx_iload_n dX11_taut_4 rfl ?_
  obtain ⟨e_5, k_5, h⟩ := bd1_some h
  refine wx_cVi dX11_taut_5 ml_X11_306 my_X4_hasString iv_X4_hasString (sc_40 hS) (by decide) (s_X4_hasString (d := d - 1) hS (by omega) k_5) rfl (by omega) (by exact Nat.le_of_ble_eq_true rfl) (show 0 + 0 ≤ 0 by omega) (show 0 + 0 ≤ 0 by omega) ?_
  by_cases c_8 : e_5 = 0
  · replace h := it_t h c_8
    cases h
  replace h := it_f h c_8
  refine wx_needT dX11_taut_8 nl_needIndex my_X11_needIndex sv_X11_needIndex (mT_needIndex (d := d - 1) c_8) (by omega) (by exact Nat.le_of_ble_eq_true rfl) (show 0 + 0 ≤ 0 by omega) (show 0 + 0 ≤ 0 by omega) ?_
  obtain ⟨r_11, k_11, h⟩ := bd1_some h
  cases h
  exact wx_rx (wx_sub (s_X11_taut_11 hS hd (show 0 + 0 ≤ 0 by omega) (show 0 + 0 ≤ 0 by omega) k_11 g) (px_s rfl (px_s rfl px_0)))
theorem x_X11_taut {d : Nat} {X : Nat × (Nat → Int32)} {sh : px_Sh} {M : px_M} {L : px_L} {R : px_R} {n : Nat} {p1 : Int32} {e : Nat} (hS : SR sh R) (hd : 7 ≤ d) (h : f_X11_taut sh M L R p1 = some (.inr e)) : MXT yX11_taut cX11_taut 2 (some .boolean) d 1 6 X [.ref 0, .int p1] sh M L R n px_np (px_px (px_xn e) sh M L R n) := by
  refine MXT.of (by decide +kernel) (by exact Nat.le_of_ble_eq_true rfl) ?_
  have hcu : 0 ≤ 1 := Nat.zero_le _
  have hsu : 0 ≤ 6 := Nat.zero_le _
  have g : ∀ n', n ≤ n' → px_px (px_xn e) sh M L R n (px_xn e) sh M L R n' := fun n' hn => ⟨rfl, rfl, rfl, rfl, rfl, hn⟩
  unfold f_X11_taut at h
  refine wx_aload_n dX11_taut_0 rfl ?_
  refine wx_getR dX11_taut_1 fl_X11_47 (sc_0 hS) rfl (rr_0_5 hS) ?_
  refine wx_iload_n dX11_taut_4 rfl ?_
  obtain ⟨e_5, k_5, h⟩ := bd1_some h
  refine wx_cVi dX11_taut_5 ml_X11_306 my_X4_hasString iv_X4_hasString (sc_40 hS) (by decide) (s_X4_hasString (d := d - 1) hS (by omega) k_5) rfl (by omega) (by exact Nat.le_of_ble_eq_true rfl) (show 0 + 0 ≤ 1 by omega) (show 0 + 0 ≤ 6 by omega) ?_
  by_cases c_8 : e_5 = 0
  · replace h := it_t h c_8
    obtain rfl := Sum.inr.inj (Option.some.inj h)
    exact wx_needF dX11_taut_8 nl_needIndex my_X11_needIndex sv_X11_needIndex (mF_needIndex (d := d - 1) (by omega) c_8) (by omega) (by exact Nat.le_of_ble_eq_true rfl) (show 0 + 1 ≤ 1 by omega) (show 0 + 6 ≤ 6 by omega) g
  replace h := it_f h c_8
  refine wx_needT dX11_taut_8 nl_needIndex my_X11_needIndex sv_X11_needIndex (mT_needIndex (d := d - 1) c_8) (by omega) (by exact Nat.le_of_ble_eq_true rfl) (show 0 + 0 ≤ 1 by omega) (show 0 + 0 ≤ 6 by omega) ?_
  obtain ⟨r_11, k_11, h⟩ := bd1_some h
  cases h
noncomputable def f_X11_ease_51 (sh : px_Sh) (M : px_M) (L : px_L) (R : px_R) (z0 : Int64) : Option (Int64 × px_M × px_L × px_R) :=
  some (z0, M, L, R)
theorem s_X11_ease_51 {z0 : Int64} {M : px_M} {L : px_L} {R : px_R} {e : (Int64 × px_M × px_L × px_R)} (hS : SR sh R) (hd : 7 ≤ d) (hcu : cu ≤ mc) (hsu : su ≤ ms) (h : f_X11_ease_51 sh M L R z0 = some e) (g : SR sh (e.2.2.2) → Post (some (.long (e.1))) sh (e.2.1) (e.2.2.1) (e.2.2.2) n) : WX RX11 cX11_ease 2 (some .long) ("ease", []) d mc ms X (px_QF Post mc ms) 51 [] [.long z0] sh M L R n cu su := by
  unfold f_X11_ease_51 at h
  refine wx_lret dX11_ease_51 hcu hsu ?_
  obtain rfl := Option.some.inj h
  exact g hS
noncomputable def f_X11_ease_9 (sh : px_Sh) (M : px_M) (L : px_L) (R : px_R) (x1 : Int32) : Option (Int64 × px_M × px_L × px_R) :=
  bd1 (f_X4_settle sh M L R) fun e_13 =>
  if (e_13.1 40 10) = 0 then
    some ((-1), e_13.1, e_13.2.1, e_13.2.2)
  else
    if x1 = 0 then
      f_X11_ease_51 sh e_13.1 e_13.2.1 e_13.2.2 (e_13.2.1 40 13)
    else
      f_X11_ease_51 sh e_13.1 e_13.2.1 e_13.2.2 (e_13.2.1 40 14)
theorem s_X11_ease_9 {x1 : Int32} {M : px_M} {L : px_L} {R : px_R} {e : (Int64 × px_M × px_L × px_R)} (hS : SR sh R) (hd : 7 ≤ d) (hcu : cu ≤ mc) (hsu : su ≤ ms) (h : f_X11_ease_9 sh M L R x1 = some e) (g : SR sh (e.2.2.2) → Post (some (.long (e.1))) sh (e.2.1) (e.2.2.1) (e.2.2.2) n) : WX RX11 cX11_ease 2 (some .long) ("ease", []) d mc ms X (px_QF Post mc ms) 9 [(0, .ref 0), (1, .int x1)] [] sh M L R n cu su := by
  unfold f_X11_ease_9 at h
  refine wx_aload_n dX11_ease_9 rfl ?_
  refine wx_getR dX11_ease_10 fl_X11_47 (sc_0 hS) rfl (rr_0_5 hS) ?_
  obtain ⟨e_13, k_13, h⟩ := bd1_some h
  refine wx_cVvS dX11_ease_13 ml_X11_300 my_X4_settle iv_X4_settle (sc_40 hS) (by decide) (s_X4_settle (d := d - 1) hS (by omega) k_13) rfl (by omega) (by exact Nat.le_of_ble_eq_true rfl) hcu hsu (fun hS => ?_)
  refine wx_aload_n dX11_ease_16 rfl ?_
  refine wx_getR dX11_ease_17 fl_X11_47 (sc_0 hS) rfl (rr_0_5 hS) ?_
  refine wx_getI dX11_ease_20 fl_X11_303 (sc_40 hS) rfl ?_
  refine wx_if_ne (tgt := 30) dX11_ease_23 (by decide) (fun c_23 => ?_) (fun c_23 => ?_)
  · replace h := it_f h c_23
    refine wx_iload_n dX11_ease_30 rfl ?_
    refine wx_if_ne (tgt := 44) dX11_ease_31 (by decide) (fun c_31 => ?_) (fun c_31 => ?_)
    · replace h := it_f h c_31
      refine wx_aload_n dX11_ease_44 rfl ?_
      refine wx_getR dX11_ease_45 fl_X11_47 (sc_0 hS) rfl (rr_0_5 hS) ?_
      refine wx_getL dX11_ease_48 fl_X11_321 (sc_40 hS) rfl ?_
      exact wx_sub (s_X11_ease_51 hS hd hcu hsu h g) px_0
    · replace h := it_t h c_31
      refine wx_aload_n dX11_ease_34 rfl ?_
      refine wx_getR dX11_ease_35 fl_X11_47 (sc_0 hS) rfl (rr_0_5 hS) ?_
      refine wx_getL dX11_ease_38 fl_X11_317 (sc_40 hS) rfl ?_
      refine wx_goto (tgt := 51) dX11_ease_41 (by decide) ?_
      exact wx_sub (s_X11_ease_51 hS hd hcu hsu h g) px_0
  · replace h := it_t h c_23
    refine wx_ldc2 dX11_ease_26 kl_X11_315 ?_
    refine wx_lret dX11_ease_29 hcu hsu ?_
    obtain rfl := Option.some.inj h
    exact g hS
noncomputable def f_X11_ease (sh : px_Sh) (M : px_M) (L : px_L) (R : px_R) (p1 : Int32) : Option ((Int64 × px_M × px_L × px_R) ⊕ Nat) :=
  bd1 (f_X11_within p1 0 1) fun e_3 =>
  if e_3 = 0 then some (.inr 0) else
  bd1 (f_X11_ease_9 sh M L R p1) fun r_9 => some (.inl r_9)
theorem s_X11_ease {d : Nat} {X : Nat × (Nat → Int32)} {sh : px_Sh} {M : px_M} {L : px_L} {R : px_R} {n : Nat} {p1 : Int32} {e : Int64 × px_M × px_L × px_R} (hS : SR sh R) (hd : 7 ≤ d) (h : f_X11_ease sh M L R p1 = some (.inl e)) : MXT yX11_ease cX11_ease 2 (some .long) d 0 0 X [.ref 0, .int p1] sh M L R n (px_ps (some (.long e.1)) sh e.2.1 e.2.2.1 e.2.2.2 n) px_nx := by
  refine MXT.of (by decide +kernel) (by exact Nat.le_of_ble_eq_true rfl) ?_
  have hcu : 0 ≤ 0 := Nat.zero_le _
  have hsu : 0 ≤ 0 := Nat.zero_le _
  have g : SR sh e.2.2.2 → px_ps (some (.long e.1)) sh e.2.1 e.2.2.1 e.2.2.2 n (some (.long e.1)) sh e.2.1 e.2.2.1 e.2.2.2 n := fun q => ⟨⟨rfl, rfl, rfl, rfl, rfl, rfl⟩, q⟩
  unfold f_X11_ease at h
  refine wx_iload_n dX11_ease_0 rfl ?_
  refine wx_iconst (v := 0) dX11_ease_1 (by decide) ?_
  refine wx_iconst (v := 1) dX11_ease_2 (by decide) ?_
  obtain ⟨e_3, k_3, h⟩ := bd1_some h
  refine wx_cSi dX11_ease_3 ml_X11_65 my_X11_within sv_X11_within (s_X11_within (d := d - 1) hS (by omega) k_3) rfl (by omega) (by exact Nat.le_of_ble_eq_true rfl) (show 0 + 0 ≤ 0 by omega) (show 0 + 0 ≤ 0 by omega) ?_
  by_cases c_6 : e_3 = 0
  · replace h := it_t h c_6
    cases h
  replace h := it_f h c_6
  refine wx_needT dX11_ease_6 nl_needArgument my_X11_needArgument sv_X11_needArgument (mT_needArgument (d := d - 1) c_6) (by omega) (by exact Nat.le_of_ble_eq_true rfl) (show 0 + 0 ≤ 0 by omega) (show 0 + 0 ≤ 0 by omega) ?_
  obtain ⟨r_9, k_9, h⟩ := bd1_some h
  cases h
  exact wx_rx (wx_sub (s_X11_ease_9 hS hd (show 0 + 0 ≤ 0 by omega) (show 0 + 0 ≤ 0 by omega) k_9 g) (px_s rfl (px_s rfl px_0)))
theorem x_X11_ease {d : Nat} {X : Nat × (Nat → Int32)} {sh : px_Sh} {M : px_M} {L : px_L} {R : px_R} {n : Nat} {p1 : Int32} {e : Nat} (hS : SR sh R) (hd : 7 ≤ d) (h : f_X11_ease sh M L R p1 = some (.inr e)) : MXT yX11_ease cX11_ease 2 (some .long) d 1 6 X [.ref 0, .int p1] sh M L R n px_np (px_px (px_xn e) sh M L R n) := by
  refine MXT.of (by decide +kernel) (by exact Nat.le_of_ble_eq_true rfl) ?_
  have hcu : 0 ≤ 1 := Nat.zero_le _
  have hsu : 0 ≤ 6 := Nat.zero_le _
  have g : ∀ n', n ≤ n' → px_px (px_xn e) sh M L R n (px_xn e) sh M L R n' := fun n' hn => ⟨rfl, rfl, rfl, rfl, rfl, hn⟩
  unfold f_X11_ease at h
  refine wx_iload_n dX11_ease_0 rfl ?_
  refine wx_iconst (v := 0) dX11_ease_1 (by decide) ?_
  refine wx_iconst (v := 1) dX11_ease_2 (by decide) ?_
  obtain ⟨e_3, k_3, h⟩ := bd1_some h
  refine wx_cSi dX11_ease_3 ml_X11_65 my_X11_within sv_X11_within (s_X11_within (d := d - 1) hS (by omega) k_3) rfl (by omega) (by exact Nat.le_of_ble_eq_true rfl) (show 0 + 0 ≤ 1 by omega) (show 0 + 0 ≤ 6 by omega) ?_
  by_cases c_6 : e_3 = 0
  · replace h := it_t h c_6
    obtain rfl := Sum.inr.inj (Option.some.inj h)
    exact wx_needF dX11_ease_6 nl_needArgument my_X11_needArgument sv_X11_needArgument (mF_needArgument (d := d - 1) (by omega) c_6) (by omega) (by exact Nat.le_of_ble_eq_true rfl) (show 0 + 1 ≤ 1 by omega) (show 0 + 6 ≤ 6 by omega) g
  replace h := it_f h c_6
  refine wx_needT dX11_ease_6 nl_needArgument my_X11_needArgument sv_X11_needArgument (mT_needArgument (d := d - 1) c_6) (by omega) (by exact Nat.le_of_ble_eq_true rfl) (show 0 + 0 ≤ 1 by omega) (show 0 + 0 ≤ 6 by omega) ?_
  obtain ⟨r_9, k_9, h⟩ := bd1_some h
  cases h
noncomputable def f_X11_offer_38 (M : px_M) (x1 : Int32) (x2 : Int32) (x3 : Int32) (x4 : Int32) : Option (Int32 × px_M) :=
  bd1 (f_X0_addOffer M x1 x2 x3 x4) fun e_47 =>
  some (e_47.1, e_47.2)
theorem s_X11_offer_38 {x1 : Int32} {x2 : Int32} {x3 : Int32} {x4 : Int32} {M : px_M} {L : px_L} {R : px_R} {e : (Int32 × px_M)} (hS : SR sh R) (hd : 7 ≤ d) (hcu : cu ≤ mc) (hsu : su ≤ ms) (h : f_X11_offer_38 M x1 x2 x3 x4 = some e) (g : Post (some (.int (e.1))) sh (e.2) L R n) : WX RX11 cX11_offer 5 (some .int) ("offer", []) d mc ms X (px_QF Post mc ms) 38 [(0, .ref 0), (1, .int x1), (2, .int x2), (3, .int x3), (4, .int x4)] [] sh M L R n cu su := by
  unfold f_X11_offer_38 at h
  refine wx_aload_n dX11_offer_38 rfl ?_
  refine wx_getR dX11_offer_39 fl_X11_54 (sc_0 hS) rfl (rr_0_6 hS) ?_
  refine wx_iload_n dX11_offer_42 rfl ?_
  refine wx_iload_n dX11_offer_43 rfl ?_
  refine wx_iload_n dX11_offer_44 rfl ?_
  refine wx_iload dX11_offer_45 rfl ?_
  obtain ⟨e_47, k_47, h⟩ := bd1_some h
  refine wx_cVi dX11_offer_47 ml_X11_327 my_X0_addOffer iv_X0_addOffer (sc_61 hS) (by decide) (s_X0_addOffer (d := d - 1) hS (by omega) k_47) rfl (by omega) (by exact Nat.le_of_ble_eq_true rfl) hcu hsu ?_
  refine wx_iret dX11_offer_50 hcu hsu ?_
  obtain rfl := Option.some.inj h
  exact g
noncomputable def f_X11_offer_35 (M : px_M) (x1 : Int32) (x2 : Int32) (x3 : Int32) (x4 : Int32) (z0 : Int32) : Option ((Int32 × px_M) ⊕ Nat) :=
  if z0 = 0 then some (.inr 0) else
  bd1 (f_X11_offer_38 M x1 x2 x3 x4) fun r_38 => some (.inl r_38)
theorem s_X11_offer_35 {x1 : Int32} {x2 : Int32} {x3 : Int32} {x4 : Int32} {z0 : Int32} {PX : px_PX} {M : px_M} {L : px_L} {R : px_R} {e : Int32 × px_M} (hS : SR sh R) (hd : 7 ≤ d) (hcu : cu ≤ mc) (hsu : su ≤ ms) (h : f_X11_offer_35 M x1 x2 x3 x4 z0 = some (.inl e)) (g : Post (some (.int (e.1))) sh (e.2) L R n) : WX RX11 cX11_offer 5 (some .int) ("offer", []) d mc ms X (px_QX Post PX mc ms) 35 [(0, .ref 0), (1, .int x1), (2, .int x2), (3, .int x3), (4, .int x4)] [.int z0] sh M L R n cu su := by
  unfold f_X11_offer_35 at h
  by_cases c_35 : z0 = 0
  · replace h := it_t h c_35
    cases h
  replace h := it_f h c_35
  refine wx_needT dX11_offer_35 nl_needArgument my_X11_needArgument sv_X11_needArgument (mT_needArgument (d := d - 1) c_35) (by omega) (by exact Nat.le_of_ble_eq_true rfl) (show cu + 0 ≤ mc by omega) (show su + 0 ≤ ms by omega) ?_
  obtain ⟨r_38, k_38, h⟩ := bd1_some h
  cases h
  exact wx_rx (wx_sub (s_X11_offer_38 hS hd (show cu + 0 ≤ mc by omega) (show su + 0 ≤ ms by omega) k_38 g) (px_s rfl (px_s rfl (px_s rfl (px_s rfl (px_s rfl px_0))))))
theorem x_X11_offer_35 {x1 : Int32} {x2 : Int32} {x3 : Int32} {x4 : Int32} {z0 : Int32} {PX : px_PX} {M : px_M} {L : px_L} {R : px_R} {e : Nat} (hS : SR sh R) (hd : 7 ≤ d) (hcu : cu + 1 ≤ mc) (hsu : su + 6 ≤ ms) (h : f_X11_offer_35 M x1 x2 x3 x4 z0 = some (.inr e)) (g : ∀ n', n ≤ n' → PX (px_xn e) sh M L R n') : WX RX11 cX11_offer 5 (some .int) ("offer", []) d mc ms X (px_QX Post PX mc ms) 35 [(0, .ref 0), (1, .int x1), (2, .int x2), (3, .int x3), (4, .int x4)] [.int z0] sh M L R n cu su := by
  unfold f_X11_offer_35 at h
  by_cases c_35 : z0 = 0
  · replace h := it_t h c_35
    obtain rfl := Sum.inr.inj (Option.some.inj h)
    exact wx_needF dX11_offer_35 nl_needArgument my_X11_needArgument sv_X11_needArgument (mF_needArgument (d := d - 1) (by omega) c_35) (by omega) (by exact Nat.le_of_ble_eq_true rfl) (show cu + 1 ≤ mc by omega) (show su + 6 ≤ ms by omega) g
  replace h := it_f h c_35
  refine wx_needT dX11_offer_35 nl_needArgument my_X11_needArgument sv_X11_needArgument (mT_needArgument (d := d - 1) c_35) (by omega) (by exact Nat.le_of_ble_eq_true rfl) (show cu + 0 ≤ mc by omega) (show su + 0 ≤ ms by omega) ?_
  obtain ⟨r_38, k_38, h⟩ := bd1_some h
  cases h
noncomputable def f_X11_offer_34 (M : px_M) (x1 : Int32) (x2 : Int32) (x3 : Int32) (x4 : Int32) : Option ((Int32 × px_M) ⊕ Nat) :=
  f_X11_offer_35 M x1 x2 x3 x4 0
theorem s_X11_offer_34 {x1 : Int32} {x2 : Int32} {x3 : Int32} {x4 : Int32} {PX : px_PX} {M : px_M} {L : px_L} {R : px_R} {e : Int32 × px_M} (hS : SR sh R) (hd : 7 ≤ d) (hcu : cu ≤ mc) (hsu : su ≤ ms) (h : f_X11_offer_34 M x1 x2 x3 x4 = some (.inl e)) (g : Post (some (.int (e.1))) sh (e.2) L R n) : WX RX11 cX11_offer 5 (some .int) ("offer", []) d mc ms X (px_QX Post PX mc ms) 34 [(0, .ref 0), (1, .int x1), (2, .int x2), (3, .int x3), (4, .int x4)] [] sh M L R n cu su := by
  unfold f_X11_offer_34 at h
  refine wx_iconst (v := 0) dX11_offer_34 (by decide) ?_
  exact wx_sub (s_X11_offer_35 hS hd (show cu + 0 ≤ mc by omega) (show su + 0 ≤ ms by omega) h g) (px_s rfl (px_s rfl (px_s rfl (px_s rfl (px_s rfl px_0)))))
theorem x_X11_offer_34 {x1 : Int32} {x2 : Int32} {x3 : Int32} {x4 : Int32} {PX : px_PX} {M : px_M} {L : px_L} {R : px_R} {e : Nat} (hS : SR sh R) (hd : 7 ≤ d) (hcu : cu + 1 ≤ mc) (hsu : su + 6 ≤ ms) (h : f_X11_offer_34 M x1 x2 x3 x4 = some (.inr e)) (g : ∀ n', n ≤ n' → PX (px_xn e) sh M L R n') : WX RX11 cX11_offer 5 (some .int) ("offer", []) d mc ms X (px_QX Post PX mc ms) 34 [(0, .ref 0), (1, .int x1), (2, .int x2), (3, .int x3), (4, .int x4)] [] sh M L R n cu su := by
  unfold f_X11_offer_34 at h
  refine wx_iconst (v := 0) dX11_offer_34 (by decide) ?_
  exact wx_sub (x_X11_offer_35 hS hd (show cu + 1 ≤ mc by omega) (show su + 6 ≤ ms by omega) h g) (px_s rfl (px_s rfl (px_s rfl (px_s rfl (px_s rfl px_0)))))
noncomputable def f_X11_offer (M : px_M) (p1 : Int32) (p2 : Int32) (p3 : Int32) (p4 : Int32) : Option ((Int32 × px_M) ⊕ Nat) :=
  bd1 (f_X11_isSpot p1 p2) fun e_2 =>
  if e_2 = 0 then
    f_X11_offer_34 M p1 p2 p3 p4
  else
    bd1 (f_X11_within p3 0 1000) fun e_13 =>
    if e_13 = 0 then
      f_X11_offer_34 M p1 p2 p3 p4
    else
      bd1 (f_X11_within p4 0 100) fun e_24 =>
      if e_24 = 0 then
        f_X11_offer_34 M p1 p2 p3 p4
      else
        f_X11_offer_35 M p1 p2 p3 p4 1
theorem s_X11_offer {d : Nat} {X : Nat × (Nat → Int32)} {sh : px_Sh} {M : px_M} {L : px_L} {R : px_R} {n : Nat} {p1 : Int32} {p2 : Int32} {p3 : Int32} {p4 : Int32} {e : Int32 × px_M} (hS : SR sh R) (hd : 7 ≤ d) (h : f_X11_offer M p1 p2 p3 p4 = some (.inl e)) : MXT yX11_offer cX11_offer 5 (some .int) d 0 0 X [.ref 0, .int p1, .int p2, .int p3, .int p4] sh M L R n (px_pu (some (.int e.1)) sh e.2 L R n) px_nx := by
  refine MXT.of (by decide +kernel) (by exact Nat.le_of_ble_eq_true rfl) ?_
  have hcu : 0 ≤ 0 := Nat.zero_le _
  have hsu : 0 ≤ 0 := Nat.zero_le _
  have g : px_pu (some (.int e.1)) sh e.2 L R n (some (.int e.1)) sh e.2 L R n := ⟨rfl, rfl, rfl, rfl, rfl, rfl⟩
  unfold f_X11_offer at h
  refine wx_iload_n dX11_offer_0 rfl ?_
  refine wx_iload_n dX11_offer_1 rfl ?_
  obtain ⟨e_2, k_2, h⟩ := bd1_some h
  refine wx_cSi dX11_offer_2 ml_X11_119 my_X11_isSpot sv_X11_isSpot (s_X11_isSpot (d := d - 1) hS (by omega) k_2) rfl (by omega) (by exact Nat.le_of_ble_eq_true rfl) (show 0 + 0 ≤ 0 by omega) (show 0 + 0 ≤ 0 by omega) ?_
  refine wx_if_eq (tgt := 34) dX11_offer_5 (by decide) (fun c_5 => ?_) (fun c_5 => ?_)
  · replace h := it_t h c_5
    exact wx_sub (s_X11_offer_34 hS hd (show 0 + 0 ≤ 0 by omega) (show 0 + 0 ≤ 0 by omega) h g) (px_s rfl (px_s rfl (px_s rfl (px_s rfl (px_s rfl px_0)))))
  · replace h := it_f h c_5
    refine wx_iload_n dX11_offer_8 rfl ?_
    refine wx_iconst (v := 0) dX11_offer_9 (by decide) ?_
    refine wx_sipush (v := 1000) dX11_offer_10 (by decide) ?_
    obtain ⟨e_13, k_13, h⟩ := bd1_some h
    refine wx_cSi dX11_offer_13 ml_X11_65 my_X11_within sv_X11_within (s_X11_within (d := d - 1) hS (by omega) k_13) rfl (by omega) (by exact Nat.le_of_ble_eq_true rfl) (show 0 + 0 ≤ 0 by omega) (show 0 + 0 ≤ 0 by omega) ?_
    refine wx_if_eq (tgt := 34) dX11_offer_16 (by decide) (fun c_16 => ?_) (fun c_16 => ?_)
    · replace h := it_t h c_16
      exact wx_sub (s_X11_offer_34 hS hd (show 0 + 0 ≤ 0 by omega) (show 0 + 0 ≤ 0 by omega) h g) (px_s rfl (px_s rfl (px_s rfl (px_s rfl (px_s rfl px_0)))))
    · replace h := it_f h c_16
      refine wx_iload dX11_offer_19 rfl ?_
      refine wx_iconst (v := 0) dX11_offer_21 (by decide) ?_
      refine wx_bipush (v := 100) dX11_offer_22 (by decide) ?_
      obtain ⟨e_24, k_24, h⟩ := bd1_some h
      refine wx_cSi dX11_offer_24 ml_X11_65 my_X11_within sv_X11_within (s_X11_within (d := d - 1) hS (by omega) k_24) rfl (by omega) (by exact Nat.le_of_ble_eq_true rfl) (show 0 + 0 ≤ 0 by omega) (show 0 + 0 ≤ 0 by omega) ?_
      refine wx_if_eq (tgt := 34) dX11_offer_27 (by decide) (fun c_27 => ?_) (fun c_27 => ?_)
      · replace h := it_t h c_27
        exact wx_sub (s_X11_offer_34 hS hd (show 0 + 0 ≤ 0 by omega) (show 0 + 0 ≤ 0 by omega) h g) (px_s rfl (px_s rfl (px_s rfl (px_s rfl (px_s rfl px_0)))))
      · replace h := it_f h c_27
        refine wx_iconst (v := 1) dX11_offer_30 (by decide) ?_
        refine wx_goto (tgt := 35) dX11_offer_31 (by decide) ?_
        exact wx_sub (s_X11_offer_35 hS hd (show 0 + 0 ≤ 0 by omega) (show 0 + 0 ≤ 0 by omega) h g) (px_s rfl (px_s rfl (px_s rfl (px_s rfl (px_s rfl px_0)))))
theorem x_X11_offer {d : Nat} {X : Nat × (Nat → Int32)} {sh : px_Sh} {M : px_M} {L : px_L} {R : px_R} {n : Nat} {p1 : Int32} {p2 : Int32} {p3 : Int32} {p4 : Int32} {e : Nat} (hS : SR sh R) (hd : 7 ≤ d) (h : f_X11_offer M p1 p2 p3 p4 = some (.inr e)) : MXT yX11_offer cX11_offer 5 (some .int) d 1 6 X [.ref 0, .int p1, .int p2, .int p3, .int p4] sh M L R n px_np (px_px (px_xn e) sh M L R n) := by
  refine MXT.of (by decide +kernel) (by exact Nat.le_of_ble_eq_true rfl) ?_
  have hcu : 0 ≤ 1 := Nat.zero_le _
  have hsu : 0 ≤ 6 := Nat.zero_le _
  have g : ∀ n', n ≤ n' → px_px (px_xn e) sh M L R n (px_xn e) sh M L R n' := fun n' hn => ⟨rfl, rfl, rfl, rfl, rfl, hn⟩
  unfold f_X11_offer at h
  refine wx_iload_n dX11_offer_0 rfl ?_
  refine wx_iload_n dX11_offer_1 rfl ?_
  obtain ⟨e_2, k_2, h⟩ := bd1_some h
  refine wx_cSi dX11_offer_2 ml_X11_119 my_X11_isSpot sv_X11_isSpot (s_X11_isSpot (d := d - 1) hS (by omega) k_2) rfl (by omega) (by exact Nat.le_of_ble_eq_true rfl) (show 0 + 0 ≤ 1 by omega) (show 0 + 0 ≤ 6 by omega) ?_
  refine wx_if_eq (tgt := 34) dX11_offer_5 (by decide) (fun c_5 => ?_) (fun c_5 => ?_)
  · replace h := it_t h c_5
    exact wx_sub (x_X11_offer_34 hS hd (show 0 + 1 ≤ 1 by omega) (show 0 + 6 ≤ 6 by omega) h g) (px_s rfl (px_s rfl (px_s rfl (px_s rfl (px_s rfl px_0)))))
  · replace h := it_f h c_5
    refine wx_iload_n dX11_offer_8 rfl ?_
    refine wx_iconst (v := 0) dX11_offer_9 (by decide) ?_
    refine wx_sipush (v := 1000) dX11_offer_10 (by decide) ?_
    obtain ⟨e_13, k_13, h⟩ := bd1_some h
    refine wx_cSi dX11_offer_13 ml_X11_65 my_X11_within sv_X11_within (s_X11_within (d := d - 1) hS (by omega) k_13) rfl (by omega) (by exact Nat.le_of_ble_eq_true rfl) (show 0 + 0 ≤ 1 by omega) (show 0 + 0 ≤ 6 by omega) ?_
    refine wx_if_eq (tgt := 34) dX11_offer_16 (by decide) (fun c_16 => ?_) (fun c_16 => ?_)
    · replace h := it_t h c_16
      exact wx_sub (x_X11_offer_34 hS hd (show 0 + 1 ≤ 1 by omega) (show 0 + 6 ≤ 6 by omega) h g) (px_s rfl (px_s rfl (px_s rfl (px_s rfl (px_s rfl px_0)))))
    · replace h := it_f h c_16
      refine wx_iload dX11_offer_19 rfl ?_
      refine wx_iconst (v := 0) dX11_offer_21 (by decide) ?_
      refine wx_bipush (v := 100) dX11_offer_22 (by decide) ?_
      obtain ⟨e_24, k_24, h⟩ := bd1_some h
      refine wx_cSi dX11_offer_24 ml_X11_65 my_X11_within sv_X11_within (s_X11_within (d := d - 1) hS (by omega) k_24) rfl (by omega) (by exact Nat.le_of_ble_eq_true rfl) (show 0 + 0 ≤ 1 by omega) (show 0 + 0 ≤ 6 by omega) ?_
      refine wx_if_eq (tgt := 34) dX11_offer_27 (by decide) (fun c_27 => ?_) (fun c_27 => ?_)
      · replace h := it_t h c_27
        exact wx_sub (x_X11_offer_34 hS hd (show 0 + 1 ≤ 1 by omega) (show 0 + 6 ≤ 6 by omega) h g) (px_s rfl (px_s rfl (px_s rfl (px_s rfl (px_s rfl px_0)))))
      · replace h := it_f h c_27
        refine wx_iconst (v := 1) dX11_offer_30 (by decide) ?_
        refine wx_goto (tgt := 35) dX11_offer_31 (by decide) ?_
        exact wx_sub (x_X11_offer_35 hS hd (show 0 + 1 ≤ 1 by omega) (show 0 + 6 ≤ 6 by omega) h g) (px_s rfl (px_s rfl (px_s rfl (px_s rfl (px_s rfl px_0)))))
noncomputable def f_X11_sheet_39 (M : px_M) (x1 : Int32) (x2 : Int32) (x3 : Int32) : Option (Int32 × px_M) :=
  bd1 (f_X0_findBest M x1 x2) fun e_45 =>
  ok (ix x3 5) <|
  some ((e_45 66 x3.toNatClampNeg), e_45)
theorem s_X11_sheet_39 {x1 : Int32} {x2 : Int32} {x3 : Int32} {M : px_M} {L : px_L} {R : px_R} {e : (Int32 × px_M)} (hS : SR sh R) (hd : 7 ≤ d) (hcu : cu ≤ mc) (hsu : su ≤ ms) (h : f_X11_sheet_39 M x1 x2 x3 = some e) (g : Post (some (.int (e.1))) sh (e.2) L R n) : WX RX11 cX11_sheet 4 (some .int) ("sheet", []) d mc ms X (px_QF Post mc ms) 39 [(0, .ref 0), (1, .int x1), (2, .int x2), (3, .int x3)] [] sh M L R n cu su := by
  unfold f_X11_sheet_39 at h
  refine wx_aload_n dX11_sheet_39 rfl ?_
  refine wx_getR dX11_sheet_40 fl_X11_54 (sc_0 hS) rfl (rr_0_6 hS) ?_
  refine wx_iload_n dX11_sheet_43 rfl ?_
  refine wx_iload_n dX11_sheet_44 rfl ?_
  obtain ⟨e_45, k_45, h⟩ := bd1_some h
  refine wx_cVv dX11_sheet_45 ml_X11_331 my_X0_findBest iv_X0_findBest (sc_61 hS) (by decide) (s_X0_findBest (d := d - 1) hS (by omega) k_45) rfl (by omega) (by exact Nat.le_of_ble_eq_true rfl) hcu hsu ?_
  refine wx_aload_n dX11_sheet_48 rfl ?_
  refine wx_getR dX11_sheet_49 fl_X11_54 (sc_0 hS) rfl (rr_0_6 hS) ?_
  refine wx_getR dX11_sheet_52 fl_X11_335 (sc_61 hS) rfl (rr_61_5 hS) ?_
  refine wx_iload_n dX11_sheet_55 rfl ?_
  obtain ⟨w_56, h⟩ := ok_some h
  refine wx_iald dX11_sheet_56 (sc_66 hS) (ix_in w_56) ?_
  refine wx_iret dX11_sheet_57 hcu hsu ?_
  obtain rfl := Option.some.inj h
  exact g
noncomputable def f_X11_sheet_36 (M : px_M) (x1 : Int32) (x2 : Int32) (x3 : Int32) (z0 : Int32) : Option ((Int32 × px_M) ⊕ Nat) :=
  if z0 = 0 then some (.inr 0) else
  bd1 (f_X11_sheet_39 M x1 x2 x3) fun r_39 => some (.inl r_39)
theorem s_X11_sheet_36 {x1 : Int32} {x2 : Int32} {x3 : Int32} {z0 : Int32} {PX : px_PX} {M : px_M} {L : px_L} {R : px_R} {e : Int32 × px_M} (hS : SR sh R) (hd : 7 ≤ d) (hcu : cu ≤ mc) (hsu : su ≤ ms) (h : f_X11_sheet_36 M x1 x2 x3 z0 = some (.inl e)) (g : Post (some (.int (e.1))) sh (e.2) L R n) : WX RX11 cX11_sheet 4 (some .int) ("sheet", []) d mc ms X (px_QX Post PX mc ms) 36 [(0, .ref 0), (1, .int x1), (2, .int x2), (3, .int x3)] [.int z0] sh M L R n cu su := by
  unfold f_X11_sheet_36 at h
  by_cases c_36 : z0 = 0
  · replace h := it_t h c_36
    cases h
  replace h := it_f h c_36
  refine wx_needT dX11_sheet_36 nl_needArgument my_X11_needArgument sv_X11_needArgument (mT_needArgument (d := d - 1) c_36) (by omega) (by exact Nat.le_of_ble_eq_true rfl) (show cu + 0 ≤ mc by omega) (show su + 0 ≤ ms by omega) ?_
  obtain ⟨r_39, k_39, h⟩ := bd1_some h
  cases h
  exact wx_rx (wx_sub (s_X11_sheet_39 hS hd (show cu + 0 ≤ mc by omega) (show su + 0 ≤ ms by omega) k_39 g) (px_s rfl (px_s rfl (px_s rfl (px_s rfl px_0)))))
theorem x_X11_sheet_36 {x1 : Int32} {x2 : Int32} {x3 : Int32} {z0 : Int32} {PX : px_PX} {M : px_M} {L : px_L} {R : px_R} {e : Nat} (hS : SR sh R) (hd : 7 ≤ d) (hcu : cu + 1 ≤ mc) (hsu : su + 6 ≤ ms) (h : f_X11_sheet_36 M x1 x2 x3 z0 = some (.inr e)) (g : ∀ n', n ≤ n' → PX (px_xn e) sh M L R n') : WX RX11 cX11_sheet 4 (some .int) ("sheet", []) d mc ms X (px_QX Post PX mc ms) 36 [(0, .ref 0), (1, .int x1), (2, .int x2), (3, .int x3)] [.int z0] sh M L R n cu su := by
  unfold f_X11_sheet_36 at h
  by_cases c_36 : z0 = 0
  · replace h := it_t h c_36
    obtain rfl := Sum.inr.inj (Option.some.inj h)
    exact wx_needF dX11_sheet_36 nl_needArgument my_X11_needArgument sv_X11_needArgument (mF_needArgument (d := d - 1) (by omega) c_36) (by omega) (by exact Nat.le_of_ble_eq_true rfl) (show cu + 1 ≤ mc by omega) (show su + 6 ≤ ms by omega) g
  replace h := it_f h c_36
  refine wx_needT dX11_sheet_36 nl_needArgument my_X11_needArgument sv_X11_needArgument (mT_needArgument (d := d - 1) c_36) (by omega) (by exact Nat.le_of_ble_eq_true rfl) (show cu + 0 ≤ mc by omega) (show su + 0 ≤ ms by omega) ?_
  obtain ⟨r_39, k_39, h⟩ := bd1_some h
  cases h
noncomputable def f_X11_sheet_35 (M : px_M) (x1 : Int32) (x2 : Int32) (x3 : Int32) : Option ((Int32 × px_M) ⊕ Nat) :=
  f_X11_sheet_36 M x1 x2 x3 0
theorem s_X11_sheet_35 {x1 : Int32} {x2 : Int32} {x3 : Int32} {PX : px_PX} {M : px_M} {L : px_L} {R : px_R} {e : Int32 × px_M} (hS : SR sh R) (hd : 7 ≤ d) (hcu : cu ≤ mc) (hsu : su ≤ ms) (h : f_X11_sheet_35 M x1 x2 x3 = some (.inl e)) (g : Post (some (.int (e.1))) sh (e.2) L R n) : WX RX11 cX11_sheet 4 (some .int) ("sheet", []) d mc ms X (px_QX Post PX mc ms) 35 [(0, .ref 0), (1, .int x1), (2, .int x2), (3, .int x3)] [] sh M L R n cu su := by
  unfold f_X11_sheet_35 at h
  refine wx_iconst (v := 0) dX11_sheet_35 (by decide) ?_
  exact wx_sub (s_X11_sheet_36 hS hd (show cu + 0 ≤ mc by omega) (show su + 0 ≤ ms by omega) h g) (px_s rfl (px_s rfl (px_s rfl (px_s rfl px_0))))
theorem x_X11_sheet_35 {x1 : Int32} {x2 : Int32} {x3 : Int32} {PX : px_PX} {M : px_M} {L : px_L} {R : px_R} {e : Nat} (hS : SR sh R) (hd : 7 ≤ d) (hcu : cu + 1 ≤ mc) (hsu : su + 6 ≤ ms) (h : f_X11_sheet_35 M x1 x2 x3 = some (.inr e)) (g : ∀ n', n ≤ n' → PX (px_xn e) sh M L R n') : WX RX11 cX11_sheet 4 (some .int) ("sheet", []) d mc ms X (px_QX Post PX mc ms) 35 [(0, .ref 0), (1, .int x1), (2, .int x2), (3, .int x3)] [] sh M L R n cu su := by
  unfold f_X11_sheet_35 at h
  refine wx_iconst (v := 0) dX11_sheet_35 (by decide) ?_
  exact wx_sub (x_X11_sheet_36 hS hd (show cu + 1 ≤ mc by omega) (show su + 6 ≤ ms by omega) h g) (px_s rfl (px_s rfl (px_s rfl (px_s rfl px_0))))
noncomputable def f_X11_sheet (M : px_M) (p1 : Int32) (p2 : Int32) (p3 : Int32) : Option ((Int32 × px_M) ⊕ Nat) :=
  bd1 (f_X11_within p1 0 1200) fun e_5 =>
  if e_5 = 0 then
    f_X11_sheet_35 M p1 p2 p3
  else
    bd1 (f_X11_within p2 0 1000000) fun e_16 =>
    if e_16 = 0 then
      f_X11_sheet_35 M p1 p2 p3
    else
      bd1 (f_X11_within p3 0 4) fun e_25 =>
      if e_25 = 0 then
        f_X11_sheet_35 M p1 p2 p3
      else
        f_X11_sheet_36 M p1 p2 p3 1
theorem s_X11_sheet {d : Nat} {X : Nat × (Nat → Int32)} {sh : px_Sh} {M : px_M} {L : px_L} {R : px_R} {n : Nat} {p1 : Int32} {p2 : Int32} {p3 : Int32} {e : Int32 × px_M} (hS : SR sh R) (hd : 7 ≤ d) (h : f_X11_sheet M p1 p2 p3 = some (.inl e)) : MXT yX11_sheet cX11_sheet 4 (some .int) d 0 0 X [.ref 0, .int p1, .int p2, .int p3] sh M L R n (px_pu (some (.int e.1)) sh e.2 L R n) px_nx := by
  refine MXT.of (by decide +kernel) (by exact Nat.le_of_ble_eq_true rfl) ?_
  have hcu : 0 ≤ 0 := Nat.zero_le _
  have hsu : 0 ≤ 0 := Nat.zero_le _
  have g : px_pu (some (.int e.1)) sh e.2 L R n (some (.int e.1)) sh e.2 L R n := ⟨rfl, rfl, rfl, rfl, rfl, rfl⟩
  unfold f_X11_sheet at h
  refine wx_iload_n dX11_sheet_0 rfl ?_
  refine wx_iconst (v := 0) dX11_sheet_1 (by decide) ?_
  refine wx_sipush (v := 1200) dX11_sheet_2 (by decide) ?_
  obtain ⟨e_5, k_5, h⟩ := bd1_some h
  refine wx_cSi dX11_sheet_5 ml_X11_65 my_X11_within sv_X11_within (s_X11_within (d := d - 1) hS (by omega) k_5) rfl (by omega) (by exact Nat.le_of_ble_eq_true rfl) (show 0 + 0 ≤ 0 by omega) (show 0 + 0 ≤ 0 by omega) ?_
  refine wx_if_eq (tgt := 35) dX11_sheet_8 (by decide) (fun c_8 => ?_) (fun c_8 => ?_)
  · replace h := it_t h c_8
    exact wx_sub (s_X11_sheet_35 hS hd (show 0 + 0 ≤ 0 by omega) (show 0 + 0 ≤ 0 by omega) h g) (px_s rfl (px_s rfl (px_s rfl (px_s rfl px_0))))
  · replace h := it_f h c_8
    refine wx_iload_n dX11_sheet_11 rfl ?_
    refine wx_iconst (v := 0) dX11_sheet_12 (by decide) ?_
    refine wx_ldcw dX11_sheet_13 ki_X11_269 ?_
    obtain ⟨e_16, k_16, h⟩ := bd1_some h
    refine wx_cSi dX11_sheet_16 ml_X11_65 my_X11_within sv_X11_within (s_X11_within (d := d - 1) hS (by omega) k_16) rfl (by omega) (by exact Nat.le_of_ble_eq_true rfl) (show 0 + 0 ≤ 0 by omega) (show 0 + 0 ≤ 0 by omega) ?_
    refine wx_if_eq (tgt := 35) dX11_sheet_19 (by decide) (fun c_19 => ?_) (fun c_19 => ?_)
    · replace h := it_t h c_19
      exact wx_sub (s_X11_sheet_35 hS hd (show 0 + 0 ≤ 0 by omega) (show 0 + 0 ≤ 0 by omega) h g) (px_s rfl (px_s rfl (px_s rfl (px_s rfl px_0))))
    · replace h := it_f h c_19
      refine wx_iload_n dX11_sheet_22 rfl ?_
      refine wx_iconst (v := 0) dX11_sheet_23 (by decide) ?_
      refine wx_iconst (v := 4) dX11_sheet_24 (by decide) ?_
      obtain ⟨e_25, k_25, h⟩ := bd1_some h
      refine wx_cSi dX11_sheet_25 ml_X11_65 my_X11_within sv_X11_within (s_X11_within (d := d - 1) hS (by omega) k_25) rfl (by omega) (by exact Nat.le_of_ble_eq_true rfl) (show 0 + 0 ≤ 0 by omega) (show 0 + 0 ≤ 0 by omega) ?_
      refine wx_if_eq (tgt := 35) dX11_sheet_28 (by decide) (fun c_28 => ?_) (fun c_28 => ?_)
      · replace h := it_t h c_28
        exact wx_sub (s_X11_sheet_35 hS hd (show 0 + 0 ≤ 0 by omega) (show 0 + 0 ≤ 0 by omega) h g) (px_s rfl (px_s rfl (px_s rfl (px_s rfl px_0))))
      · replace h := it_f h c_28
        refine wx_iconst (v := 1) dX11_sheet_31 (by decide) ?_
        refine wx_goto (tgt := 36) dX11_sheet_32 (by decide) ?_
        exact wx_sub (s_X11_sheet_36 hS hd (show 0 + 0 ≤ 0 by omega) (show 0 + 0 ≤ 0 by omega) h g) (px_s rfl (px_s rfl (px_s rfl (px_s rfl px_0))))
theorem x_X11_sheet {d : Nat} {X : Nat × (Nat → Int32)} {sh : px_Sh} {M : px_M} {L : px_L} {R : px_R} {n : Nat} {p1 : Int32} {p2 : Int32} {p3 : Int32} {e : Nat} (hS : SR sh R) (hd : 7 ≤ d) (h : f_X11_sheet M p1 p2 p3 = some (.inr e)) : MXT yX11_sheet cX11_sheet 4 (some .int) d 1 6 X [.ref 0, .int p1, .int p2, .int p3] sh M L R n px_np (px_px (px_xn e) sh M L R n) := by
  refine MXT.of (by decide +kernel) (by exact Nat.le_of_ble_eq_true rfl) ?_
  have hcu : 0 ≤ 1 := Nat.zero_le _
  have hsu : 0 ≤ 6 := Nat.zero_le _
  have g : ∀ n', n ≤ n' → px_px (px_xn e) sh M L R n (px_xn e) sh M L R n' := fun n' hn => ⟨rfl, rfl, rfl, rfl, rfl, hn⟩
  unfold f_X11_sheet at h
  refine wx_iload_n dX11_sheet_0 rfl ?_
  refine wx_iconst (v := 0) dX11_sheet_1 (by decide) ?_
  refine wx_sipush (v := 1200) dX11_sheet_2 (by decide) ?_
  obtain ⟨e_5, k_5, h⟩ := bd1_some h
  refine wx_cSi dX11_sheet_5 ml_X11_65 my_X11_within sv_X11_within (s_X11_within (d := d - 1) hS (by omega) k_5) rfl (by omega) (by exact Nat.le_of_ble_eq_true rfl) (show 0 + 0 ≤ 1 by omega) (show 0 + 0 ≤ 6 by omega) ?_
  refine wx_if_eq (tgt := 35) dX11_sheet_8 (by decide) (fun c_8 => ?_) (fun c_8 => ?_)
  · replace h := it_t h c_8
    exact wx_sub (x_X11_sheet_35 hS hd (show 0 + 1 ≤ 1 by omega) (show 0 + 6 ≤ 6 by omega) h g) (px_s rfl (px_s rfl (px_s rfl (px_s rfl px_0))))
  · replace h := it_f h c_8
    refine wx_iload_n dX11_sheet_11 rfl ?_
    refine wx_iconst (v := 0) dX11_sheet_12 (by decide) ?_
    refine wx_ldcw dX11_sheet_13 ki_X11_269 ?_
    obtain ⟨e_16, k_16, h⟩ := bd1_some h
    refine wx_cSi dX11_sheet_16 ml_X11_65 my_X11_within sv_X11_within (s_X11_within (d := d - 1) hS (by omega) k_16) rfl (by omega) (by exact Nat.le_of_ble_eq_true rfl) (show 0 + 0 ≤ 1 by omega) (show 0 + 0 ≤ 6 by omega) ?_
    refine wx_if_eq (tgt := 35) dX11_sheet_19 (by decide) (fun c_19 => ?_) (fun c_19 => ?_)
    · replace h := it_t h c_19
      exact wx_sub (x_X11_sheet_35 hS hd (show 0 + 1 ≤ 1 by omega) (show 0 + 6 ≤ 6 by omega) h g) (px_s rfl (px_s rfl (px_s rfl (px_s rfl px_0))))
    · replace h := it_f h c_19
      refine wx_iload_n dX11_sheet_22 rfl ?_
      refine wx_iconst (v := 0) dX11_sheet_23 (by decide) ?_
      refine wx_iconst (v := 4) dX11_sheet_24 (by decide) ?_
      obtain ⟨e_25, k_25, h⟩ := bd1_some h
      refine wx_cSi dX11_sheet_25 ml_X11_65 my_X11_within sv_X11_within (s_X11_within (d := d - 1) hS (by omega) k_25) rfl (by omega) (by exact Nat.le_of_ble_eq_true rfl) (show 0 + 0 ≤ 1 by omega) (show 0 + 0 ≤ 6 by omega) ?_
      refine wx_if_eq (tgt := 35) dX11_sheet_28 (by decide) (fun c_28 => ?_) (fun c_28 => ?_)
      · replace h := it_t h c_28
        exact wx_sub (x_X11_sheet_35 hS hd (show 0 + 1 ≤ 1 by omega) (show 0 + 6 ≤ 6 by omega) h g) (px_s rfl (px_s rfl (px_s rfl (px_s rfl px_0))))
      · replace h := it_f h c_28
        refine wx_iconst (v := 1) dX11_sheet_31 (by decide) ?_
        refine wx_goto (tgt := 36) dX11_sheet_32 (by decide) ?_
        exact wx_sub (x_X11_sheet_36 hS hd (show 0 + 1 ≤ 1 by omega) (show 0 + 6 ≤ 6 by omega) h g) (px_s rfl (px_s rfl (px_s rfl (px_s rfl px_0))))
noncomputable def f_X11_late_21 (sh : px_Sh) (M : px_M) (L : px_L) (R : px_R) (x1 : Int32) (x2 : Int32) : Option (Int32 × px_M × px_L) :=
  bd1 (f_X8_strength sh M R) fun e_31 =>
  bd1 (f_X9_daysInAll sh M L R x1 x2 e_31) fun e_34 =>
  some (e_34.1, e_34.2.1, e_34.2.2)
theorem s_X11_late_21 {x1 : Int32} {x2 : Int32} {M : px_M} {L : px_L} {R : px_R} {e : (Int32 × px_M × px_L)} (hS : SR sh R) (hd : 7 ≤ d) (hcu : cu ≤ mc) (hsu : su ≤ ms) (h : f_X11_late_21 sh M L R x1 x2 = some e) (g : Post (some (.int (e.1))) sh (e.2.1) (e.2.2) R n) : WX RX11 cX11_late 3 (some .int) ("late", []) d mc ms X (px_QF Post mc ms) 21 [(0, .ref 0), (1, .int x1), (2, .int x2)] [] sh M L R n cu su := by
  unfold f_X11_late_21 at h
  refine wx_aload_n dX11_late_21 rfl ?_
  refine wx_getR dX11_late_22 fl_X11_26 (sc_0 hS) rfl (rr_0_2 hS) ?_
  refine wx_iload_n dX11_late_25 rfl ?_
  refine wx_iload_n dX11_late_26 rfl ?_
  refine wx_aload_n dX11_late_27 rfl ?_
  refine wx_getR dX11_late_28 fl_X11_19 (sc_0 hS) rfl (rr_0_1 hS) ?_
  obtain ⟨e_31, k_31, h⟩ := bd1_some h
  refine wx_cVi dX11_late_31 ml_X11_208 my_X8_strength iv_X8_strength (sc_6 hS) (by decide) (s_X8_strength (d := d - 1) hS (by omega) k_31) rfl (by omega) (by exact Nat.le_of_ble_eq_true rfl) hcu hsu ?_
  obtain ⟨e_34, k_34, h⟩ := bd1_some h
  refine wx_cVi dX11_late_34 ml_X11_338 my_X9_daysInAll iv_X9_daysInAll (sc_14 hS) (by decide) (s_X9_daysInAll (d := d - 1) hS (by omega) k_34) rfl (by omega) (by exact Nat.le_of_ble_eq_true rfl) hcu hsu ?_
  refine wx_iret dX11_late_37 hcu hsu ?_
  obtain rfl := Option.some.inj h
  exact g
noncomputable def f_X11_late (sh : px_Sh) (M : px_M) (L : px_L) (R : px_R) (p1 : Int32) (p2 : Int32) : Option ((Int32 × px_M × px_L) ⊕ Nat) :=
  bd1 (f_X9_hasWorld M p1) fun e_5 =>
  if e_5 = 0 then some (.inr 2) else
  bd1 (f_X11_within p2 0 20) fun e_15 =>
  if e_15 = 0 then some (.inr 0) else
  bd1 (f_X11_late_21 sh M L R p1 p2) fun r_21 => some (.inl r_21)
theorem s_X11_late {d : Nat} {X : Nat × (Nat → Int32)} {sh : px_Sh} {M : px_M} {L : px_L} {R : px_R} {n : Nat} {p1 : Int32} {p2 : Int32} {e : Int32 × px_M × px_L} (hS : SR sh R) (hd : 7 ≤ d) (h : f_X11_late sh M L R p1 p2 = some (.inl e)) : MXT yX11_late cX11_late 3 (some .int) d 0 0 X [.ref 0, .int p1, .int p2] sh M L R n (px_pu (some (.int e.1)) sh e.2.1 e.2.2 R n) px_nx := by
  refine MXT.of (by decide +kernel) (by exact Nat.le_of_ble_eq_true rfl) ?_
  have hcu : 0 ≤ 0 := Nat.zero_le _
  have hsu : 0 ≤ 0 := Nat.zero_le _
  have g : px_pu (some (.int e.1)) sh e.2.1 e.2.2 R n (some (.int e.1)) sh e.2.1 e.2.2 R n := ⟨rfl, rfl, rfl, rfl, rfl, rfl⟩
  unfold f_X11_late at h
  refine wx_aload_n dX11_late_0 rfl ?_
  refine wx_getR dX11_late_1 fl_X11_26 (sc_0 hS) rfl (rr_0_2 hS) ?_
  refine wx_iload_n dX11_late_4 rfl ?_
  obtain ⟨e_5, k_5, h⟩ := bd1_some h
  refine wx_cVi dX11_late_5 ml_X11_194 my_X9_hasWorld iv_X9_hasWorld (sc_14 hS) (by decide) (s_X9_hasWorld (d := d - 1) hS (by omega) k_5) rfl (by omega) (by exact Nat.le_of_ble_eq_true rfl) (show 0 + 0 ≤ 0 by omega) (show 0 + 0 ≤ 0 by omega) ?_
  by_cases c_8 : e_5 = 0
  · replace h := it_t h c_8
    cases h
  replace h := it_f h c_8
  refine wx_needT dX11_late_8 nl_needIndex my_X11_needIndex sv_X11_needIndex (mT_needIndex (d := d - 1) c_8) (by omega) (by exact Nat.le_of_ble_eq_true rfl) (show 0 + 0 ≤ 0 by omega) (show 0 + 0 ≤ 0 by omega) ?_
  refine wx_iload_n dX11_late_11 rfl ?_
  refine wx_iconst (v := 0) dX11_late_12 (by decide) ?_
  refine wx_bipush (v := 20) dX11_late_13 (by decide) ?_
  obtain ⟨e_15, k_15, h⟩ := bd1_some h
  refine wx_cSi dX11_late_15 ml_X11_65 my_X11_within sv_X11_within (s_X11_within (d := d - 1) hS (by omega) k_15) rfl (by omega) (by exact Nat.le_of_ble_eq_true rfl) (show 0 + 0 ≤ 0 by omega) (show 0 + 0 ≤ 0 by omega) ?_
  by_cases c_18 : e_15 = 0
  · replace h := it_t h c_18
    cases h
  replace h := it_f h c_18
  refine wx_needT dX11_late_18 nl_needArgument my_X11_needArgument sv_X11_needArgument (mT_needArgument (d := d - 1) c_18) (by omega) (by exact Nat.le_of_ble_eq_true rfl) (show 0 + 0 ≤ 0 by omega) (show 0 + 0 ≤ 0 by omega) ?_
  obtain ⟨r_21, k_21, h⟩ := bd1_some h
  cases h
  exact wx_rx (wx_sub (s_X11_late_21 hS hd (show 0 + 0 ≤ 0 by omega) (show 0 + 0 ≤ 0 by omega) k_21 g) (px_s rfl (px_s rfl (px_s rfl px_0))))
theorem x_X11_late {d : Nat} {X : Nat × (Nat → Int32)} {sh : px_Sh} {M : px_M} {L : px_L} {R : px_R} {n : Nat} {p1 : Int32} {p2 : Int32} {e : Nat} (hS : SR sh R) (hd : 7 ≤ d) (h : f_X11_late sh M L R p1 p2 = some (.inr e)) : MXT yX11_late cX11_late 3 (some .int) d 1 6 X [.ref 0, .int p1, .int p2] sh M L R n px_np (px_px (px_xn e) sh M L R n) := by
  refine MXT.of (by decide +kernel) (by exact Nat.le_of_ble_eq_true rfl) ?_
  have hcu : 0 ≤ 1 := Nat.zero_le _
  have hsu : 0 ≤ 6 := Nat.zero_le _
  have g : ∀ n', n ≤ n' → px_px (px_xn e) sh M L R n (px_xn e) sh M L R n' := fun n' hn => ⟨rfl, rfl, rfl, rfl, rfl, hn⟩
  unfold f_X11_late at h
  refine wx_aload_n dX11_late_0 rfl ?_
  refine wx_getR dX11_late_1 fl_X11_26 (sc_0 hS) rfl (rr_0_2 hS) ?_
  refine wx_iload_n dX11_late_4 rfl ?_
  obtain ⟨e_5, k_5, h⟩ := bd1_some h
  refine wx_cVi dX11_late_5 ml_X11_194 my_X9_hasWorld iv_X9_hasWorld (sc_14 hS) (by decide) (s_X9_hasWorld (d := d - 1) hS (by omega) k_5) rfl (by omega) (by exact Nat.le_of_ble_eq_true rfl) (show 0 + 0 ≤ 1 by omega) (show 0 + 0 ≤ 6 by omega) ?_
  by_cases c_8 : e_5 = 0
  · replace h := it_t h c_8
    obtain rfl := Sum.inr.inj (Option.some.inj h)
    exact wx_needF dX11_late_8 nl_needIndex my_X11_needIndex sv_X11_needIndex (mF_needIndex (d := d - 1) (by omega) c_8) (by omega) (by exact Nat.le_of_ble_eq_true rfl) (show 0 + 1 ≤ 1 by omega) (show 0 + 6 ≤ 6 by omega) g
  replace h := it_f h c_8
  refine wx_needT dX11_late_8 nl_needIndex my_X11_needIndex sv_X11_needIndex (mT_needIndex (d := d - 1) c_8) (by omega) (by exact Nat.le_of_ble_eq_true rfl) (show 0 + 0 ≤ 1 by omega) (show 0 + 0 ≤ 6 by omega) ?_
  refine wx_iload_n dX11_late_11 rfl ?_
  refine wx_iconst (v := 0) dX11_late_12 (by decide) ?_
  refine wx_bipush (v := 20) dX11_late_13 (by decide) ?_
  obtain ⟨e_15, k_15, h⟩ := bd1_some h
  refine wx_cSi dX11_late_15 ml_X11_65 my_X11_within sv_X11_within (s_X11_within (d := d - 1) hS (by omega) k_15) rfl (by omega) (by exact Nat.le_of_ble_eq_true rfl) (show 0 + 0 ≤ 1 by omega) (show 0 + 0 ≤ 6 by omega) ?_
  by_cases c_18 : e_15 = 0
  · replace h := it_t h c_18
    obtain rfl := Sum.inr.inj (Option.some.inj h)
    exact wx_needF dX11_late_18 nl_needArgument my_X11_needArgument sv_X11_needArgument (mF_needArgument (d := d - 1) (by omega) c_18) (by omega) (by exact Nat.le_of_ble_eq_true rfl) (show 0 + 1 ≤ 1 by omega) (show 0 + 6 ≤ 6 by omega) g
  replace h := it_f h c_18
  refine wx_needT dX11_late_18 nl_needArgument my_X11_needArgument sv_X11_needArgument (mT_needArgument (d := d - 1) c_18) (by omega) (by exact Nat.le_of_ble_eq_true rfl) (show 0 + 0 ≤ 1 by omega) (show 0 + 0 ≤ 6 by omega) ?_
  obtain ⟨r_21, k_21, h⟩ := bd1_some h
  cases h
noncomputable def f_X11_window_11 (sh : px_Sh) (M : px_M) (L : px_L) (R : px_R) (x1 : Int32) : Option (Int32 × px_M × px_L) :=
  bd1 (f_X8_strength sh M R) fun e_20 =>
  bd1 (f_X9_bestWaiting sh M L R x1 e_20) fun e_23 =>
  some (e_23.1, e_23.2.1, e_23.2.2)
theorem s_X11_window_11 {x1 : Int32} {M : px_M} {L : px_L} {R : px_R} {e : (Int32 × px_M × px_L)} (hS : SR sh R) (hd : 7 ≤ d) (hcu : cu ≤ mc) (hsu : su ≤ ms) (h : f_X11_window_11 sh M L R x1 = some e) (g : Post (some (.int (e.1))) sh (e.2.1) (e.2.2) R n) : WX RX11 cX11_window 2 (some .int) ("window", []) d mc ms X (px_QF Post mc ms) 11 [(0, .ref 0), (1, .int x1)] [] sh M L R n cu su := by
  unfold f_X11_window_11 at h
  refine wx_aload_n dX11_window_11 rfl ?_
  refine wx_getR dX11_window_12 fl_X11_26 (sc_0 hS) rfl (rr_0_2 hS) ?_
  refine wx_iload_n dX11_window_15 rfl ?_
  refine wx_aload_n dX11_window_16 rfl ?_
  refine wx_getR dX11_window_17 fl_X11_19 (sc_0 hS) rfl (rr_0_1 hS) ?_
  obtain ⟨e_20, k_20, h⟩ := bd1_some h
  refine wx_cVi dX11_window_20 ml_X11_208 my_X8_strength iv_X8_strength (sc_6 hS) (by decide) (s_X8_strength (d := d - 1) hS (by omega) k_20) rfl (by omega) (by exact Nat.le_of_ble_eq_true rfl) hcu hsu ?_
  obtain ⟨e_23, k_23, h⟩ := bd1_some h
  refine wx_cVi dX11_window_23 ml_X11_341 my_X9_bestWaiting iv_X9_bestWaiting (sc_14 hS) (by decide) (s_X9_bestWaiting (d := d - 1) hS (by omega) k_23) rfl (by omega) (by exact Nat.le_of_ble_eq_true rfl) hcu hsu ?_
  refine wx_iret dX11_window_26 hcu hsu ?_
  obtain rfl := Option.some.inj h
  exact g
noncomputable def f_X11_window (sh : px_Sh) (M : px_M) (L : px_L) (R : px_R) (p1 : Int32) : Option ((Int32 × px_M × px_L) ⊕ Nat) :=
  bd1 (f_X9_hasWorld M p1) fun e_5 =>
  if e_5 = 0 then some (.inr 2) else
  bd1 (f_X11_window_11 sh M L R p1) fun r_11 => some (.inl r_11)
theorem s_X11_window {d : Nat} {X : Nat × (Nat → Int32)} {sh : px_Sh} {M : px_M} {L : px_L} {R : px_R} {n : Nat} {p1 : Int32} {e : Int32 × px_M × px_L} (hS : SR sh R) (hd : 7 ≤ d) (h : f_X11_window sh M L R p1 = some (.inl e)) : MXT yX11_window cX11_window 2 (some .int) d 0 0 X [.ref 0, .int p1] sh M L R n (px_pu (some (.int e.1)) sh e.2.1 e.2.2 R n) px_nx := by
  refine MXT.of (by decide +kernel) (by exact Nat.le_of_ble_eq_true rfl) ?_
  have hcu : 0 ≤ 0 := Nat.zero_le _
  have hsu : 0 ≤ 0 := Nat.zero_le _
  have g : px_pu (some (.int e.1)) sh e.2.1 e.2.2 R n (some (.int e.1)) sh e.2.1 e.2.2 R n := ⟨rfl, rfl, rfl, rfl, rfl, rfl⟩
  unfold f_X11_window at h
  refine wx_aload_n dX11_window_0 rfl ?_
  refine wx_getR dX11_window_1 fl_X11_26 (sc_0 hS) rfl (rr_0_2 hS) ?_
  refine wx_iload_n dX11_window_4 rfl ?_
  obtain ⟨e_5, k_5, h⟩ := bd1_some h
  refine wx_cVi dX11_window_5 ml_X11_194 my_X9_hasWorld iv_X9_hasWorld (sc_14 hS) (by decide) (s_X9_hasWorld (d := d - 1) hS (by omega) k_5) rfl (by omega) (by exact Nat.le_of_ble_eq_true rfl) (show 0 + 0 ≤ 0 by omega) (show 0 + 0 ≤ 0 by omega) ?_
  by_cases c_8 : e_5 = 0
  · replace h := it_t h c_8
    cases h
  replace h := it_f h c_8
  refine wx_needT dX11_window_8 nl_needIndex my_X11_needIndex sv_X11_needIndex (mT_needIndex (d := d - 1) c_8) (by omega) (by exact Nat.le_of_ble_eq_true rfl) (show 0 + 0 ≤ 0 by omega) (show 0 + 0 ≤ 0 by omega) ?_
  obtain ⟨r_11, k_11, h⟩ := bd1_some h
  cases h
  exact wx_rx (wx_sub (s_X11_window_11 hS hd (show 0 + 0 ≤ 0 by omega) (show 0 + 0 ≤ 0 by omega) k_11 g) (px_s rfl (px_s rfl px_0)))
theorem x_X11_window {d : Nat} {X : Nat × (Nat → Int32)} {sh : px_Sh} {M : px_M} {L : px_L} {R : px_R} {n : Nat} {p1 : Int32} {e : Nat} (hS : SR sh R) (hd : 7 ≤ d) (h : f_X11_window sh M L R p1 = some (.inr e)) : MXT yX11_window cX11_window 2 (some .int) d 1 6 X [.ref 0, .int p1] sh M L R n px_np (px_px (px_xn e) sh M L R n) := by
  refine MXT.of (by decide +kernel) (by exact Nat.le_of_ble_eq_true rfl) ?_
  have hcu : 0 ≤ 1 := Nat.zero_le _
  have hsu : 0 ≤ 6 := Nat.zero_le _
  have g : ∀ n', n ≤ n' → px_px (px_xn e) sh M L R n (px_xn e) sh M L R n' := fun n' hn => ⟨rfl, rfl, rfl, rfl, rfl, hn⟩
  unfold f_X11_window at h
  refine wx_aload_n dX11_window_0 rfl ?_
  refine wx_getR dX11_window_1 fl_X11_26 (sc_0 hS) rfl (rr_0_2 hS) ?_
  refine wx_iload_n dX11_window_4 rfl ?_
  obtain ⟨e_5, k_5, h⟩ := bd1_some h
  refine wx_cVi dX11_window_5 ml_X11_194 my_X9_hasWorld iv_X9_hasWorld (sc_14 hS) (by decide) (s_X9_hasWorld (d := d - 1) hS (by omega) k_5) rfl (by omega) (by exact Nat.le_of_ble_eq_true rfl) (show 0 + 0 ≤ 1 by omega) (show 0 + 0 ≤ 6 by omega) ?_
  by_cases c_8 : e_5 = 0
  · replace h := it_t h c_8
    obtain rfl := Sum.inr.inj (Option.some.inj h)
    exact wx_needF dX11_window_8 nl_needIndex my_X11_needIndex sv_X11_needIndex (mF_needIndex (d := d - 1) (by omega) c_8) (by omega) (by exact Nat.le_of_ble_eq_true rfl) (show 0 + 1 ≤ 1 by omega) (show 0 + 6 ≤ 6 by omega) g
  replace h := it_f h c_8
  refine wx_needT dX11_window_8 nl_needIndex my_X11_needIndex sv_X11_needIndex (mT_needIndex (d := d - 1) c_8) (by omega) (by exact Nat.le_of_ble_eq_true rfl) (show 0 + 0 ≤ 1 by omega) (show 0 + 0 ≤ 6 by omega) ?_
  obtain ⟨r_11, k_11, h⟩ := bd1_some h
  cases h
noncomputable def f_X11_leastN_56 (sh : px_Sh) (M : px_M) (L : px_L) (R : px_R) (n : Nat) (z0 : Int32) : Option (Int32 × px_Sh × px_M × px_L × px_R × Nat) :=
  some (z0, sh, M, L, R, n)
theorem s_X11_leastN_56 {z0 : Int32} {M : px_M} {L : px_L} {R : px_R} {e : (Int32 × px_Sh × px_M × px_L × px_R × Nat)} (hS : SR sh R) (hd : 7 ≤ d) (hcu : cu ≤ mc) (hsu : su ≤ ms) (hn : 220 ≤ n) (h : f_X11_leastN_56 sh M L R n z0 = some e) (g : SR (e.2.1) (e.2.2.2.2.1) → 220 ≤ (e.2.2.2.2.2) → Post (some (.int (e.1))) (e.2.1) (e.2.2.1) (e.2.2.2.1) (e.2.2.2.2.1) (e.2.2.2.2.2)) : WX RX11 cX11_least 4 (some .int) ("least", []) d mc ms X (px_QF Post mc ms) 56 [] [.int z0] sh M L R n cu su := by
  unfold f_X11_leastN_56 at h
  refine wx_iret dX11_least_56 (show cu + 0 ≤ mc by omega) (show su + 0 ≤ ms by omega) ?_
  obtain rfl := Option.some.inj h
  exact g hS hn
noncomputable def f_X11_leastN_21 (sh : px_Sh) (M : px_M) (L : px_L) (R : px_R) (n : Nat) (x1 : Int32) (x2 : Int32) : Option (Int32 × px_Sh × px_M × px_L × px_R × Nat) :=
  bd1 (f_X8_strength sh M R) fun e_25 =>
  if 0 ≤ x2 then
    bd1 (f_X9_steerOfFirstWayN sh M L R n x1 x2 e_25) fun e_53 =>
    f_X11_leastN_56 e_53.2.1 e_53.2.2.1 e_53.2.2.2.1 e_53.2.2.2.2.1 e_53.2.2.2.2.2 e_53.1
  else
    bd1 (f_X9_fewestDaysN sh M L R n x1 0 e_25) fun e_40 =>
    f_X11_leastN_56 e_40.2.1 e_40.2.2.1 e_40.2.2.2.1 e_40.2.2.2.2.1 e_40.2.2.2.2.2 e_40.1
theorem s_X11_leastN_21 {x1 : Int32} {x2 : Int32} {M : px_M} {L : px_L} {R : px_R} {e : (Int32 × px_Sh × px_M × px_L × px_R × Nat)} (hS : SR sh R) (hd : 7 ≤ d) (hcu : cu + 2 ≤ mc) (hsu : su + 20996 ≤ ms) (hn : 220 ≤ n) (h : f_X11_leastN_21 sh M L R n x1 x2 = some e) (g : SR (e.2.1) (e.2.2.2.2.1) → 220 ≤ (e.2.2.2.2.2) → Post (some (.int (e.1))) (e.2.1) (e.2.2.1) (e.2.2.2.1) (e.2.2.2.2.1) (e.2.2.2.2.2)) : WX RX11 cX11_least 4 (some .int) ("least", []) d mc ms X (px_QF Post mc ms) 21 [(0, .ref 0), (1, .int x1), (2, .int x2)] [] sh M L R n cu su := by
  unfold f_X11_leastN_21 at h
  refine wx_aload_n dX11_least_21 rfl ?_
  refine wx_getR dX11_least_22 fl_X11_19 (sc_0 hS) rfl (rr_0_1 hS) ?_
  obtain ⟨e_25, k_25, h⟩ := bd1_some h
  refine wx_cVi dX11_least_25 ml_X11_208 my_X8_strength iv_X8_strength (sc_6 hS) (by decide) (s_X8_strength (d := d - 1) hS (by omega) k_25) rfl (by omega) (by exact Nat.le_of_ble_eq_true rfl) (show cu + 0 ≤ mc by omega) (show su + 0 ≤ ms by omega) ?_
  refine wx_istore_n (lv' := [(3, _), (0, _), (1, _), (2, _)]) dX11_least_28 (by decide) rfl ?_
  refine wx_iload_n dX11_least_29 rfl ?_
  refine wx_if_ge (tgt := 46) dX11_least_30 (by decide) (fun c_30 => ?_) (fun c_30 => ?_)
  · replace h := it_t h c_30
    refine wx_aload_n dX11_least_46 rfl ?_
    refine wx_getR dX11_least_47 fl_X11_26 (sc_0 hS) rfl (rr_0_2 hS) ?_
    refine wx_iload_n dX11_least_50 rfl ?_
    refine wx_iload_n dX11_least_51 rfl ?_
    refine wx_iload_n dX11_least_52 rfl ?_
    obtain ⟨e_53, k_53, h⟩ := bd1_some h
    refine wx_aVi dX11_least_53 ml_X11_214 my_X9_steerOfFirstWay iv_X9_steerOfFirstWay (sc_14 hS) (by decide) (s_X9_steerOfFirstWayN (d := d - 1) hS (by omega) hn k_53) rfl (by omega) (by exact Nat.le_of_ble_eq_true rfl) (show cu + 2 ≤ mc by omega) (show su + 20996 ≤ ms by omega) (fun hS hn => ?_)
    exact wx_sub (s_X11_leastN_56 hS hd (show cu + 2 ≤ mc by omega) (show su + 20996 ≤ ms by omega) hn h g) px_0
  · replace h := it_f h c_30
    refine wx_aload_n dX11_least_33 rfl ?_
    refine wx_getR dX11_least_34 fl_X11_26 (sc_0 hS) rfl (rr_0_2 hS) ?_
    refine wx_iload_n dX11_least_37 rfl ?_
    refine wx_iconst (v := 0) dX11_least_38 (by decide) ?_
    refine wx_iload_n dX11_least_39 rfl ?_
    obtain ⟨e_40, k_40, h⟩ := bd1_some h
    refine wx_aVi dX11_least_40 ml_X11_211 my_X9_fewestDays iv_X9_fewestDays (sc_14 hS) (by decide) (s_X9_fewestDaysN (d := d - 1) hS (by omega) hn k_40) rfl (by omega) (by exact Nat.le_of_ble_eq_true rfl) (show cu + 2 ≤ mc by omega) (show su + 20996 ≤ ms by omega) (fun hS hn => ?_)
    refine wx_goto (tgt := 56) dX11_least_43 (by decide) ?_
    exact wx_sub (s_X11_leastN_56 hS hd (show cu + 2 ≤ mc by omega) (show su + 20996 ≤ ms by omega) hn h g) px_0
noncomputable def f_X11_leastN (sh : px_Sh) (M : px_M) (L : px_L) (R : px_R) (n : Nat) (p1 : Int32) (p2 : Int32) : Option ((Int32 × px_Sh × px_M × px_L × px_R × Nat) ⊕ Nat) :=
  bd1 (f_X9_hasWorld M p1) fun e_5 =>
  if e_5 = 0 then some (.inr 2) else
  bd1 (f_X11_within p2 (-1) 39) fun e_15 =>
  if e_15 = 0 then some (.inr 0) else
  bd1 (f_X11_leastN_21 sh M L R n p1 p2) fun r_21 => some (.inl r_21)
theorem s_X11_leastN {d : Nat} {X : Nat × (Nat → Int32)} {sh : px_Sh} {M : px_M} {L : px_L} {R : px_R} {n : Nat} {p1 : Int32} {p2 : Int32} {e : Int32 × px_Sh × px_M × px_L × px_R × Nat} (hS : SR sh R) (hd : 7 ≤ d) (hn : 220 ≤ n) (h : f_X11_leastN sh M L R n p1 p2 = some (.inl e)) : MXT yX11_least cX11_least 4 (some .int) d 4 41992 X [.ref 0, .int p1, .int p2] sh M L R n (px_pa (some (.int e.1)) e.2.1 e.2.2.1 e.2.2.2.1 e.2.2.2.2.1 e.2.2.2.2.2) px_nx := by
  refine MXT.of (by decide +kernel) (by exact Nat.le_of_ble_eq_true rfl) ?_
  have hcu : 0 ≤ 4 := Nat.zero_le _
  have hsu : 0 ≤ 41992 := Nat.zero_le _
  have g : SR e.2.1 e.2.2.2.2.1 → 220 ≤ e.2.2.2.2.2 → px_pa (some (.int e.1)) e.2.1 e.2.2.1 e.2.2.2.1 e.2.2.2.2.1 e.2.2.2.2.2 (some (.int e.1)) e.2.1 e.2.2.1 e.2.2.2.1 e.2.2.2.2.1 e.2.2.2.2.2 := fun q q2 => ⟨⟨rfl, rfl, rfl, rfl, rfl, rfl⟩, q, q2⟩
  unfold f_X11_leastN at h
  refine wx_aload_n dX11_least_0 rfl ?_
  refine wx_getR dX11_least_1 fl_X11_26 (sc_0 hS) rfl (rr_0_2 hS) ?_
  refine wx_iload_n dX11_least_4 rfl ?_
  obtain ⟨e_5, k_5, h⟩ := bd1_some h
  refine wx_cVi dX11_least_5 ml_X11_194 my_X9_hasWorld iv_X9_hasWorld (sc_14 hS) (by decide) (s_X9_hasWorld (d := d - 1) hS (by omega) k_5) rfl (by omega) (by exact Nat.le_of_ble_eq_true rfl) (show 0 + 0 ≤ 4 by omega) (show 0 + 0 ≤ 41992 by omega) ?_
  by_cases c_8 : e_5 = 0
  · replace h := it_t h c_8
    cases h
  replace h := it_f h c_8
  refine wx_needT dX11_least_8 nl_needIndex my_X11_needIndex sv_X11_needIndex (mT_needIndex (d := d - 1) c_8) (by omega) (by exact Nat.le_of_ble_eq_true rfl) (show 0 + 0 ≤ 4 by omega) (show 0 + 0 ≤ 41992 by omega) ?_
  refine wx_iload_n dX11_least_11 rfl ?_
  refine wx_iconst (v := (-1)) dX11_least_12 (by decide) ?_
  refine wx_bipush (v := 39) dX11_least_13 (by decide) ?_
  obtain ⟨e_15, k_15, h⟩ := bd1_some h
  refine wx_cSi dX11_least_15 ml_X11_65 my_X11_within sv_X11_within (s_X11_within (d := d - 1) hS (by omega) k_15) rfl (by omega) (by exact Nat.le_of_ble_eq_true rfl) (show 0 + 0 ≤ 4 by omega) (show 0 + 0 ≤ 41992 by omega) ?_
  by_cases c_18 : e_15 = 0
  · replace h := it_t h c_18
    cases h
  replace h := it_f h c_18
  refine wx_needT dX11_least_18 nl_needArgument my_X11_needArgument sv_X11_needArgument (mT_needArgument (d := d - 1) c_18) (by omega) (by exact Nat.le_of_ble_eq_true rfl) (show 0 + 0 ≤ 4 by omega) (show 0 + 0 ≤ 41992 by omega) ?_
  obtain ⟨r_21, k_21, h⟩ := bd1_some h
  cases h
  exact wx_rx (wx_sub (s_X11_leastN_21 hS hd (show 0 + 2 ≤ 4 by omega) (show 0 + 20996 ≤ 41992 by omega) hn k_21 g) (px_s rfl (px_s rfl (px_s rfl px_0))))
theorem x_X11_leastN {d : Nat} {X : Nat × (Nat → Int32)} {sh : px_Sh} {M : px_M} {L : px_L} {R : px_R} {n : Nat} {p1 : Int32} {p2 : Int32} {e : Nat} (hS : SR sh R) (hd : 7 ≤ d) (hn : 220 ≤ n) (h : f_X11_leastN sh M L R n p1 p2 = some (.inr e)) : MXT yX11_least cX11_least 4 (some .int) d 1 6 X [.ref 0, .int p1, .int p2] sh M L R n px_np (px_px (px_xn e) sh M L R n) := by
  refine MXT.of (by decide +kernel) (by exact Nat.le_of_ble_eq_true rfl) ?_
  have hcu : 0 ≤ 1 := Nat.zero_le _
  have hsu : 0 ≤ 6 := Nat.zero_le _
  have g : ∀ n', n ≤ n' → px_px (px_xn e) sh M L R n (px_xn e) sh M L R n' := fun n' hn => ⟨rfl, rfl, rfl, rfl, rfl, hn⟩
  unfold f_X11_leastN at h
  refine wx_aload_n dX11_least_0 rfl ?_
  refine wx_getR dX11_least_1 fl_X11_26 (sc_0 hS) rfl (rr_0_2 hS) ?_
  refine wx_iload_n dX11_least_4 rfl ?_
  obtain ⟨e_5, k_5, h⟩ := bd1_some h
  refine wx_cVi dX11_least_5 ml_X11_194 my_X9_hasWorld iv_X9_hasWorld (sc_14 hS) (by decide) (s_X9_hasWorld (d := d - 1) hS (by omega) k_5) rfl (by omega) (by exact Nat.le_of_ble_eq_true rfl) (show 0 + 0 ≤ 1 by omega) (show 0 + 0 ≤ 6 by omega) ?_
  by_cases c_8 : e_5 = 0
  · replace h := it_t h c_8
    obtain rfl := Sum.inr.inj (Option.some.inj h)
    exact wx_needF dX11_least_8 nl_needIndex my_X11_needIndex sv_X11_needIndex (mF_needIndex (d := d - 1) (by omega) c_8) (by omega) (by exact Nat.le_of_ble_eq_true rfl) (show 0 + 1 ≤ 1 by omega) (show 0 + 6 ≤ 6 by omega) g
  replace h := it_f h c_8
  refine wx_needT dX11_least_8 nl_needIndex my_X11_needIndex sv_X11_needIndex (mT_needIndex (d := d - 1) c_8) (by omega) (by exact Nat.le_of_ble_eq_true rfl) (show 0 + 0 ≤ 1 by omega) (show 0 + 0 ≤ 6 by omega) ?_
  refine wx_iload_n dX11_least_11 rfl ?_
  refine wx_iconst (v := (-1)) dX11_least_12 (by decide) ?_
  refine wx_bipush (v := 39) dX11_least_13 (by decide) ?_
  obtain ⟨e_15, k_15, h⟩ := bd1_some h
  refine wx_cSi dX11_least_15 ml_X11_65 my_X11_within sv_X11_within (s_X11_within (d := d - 1) hS (by omega) k_15) rfl (by omega) (by exact Nat.le_of_ble_eq_true rfl) (show 0 + 0 ≤ 1 by omega) (show 0 + 0 ≤ 6 by omega) ?_
  by_cases c_18 : e_15 = 0
  · replace h := it_t h c_18
    obtain rfl := Sum.inr.inj (Option.some.inj h)
    exact wx_needF dX11_least_18 nl_needArgument my_X11_needArgument sv_X11_needArgument (mF_needArgument (d := d - 1) (by omega) c_18) (by omega) (by exact Nat.le_of_ble_eq_true rfl) (show 0 + 1 ≤ 1 by omega) (show 0 + 6 ≤ 6 by omega) g
  replace h := it_f h c_18
  refine wx_needT dX11_least_18 nl_needArgument my_X11_needArgument sv_X11_needArgument (mT_needArgument (d := d - 1) c_18) (by omega) (by exact Nat.le_of_ble_eq_true rfl) (show 0 + 0 ≤ 1 by omega) (show 0 + 0 ≤ 6 by omega) ?_
  obtain ⟨r_21, k_21, h⟩ := bd1_some h
  cases h
noncomputable def f_X11_lateN_21 (sh : px_Sh) (M : px_M) (L : px_L) (R : px_R) (n : Nat) (x1 : Int32) (x2 : Int32) : Option (Int32 × px_Sh × px_M × px_L × px_R × Nat) :=
  bd1 (f_X8_strength sh M R) fun e_31 =>
  bd1 (f_X9_daysInAllN sh M L R n x1 x2 e_31) fun e_34 =>
  some (e_34.1, e_34.2.1, e_34.2.2.1, e_34.2.2.2.1, e_34.2.2.2.2.1, e_34.2.2.2.2.2)
theorem s_X11_lateN_21 {x1 : Int32} {x2 : Int32} {M : px_M} {L : px_L} {R : px_R} {e : (Int32 × px_Sh × px_M × px_L × px_R × Nat)} (hS : SR sh R) (hd : 7 ≤ d) (hcu : cu + 2 ≤ mc) (hsu : su + 20996 ≤ ms) (hn : 220 ≤ n) (h : f_X11_lateN_21 sh M L R n x1 x2 = some e) (g : SR (e.2.1) (e.2.2.2.2.1) → 220 ≤ (e.2.2.2.2.2) → Post (some (.int (e.1))) (e.2.1) (e.2.2.1) (e.2.2.2.1) (e.2.2.2.2.1) (e.2.2.2.2.2)) : WX RX11 cX11_late 3 (some .int) ("late", []) d mc ms X (px_QF Post mc ms) 21 [(0, .ref 0), (1, .int x1), (2, .int x2)] [] sh M L R n cu su := by
  unfold f_X11_lateN_21 at h
  refine wx_aload_n dX11_late_21 rfl ?_
  refine wx_getR dX11_late_22 fl_X11_26 (sc_0 hS) rfl (rr_0_2 hS) ?_
  refine wx_iload_n dX11_late_25 rfl ?_
  refine wx_iload_n dX11_late_26 rfl ?_
  refine wx_aload_n dX11_late_27 rfl ?_
  refine wx_getR dX11_late_28 fl_X11_19 (sc_0 hS) rfl (rr_0_1 hS) ?_
  obtain ⟨e_31, k_31, h⟩ := bd1_some h
  refine wx_cVi dX11_late_31 ml_X11_208 my_X8_strength iv_X8_strength (sc_6 hS) (by decide) (s_X8_strength (d := d - 1) hS (by omega) k_31) rfl (by omega) (by exact Nat.le_of_ble_eq_true rfl) (show cu + 0 ≤ mc by omega) (show su + 0 ≤ ms by omega) ?_
  obtain ⟨e_34, k_34, h⟩ := bd1_some h
  refine wx_aVi dX11_late_34 ml_X11_338 my_X9_daysInAll iv_X9_daysInAll (sc_14 hS) (by decide) (s_X9_daysInAllN (d := d - 1) hS (by omega) hn k_34) rfl (by omega) (by exact Nat.le_of_ble_eq_true rfl) (show cu + 2 ≤ mc by omega) (show su + 20996 ≤ ms by omega) (fun hS hn => ?_)
  refine wx_iret dX11_late_37 (show cu + 2 ≤ mc by omega) (show su + 20996 ≤ ms by omega) ?_
  obtain rfl := Option.some.inj h
  exact g hS hn
noncomputable def f_X11_lateN (sh : px_Sh) (M : px_M) (L : px_L) (R : px_R) (n : Nat) (p1 : Int32) (p2 : Int32) : Option ((Int32 × px_Sh × px_M × px_L × px_R × Nat) ⊕ Nat) :=
  bd1 (f_X9_hasWorld M p1) fun e_5 =>
  if e_5 = 0 then some (.inr 2) else
  bd1 (f_X11_within p2 0 20) fun e_15 =>
  if e_15 = 0 then some (.inr 0) else
  bd1 (f_X11_lateN_21 sh M L R n p1 p2) fun r_21 => some (.inl r_21)
theorem s_X11_lateN {d : Nat} {X : Nat × (Nat → Int32)} {sh : px_Sh} {M : px_M} {L : px_L} {R : px_R} {n : Nat} {p1 : Int32} {p2 : Int32} {e : Int32 × px_Sh × px_M × px_L × px_R × Nat} (hS : SR sh R) (hd : 7 ≤ d) (hn : 220 ≤ n) (h : f_X11_lateN sh M L R n p1 p2 = some (.inl e)) : MXT yX11_late cX11_late 3 (some .int) d 2 20996 X [.ref 0, .int p1, .int p2] sh M L R n (px_pa (some (.int e.1)) e.2.1 e.2.2.1 e.2.2.2.1 e.2.2.2.2.1 e.2.2.2.2.2) px_nx := by
  refine MXT.of (by decide +kernel) (by exact Nat.le_of_ble_eq_true rfl) ?_
  have hcu : 0 ≤ 2 := Nat.zero_le _
  have hsu : 0 ≤ 20996 := Nat.zero_le _
  have g : SR e.2.1 e.2.2.2.2.1 → 220 ≤ e.2.2.2.2.2 → px_pa (some (.int e.1)) e.2.1 e.2.2.1 e.2.2.2.1 e.2.2.2.2.1 e.2.2.2.2.2 (some (.int e.1)) e.2.1 e.2.2.1 e.2.2.2.1 e.2.2.2.2.1 e.2.2.2.2.2 := fun q q2 => ⟨⟨rfl, rfl, rfl, rfl, rfl, rfl⟩, q, q2⟩
  unfold f_X11_lateN at h
  refine wx_aload_n dX11_late_0 rfl ?_
  refine wx_getR dX11_late_1 fl_X11_26 (sc_0 hS) rfl (rr_0_2 hS) ?_
  refine wx_iload_n dX11_late_4 rfl ?_
  obtain ⟨e_5, k_5, h⟩ := bd1_some h
  refine wx_cVi dX11_late_5 ml_X11_194 my_X9_hasWorld iv_X9_hasWorld (sc_14 hS) (by decide) (s_X9_hasWorld (d := d - 1) hS (by omega) k_5) rfl (by omega) (by exact Nat.le_of_ble_eq_true rfl) (show 0 + 0 ≤ 2 by omega) (show 0 + 0 ≤ 20996 by omega) ?_
  by_cases c_8 : e_5 = 0
  · replace h := it_t h c_8
    cases h
  replace h := it_f h c_8
  refine wx_needT dX11_late_8 nl_needIndex my_X11_needIndex sv_X11_needIndex (mT_needIndex (d := d - 1) c_8) (by omega) (by exact Nat.le_of_ble_eq_true rfl) (show 0 + 0 ≤ 2 by omega) (show 0 + 0 ≤ 20996 by omega) ?_
  refine wx_iload_n dX11_late_11 rfl ?_
  refine wx_iconst (v := 0) dX11_late_12 (by decide) ?_
  refine wx_bipush (v := 20) dX11_late_13 (by decide) ?_
  obtain ⟨e_15, k_15, h⟩ := bd1_some h
  refine wx_cSi dX11_late_15 ml_X11_65 my_X11_within sv_X11_within (s_X11_within (d := d - 1) hS (by omega) k_15) rfl (by omega) (by exact Nat.le_of_ble_eq_true rfl) (show 0 + 0 ≤ 2 by omega) (show 0 + 0 ≤ 20996 by omega) ?_
  by_cases c_18 : e_15 = 0
  · replace h := it_t h c_18
    cases h
  replace h := it_f h c_18
  refine wx_needT dX11_late_18 nl_needArgument my_X11_needArgument sv_X11_needArgument (mT_needArgument (d := d - 1) c_18) (by omega) (by exact Nat.le_of_ble_eq_true rfl) (show 0 + 0 ≤ 2 by omega) (show 0 + 0 ≤ 20996 by omega) ?_
  obtain ⟨r_21, k_21, h⟩ := bd1_some h
  cases h
  exact wx_rx (wx_sub (s_X11_lateN_21 hS hd (show 0 + 2 ≤ 2 by omega) (show 0 + 20996 ≤ 20996 by omega) hn k_21 g) (px_s rfl (px_s rfl (px_s rfl px_0))))
theorem x_X11_lateN {d : Nat} {X : Nat × (Nat → Int32)} {sh : px_Sh} {M : px_M} {L : px_L} {R : px_R} {n : Nat} {p1 : Int32} {p2 : Int32} {e : Nat} (hS : SR sh R) (hd : 7 ≤ d) (hn : 220 ≤ n) (h : f_X11_lateN sh M L R n p1 p2 = some (.inr e)) : MXT yX11_late cX11_late 3 (some .int) d 1 6 X [.ref 0, .int p1, .int p2] sh M L R n px_np (px_px (px_xn e) sh M L R n) := by
  refine MXT.of (by decide +kernel) (by exact Nat.le_of_ble_eq_true rfl) ?_
  have hcu : 0 ≤ 1 := Nat.zero_le _
  have hsu : 0 ≤ 6 := Nat.zero_le _
  have g : ∀ n', n ≤ n' → px_px (px_xn e) sh M L R n (px_xn e) sh M L R n' := fun n' hn => ⟨rfl, rfl, rfl, rfl, rfl, hn⟩
  unfold f_X11_lateN at h
  refine wx_aload_n dX11_late_0 rfl ?_
  refine wx_getR dX11_late_1 fl_X11_26 (sc_0 hS) rfl (rr_0_2 hS) ?_
  refine wx_iload_n dX11_late_4 rfl ?_
  obtain ⟨e_5, k_5, h⟩ := bd1_some h
  refine wx_cVi dX11_late_5 ml_X11_194 my_X9_hasWorld iv_X9_hasWorld (sc_14 hS) (by decide) (s_X9_hasWorld (d := d - 1) hS (by omega) k_5) rfl (by omega) (by exact Nat.le_of_ble_eq_true rfl) (show 0 + 0 ≤ 1 by omega) (show 0 + 0 ≤ 6 by omega) ?_
  by_cases c_8 : e_5 = 0
  · replace h := it_t h c_8
    obtain rfl := Sum.inr.inj (Option.some.inj h)
    exact wx_needF dX11_late_8 nl_needIndex my_X11_needIndex sv_X11_needIndex (mF_needIndex (d := d - 1) (by omega) c_8) (by omega) (by exact Nat.le_of_ble_eq_true rfl) (show 0 + 1 ≤ 1 by omega) (show 0 + 6 ≤ 6 by omega) g
  replace h := it_f h c_8
  refine wx_needT dX11_late_8 nl_needIndex my_X11_needIndex sv_X11_needIndex (mT_needIndex (d := d - 1) c_8) (by omega) (by exact Nat.le_of_ble_eq_true rfl) (show 0 + 0 ≤ 1 by omega) (show 0 + 0 ≤ 6 by omega) ?_
  refine wx_iload_n dX11_late_11 rfl ?_
  refine wx_iconst (v := 0) dX11_late_12 (by decide) ?_
  refine wx_bipush (v := 20) dX11_late_13 (by decide) ?_
  obtain ⟨e_15, k_15, h⟩ := bd1_some h
  refine wx_cSi dX11_late_15 ml_X11_65 my_X11_within sv_X11_within (s_X11_within (d := d - 1) hS (by omega) k_15) rfl (by omega) (by exact Nat.le_of_ble_eq_true rfl) (show 0 + 0 ≤ 1 by omega) (show 0 + 0 ≤ 6 by omega) ?_
  by_cases c_18 : e_15 = 0
  · replace h := it_t h c_18
    obtain rfl := Sum.inr.inj (Option.some.inj h)
    exact wx_needF dX11_late_18 nl_needArgument my_X11_needArgument sv_X11_needArgument (mF_needArgument (d := d - 1) (by omega) c_18) (by omega) (by exact Nat.le_of_ble_eq_true rfl) (show 0 + 1 ≤ 1 by omega) (show 0 + 6 ≤ 6 by omega) g
  replace h := it_f h c_18
  refine wx_needT dX11_late_18 nl_needArgument my_X11_needArgument sv_X11_needArgument (mT_needArgument (d := d - 1) c_18) (by omega) (by exact Nat.le_of_ble_eq_true rfl) (show 0 + 0 ≤ 1 by omega) (show 0 + 0 ≤ 6 by omega) ?_
  obtain ⟨r_21, k_21, h⟩ := bd1_some h
  cases h
noncomputable def f_X11_windowN_11 (sh : px_Sh) (M : px_M) (L : px_L) (R : px_R) (n : Nat) (x1 : Int32) : Option (Int32 × px_Sh × px_M × px_L × px_R × Nat) :=
  bd1 (f_X8_strength sh M R) fun e_20 =>
  bd1 (f_X9_bestWaitingN sh M L R n x1 e_20) fun e_23 =>
  some (e_23.1, e_23.2.1, e_23.2.2.1, e_23.2.2.2.1, e_23.2.2.2.2.1, e_23.2.2.2.2.2)
theorem s_X11_windowN_11 {x1 : Int32} {M : px_M} {L : px_L} {R : px_R} {e : (Int32 × px_Sh × px_M × px_L × px_R × Nat)} (hS : SR sh R) (hd : 7 ≤ d) (hcu : cu + 2 ≤ mc) (hsu : su + 20996 ≤ ms) (hn : 220 ≤ n) (h : f_X11_windowN_11 sh M L R n x1 = some e) (g : SR (e.2.1) (e.2.2.2.2.1) → 220 ≤ (e.2.2.2.2.2) → Post (some (.int (e.1))) (e.2.1) (e.2.2.1) (e.2.2.2.1) (e.2.2.2.2.1) (e.2.2.2.2.2)) : WX RX11 cX11_window 2 (some .int) ("window", []) d mc ms X (px_QF Post mc ms) 11 [(0, .ref 0), (1, .int x1)] [] sh M L R n cu su := by
  unfold f_X11_windowN_11 at h
  refine wx_aload_n dX11_window_11 rfl ?_
  refine wx_getR dX11_window_12 fl_X11_26 (sc_0 hS) rfl (rr_0_2 hS) ?_
  refine wx_iload_n dX11_window_15 rfl ?_
  refine wx_aload_n dX11_window_16 rfl ?_
  refine wx_getR dX11_window_17 fl_X11_19 (sc_0 hS) rfl (rr_0_1 hS) ?_
  obtain ⟨e_20, k_20, h⟩ := bd1_some h
  refine wx_cVi dX11_window_20 ml_X11_208 my_X8_strength iv_X8_strength (sc_6 hS) (by decide) (s_X8_strength (d := d - 1) hS (by omega) k_20) rfl (by omega) (by exact Nat.le_of_ble_eq_true rfl) (show cu + 0 ≤ mc by omega) (show su + 0 ≤ ms by omega) ?_
  obtain ⟨e_23, k_23, h⟩ := bd1_some h
  refine wx_aVi dX11_window_23 ml_X11_341 my_X9_bestWaiting iv_X9_bestWaiting (sc_14 hS) (by decide) (s_X9_bestWaitingN (d := d - 1) hS (by omega) hn k_23) rfl (by omega) (by exact Nat.le_of_ble_eq_true rfl) (show cu + 2 ≤ mc by omega) (show su + 20996 ≤ ms by omega) (fun hS hn => ?_)
  refine wx_iret dX11_window_26 (show cu + 2 ≤ mc by omega) (show su + 20996 ≤ ms by omega) ?_
  obtain rfl := Option.some.inj h
  exact g hS hn
noncomputable def f_X11_windowN (sh : px_Sh) (M : px_M) (L : px_L) (R : px_R) (n : Nat) (p1 : Int32) : Option ((Int32 × px_Sh × px_M × px_L × px_R × Nat) ⊕ Nat) :=
  bd1 (f_X9_hasWorld M p1) fun e_5 =>
  if e_5 = 0 then some (.inr 2) else
  bd1 (f_X11_windowN_11 sh M L R n p1) fun r_11 => some (.inl r_11)
theorem s_X11_windowN {d : Nat} {X : Nat × (Nat → Int32)} {sh : px_Sh} {M : px_M} {L : px_L} {R : px_R} {n : Nat} {p1 : Int32} {e : Int32 × px_Sh × px_M × px_L × px_R × Nat} (hS : SR sh R) (hd : 7 ≤ d) (hn : 220 ≤ n) (h : f_X11_windowN sh M L R n p1 = some (.inl e)) : MXT yX11_window cX11_window 2 (some .int) d 2 20996 X [.ref 0, .int p1] sh M L R n (px_pa (some (.int e.1)) e.2.1 e.2.2.1 e.2.2.2.1 e.2.2.2.2.1 e.2.2.2.2.2) px_nx := by
  refine MXT.of (by decide +kernel) (by exact Nat.le_of_ble_eq_true rfl) ?_
  have hcu : 0 ≤ 2 := Nat.zero_le _
  have hsu : 0 ≤ 20996 := Nat.zero_le _
  have g : SR e.2.1 e.2.2.2.2.1 → 220 ≤ e.2.2.2.2.2 → px_pa (some (.int e.1)) e.2.1 e.2.2.1 e.2.2.2.1 e.2.2.2.2.1 e.2.2.2.2.2 (some (.int e.1)) e.2.1 e.2.2.1 e.2.2.2.1 e.2.2.2.2.1 e.2.2.2.2.2 := fun q q2 => ⟨⟨rfl, rfl, rfl, rfl, rfl, rfl⟩, q, q2⟩
  unfold f_X11_windowN at h
  refine wx_aload_n dX11_window_0 rfl ?_
  refine wx_getR dX11_window_1 fl_X11_26 (sc_0 hS) rfl (rr_0_2 hS) ?_
  refine wx_iload_n dX11_window_4 rfl ?_
  obtain ⟨e_5, k_5, h⟩ := bd1_some h
  refine wx_cVi dX11_window_5 ml_X11_194 my_X9_hasWorld iv_X9_hasWorld (sc_14 hS) (by decide) (s_X9_hasWorld (d := d - 1) hS (by omega) k_5) rfl (by omega) (by exact Nat.le_of_ble_eq_true rfl) (show 0 + 0 ≤ 2 by omega) (show 0 + 0 ≤ 20996 by omega) ?_
  by_cases c_8 : e_5 = 0
  · replace h := it_t h c_8
    cases h
  replace h := it_f h c_8
  refine wx_needT dX11_window_8 nl_needIndex my_X11_needIndex sv_X11_needIndex (mT_needIndex (d := d - 1) c_8) (by omega) (by exact Nat.le_of_ble_eq_true rfl) (show 0 + 0 ≤ 2 by omega) (show 0 + 0 ≤ 20996 by omega) ?_
  obtain ⟨r_11, k_11, h⟩ := bd1_some h
  cases h
  exact wx_rx (wx_sub (s_X11_windowN_11 hS hd (show 0 + 2 ≤ 2 by omega) (show 0 + 20996 ≤ 20996 by omega) hn k_11 g) (px_s rfl (px_s rfl px_0)))
theorem x_X11_windowN {d : Nat} {X : Nat × (Nat → Int32)} {sh : px_Sh} {M : px_M} {L : px_L} {R : px_R} {n : Nat} {p1 : Int32} {e : Nat} (hS : SR sh R) (hd : 7 ≤ d) (hn : 220 ≤ n) (h : f_X11_windowN sh M L R n p1 = some (.inr e)) : MXT yX11_window cX11_window 2 (some .int) d 1 6 X [.ref 0, .int p1] sh M L R n px_np (px_px (px_xn e) sh M L R n) := by
  refine MXT.of (by decide +kernel) (by exact Nat.le_of_ble_eq_true rfl) ?_
  have hcu : 0 ≤ 1 := Nat.zero_le _
  have hsu : 0 ≤ 6 := Nat.zero_le _
  have g : ∀ n', n ≤ n' → px_px (px_xn e) sh M L R n (px_xn e) sh M L R n' := fun n' hn => ⟨rfl, rfl, rfl, rfl, rfl, hn⟩
  unfold f_X11_windowN at h
  refine wx_aload_n dX11_window_0 rfl ?_
  refine wx_getR dX11_window_1 fl_X11_26 (sc_0 hS) rfl (rr_0_2 hS) ?_
  refine wx_iload_n dX11_window_4 rfl ?_
  obtain ⟨e_5, k_5, h⟩ := bd1_some h
  refine wx_cVi dX11_window_5 ml_X11_194 my_X9_hasWorld iv_X9_hasWorld (sc_14 hS) (by decide) (s_X9_hasWorld (d := d - 1) hS (by omega) k_5) rfl (by omega) (by exact Nat.le_of_ble_eq_true rfl) (show 0 + 0 ≤ 1 by omega) (show 0 + 0 ≤ 6 by omega) ?_
  by_cases c_8 : e_5 = 0
  · replace h := it_t h c_8
    obtain rfl := Sum.inr.inj (Option.some.inj h)
    exact wx_needF dX11_window_8 nl_needIndex my_X11_needIndex sv_X11_needIndex (mF_needIndex (d := d - 1) (by omega) c_8) (by omega) (by exact Nat.le_of_ble_eq_true rfl) (show 0 + 1 ≤ 1 by omega) (show 0 + 6 ≤ 6 by omega) g
  replace h := it_f h c_8
  refine wx_needT dX11_window_8 nl_needIndex my_X11_needIndex sv_X11_needIndex (mT_needIndex (d := d - 1) c_8) (by omega) (by exact Nat.le_of_ble_eq_true rfl) (show 0 + 0 ≤ 1 by omega) (show 0 + 0 ≤ 6 by omega) ?_
  obtain ⟨r_11, k_11, h⟩ := bd1_some h
  cases h
end LIFT
